/-! BasketEnvoysModel.isNoddedAt -/
def X11_isNoddedAt_j126 (F : Nat) (a1 : Int32) (a5 : Int32) (τ : Tau) : Option (Int32 × Tau) :=
  ald τ 1 2244 (129 + a1) fun v14 => ast τ 1 2244 (129 + a1) (v14 + 1) fun τ15 => some (vp_nar .boolean a5, τ15)
theorem s_X11_isNoddedAt_j126 (F : Nat) {K : Ctx} (C : Cx K sysM RX11 cX11_isNoddedAt 6 6) (hr : Rt K (some .boolean)) (a1 : Int32) (a5 : Int32) (τ : Tau) : Sm K sysM 6 (Qi K sysM) (X11_isNoddedAt_j126 F a1 a5 τ) 126 [(0, .ref 0), (1, .int a1), (5, .int a5)] [] τ := by
  unfold X11_isNoddedAt_j126
  refine sm_seg C [(.aload_n 0, 0)] (pc' := 127) (L' := [(0, .ref 0), (1, .int a1), (5, .int a5)]) (S' := [.ref 0]) (by decide +kernel) rfl ?_
  refine sm_getR 11 0 1 cls11 C (ltM (by decide +kernel : kdM 0 = 11) (by decide)) (by decide +kernel : kdM 0 = 11) (obM11 (by decide +kernel : kdM 0 = 11)) (by decide) (frM11_0 (by decide +kernel : kdM 0 = 11)) fl11_7 (by decide +kernel) ?_
  refine sm_seg C [(.sipush 129, 129), (.iload_n 1, 0), (.iadd, 0), (.dup2, 0)] (pc' := 136) (L' := [(0, .ref 0), (1, .int a1), (5, .int a5)]) (S' := [.int (129 + a1), .ref 1, .int (129 + a1), .ref 1]) (by decide +kernel) rfl ?_
  refine sm_ald 2244 C (ltM (krM11_0 (by decide +kernel : kdM 0 = 11)) (by decide)) (krM11_0 (by decide +kernel : kdM 0 = 11)) (nrM11_0 (by decide +kernel : kdM 0 = 11)) (by decide +kernel) (fun v14 => ?_)
  refine sm_seg C [(.iconst 1, 1), (.iadd, 0)] (pc' := 139) (L' := [(0, .ref 0), (1, .int a1), (5, .int a5)]) (S' := [.int (v14 + 1), .int (129 + a1), .ref 1]) (by decide +kernel) rfl ?_
  refine sm_ast 2244 C (ltM (krM11_0 (by decide +kernel : kdM 0 = 11)) (by decide)) (krM11_0 (by decide +kernel : kdM 0 = 11)) (nrM11_0 (by decide +kernel : kdM 0 = 11)) (by decide +kernel) (fun τ15 => ?_)
  refine sm_seg C [(.iload 5, 0)] (pc' := 142) (L' := [(0, .ref 0), (1, .int a1), (5, .int a5)]) (S' := [.int a5]) (by decide +kernel) rfl ?_
  exact sm_iret C hr nar_boolean (by decide +kernel)
def X11_isNoddedAt_j41 (F : Nat) (a1 : Int32) (a2 : Int32) (a3 : Int32) (a4 : Int32) (a5 : Int32) (z0 : Int32) (τ : Tau) : Option (Int32 × Tau) :=
  cal (X11_notes F z0 a1 a4 τ) fun r8 τ9 => if a5 = 0 then (ald τ9 1 2244 (5 + a3) fun v10 => cal (X11_greater F 0 (v10 - 1) τ9) fun r11 τ12 => ast τ12 1 2244 (5 + a3) r11 fun τ13 => X11_isNoddedAt_j126 F a1 a5 τ13) else (ald τ9 1 2244 (25 + a3) fun v16 => ast τ9 1 2244 (25 + a3) (v16 + 1) fun τ17 => ald τ17 1 2244 (5 + a3) fun v18 => cal (X11_winsOf F a1 a2 τ17) fun r19 τ20 => cal (X11_lesser F 99 (v18 + r19) τ20) fun r21 τ22 => ast τ22 1 2244 (5 + a3) r21 fun τ23 => cal (X11_isRead F a1 a3 a4 τ23) fun r24 τ25 => X11_isNoddedAt_j126 F a1 a5 τ25)
theorem s_X11_isNoddedAt_j41 (F : Nat) {K : Ctx} (C : Cx K sysM RX11 cX11_isNoddedAt 6 6) (hr : Rt K (some .boolean)) (a1 : Int32) (a2 : Int32) (a3 : Int32) (a4 : Int32) (a5 : Int32) (z0 : Int32) (τ : Tau) : Sm K sysM 6 (Qi K sysM) (X11_isNoddedAt_j41 F a1 a2 a3 a4 a5 z0 τ) 41 [(0, .ref 0), (1, .int a1), (2, .int a2), (3, .int a3), (4, .int a4), (5, .int a5)] [.int z0, .ref 0] τ := by
  unfold X11_isNoddedAt_j41
  refine sm_seg C [(.iload_n 1, 0), (.iload 4, 0)] (pc' := 44) (L' := [(0, .ref 0), (1, .int a1), (2, .int a2), (3, .int a3), (4, .int a4), (5, .int a5)]) (S' := [.int a4, .int a1, .int z0, .ref 0]) (by decide +kernel) rfl ?_
  refine sm_vcalv [.int z0, .int a1, .int a4] [] rfl C mw_X11_notes ml_11_325 rfl (ci := 11) rfl (ltM (by decide +kernel : kdM 0 = 11) (by decide)) (by decide +kernel : kdM 0 = 11) (by decide) ⟨by decide, by decide⟩ (Nat.le_of_ble_eq_true rfl) (by decide +kernel) (c_X11_notes F z0 a1 a4 τ) (fun r8 τ9 => ?_)
  refine sm_seg C [(.iload 5, 0)] (pc' := 49) (L' := [(0, .ref 0), (1, .int a1), (2, .int a2), (3, .int a3), (4, .int a4), (5, .int a5)]) (S' := [.int a5]) (by decide +kernel) rfl ?_
  refine sm_ifeq 104 (off := 55) C (by decide +kernel) (by decide) (fun _ => ?_) (fun _ => ?_)
  · refine sm_seg C [(.aload_n 0, 0)] (pc' := 105) (L' := [(0, .ref 0), (1, .int a1), (2, .int a2), (3, .int a3), (4, .int a4), (5, .int a5)]) (S' := [.ref 0]) (by decide +kernel) rfl ?_
    refine sm_getR 11 0 1 cls11 C (ltM (by decide +kernel : kdM 0 = 11) (by decide)) (by decide +kernel : kdM 0 = 11) (obM11 (by decide +kernel : kdM 0 = 11)) (by decide) (frM11_0 (by decide +kernel : kdM 0 = 11)) fl11_7 (by decide +kernel) ?_
    refine sm_seg C [(.iconst 5, 5), (.iload_n 3, 0), (.iadd, 0), (.iconst 0, 0), (.aload_n 0, 0)] (pc' := 113) (L' := [(0, .ref 0), (1, .int a1), (2, .int a2), (3, .int a3), (4, .int a4), (5, .int a5)]) (S' := [.ref 0, .int 0, .int (5 + a3), .ref 1]) (by decide +kernel) rfl ?_
    refine sm_getR 11 0 1 cls11 C (ltM (by decide +kernel : kdM 0 = 11) (by decide)) (by decide +kernel : kdM 0 = 11) (obM11 (by decide +kernel : kdM 0 = 11)) (by decide) (frM11_0 (by decide +kernel : kdM 0 = 11)) fl11_7 (by decide +kernel) ?_
    refine sm_seg C [(.iconst 5, 5), (.iload_n 3, 0), (.iadd, 0)] (pc' := 119) (L' := [(0, .ref 0), (1, .int a1), (2, .int a2), (3, .int a3), (4, .int a4), (5, .int a5)]) (S' := [.int (5 + a3), .ref 1, .int 0, .int (5 + a3), .ref 1]) (by decide +kernel) rfl ?_
    refine sm_ald 2244 C (ltM (krM11_0 (by decide +kernel : kdM 0 = 11)) (by decide)) (krM11_0 (by decide +kernel : kdM 0 = 11)) (nrM11_0 (by decide +kernel : kdM 0 = 11)) (by decide +kernel) (fun v10 => ?_)
    refine sm_seg C [(.iconst 1, 1), (.isub, 0)] (pc' := 122) (L' := [(0, .ref 0), (1, .int a1), (2, .int a2), (3, .int a3), (4, .int a4), (5, .int a5)]) (S' := [.int (v10 - 1), .int 0, .int (5 + a3), .ref 1]) (by decide +kernel) rfl ?_
    refine sm_scal [.int 0, .int (v10 - 1)] [.int (5 + a3), .ref 1] rfl C mw_X11_greater ml_11_306 rfl ⟨by decide, by decide⟩ (Nat.le_of_ble_eq_true rfl) (by decide +kernel) (c_X11_greater F 0 (v10 - 1) τ9) (fun r11 τ12 => ?_)
    refine sm_ast 2244 C (ltM (krM11_0 (by decide +kernel : kdM 0 = 11)) (by decide)) (krM11_0 (by decide +kernel : kdM 0 = 11)) (nrM11_0 (by decide +kernel : kdM 0 = 11)) (by decide +kernel) (fun τ13 => ?_)
    exact sm_sub [0, 1, 5] rfl (s_X11_isNoddedAt_j126 F C hr a1 a5 τ13)
  · refine sm_seg C [(.aload_n 0, 0)] (pc' := 53) (L' := [(0, .ref 0), (1, .int a1), (2, .int a2), (3, .int a3), (4, .int a4), (5, .int a5)]) (S' := [.ref 0]) (by decide +kernel) rfl ?_
    refine sm_getR 11 0 1 cls11 C (ltM (by decide +kernel : kdM 0 = 11) (by decide)) (by decide +kernel : kdM 0 = 11) (obM11 (by decide +kernel : kdM 0 = 11)) (by decide) (frM11_0 (by decide +kernel : kdM 0 = 11)) fl11_7 (by decide +kernel) ?_
    refine sm_seg C [(.bipush 25, 25), (.iload_n 3, 0), (.iadd, 0), (.dup2, 0)] (pc' := 61) (L' := [(0, .ref 0), (1, .int a1), (2, .int a2), (3, .int a3), (4, .int a4), (5, .int a5)]) (S' := [.int (25 + a3), .ref 1, .int (25 + a3), .ref 1]) (by decide +kernel) rfl ?_
    refine sm_ald 2244 C (ltM (krM11_0 (by decide +kernel : kdM 0 = 11)) (by decide)) (krM11_0 (by decide +kernel : kdM 0 = 11)) (nrM11_0 (by decide +kernel : kdM 0 = 11)) (by decide +kernel) (fun v16 => ?_)
    refine sm_seg C [(.iconst 1, 1), (.iadd, 0)] (pc' := 64) (L' := [(0, .ref 0), (1, .int a1), (2, .int a2), (3, .int a3), (4, .int a4), (5, .int a5)]) (S' := [.int (v16 + 1), .int (25 + a3), .ref 1]) (by decide +kernel) rfl ?_
    refine sm_ast 2244 C (ltM (krM11_0 (by decide +kernel : kdM 0 = 11)) (by decide)) (krM11_0 (by decide +kernel : kdM 0 = 11)) (nrM11_0 (by decide +kernel : kdM 0 = 11)) (by decide +kernel) (fun τ17 => ?_)
    refine sm_seg C [(.aload_n 0, 0)] (pc' := 66) (L' := [(0, .ref 0), (1, .int a1), (2, .int a2), (3, .int a3), (4, .int a4), (5, .int a5)]) (S' := [.ref 0]) (by decide +kernel) rfl ?_
    refine sm_getR 11 0 1 cls11 C (ltM (by decide +kernel : kdM 0 = 11) (by decide)) (by decide +kernel : kdM 0 = 11) (obM11 (by decide +kernel : kdM 0 = 11)) (by decide) (frM11_0 (by decide +kernel : kdM 0 = 11)) fl11_7 (by decide +kernel) ?_
    refine sm_seg C [(.iconst 5, 5), (.iload_n 3, 0), (.iadd, 0), (.bipush 99, 99), (.aload_n 0, 0)] (pc' := 75) (L' := [(0, .ref 0), (1, .int a1), (2, .int a2), (3, .int a3), (4, .int a4), (5, .int a5)]) (S' := [.ref 0, .int 99, .int (5 + a3), .ref 1]) (by decide +kernel) rfl ?_
    refine sm_getR 11 0 1 cls11 C (ltM (by decide +kernel : kdM 0 = 11) (by decide)) (by decide +kernel : kdM 0 = 11) (obM11 (by decide +kernel : kdM 0 = 11)) (by decide) (frM11_0 (by decide +kernel : kdM 0 = 11)) fl11_7 (by decide +kernel) ?_
    refine sm_seg C [(.iconst 5, 5), (.iload_n 3, 0), (.iadd, 0)] (pc' := 81) (L' := [(0, .ref 0), (1, .int a1), (2, .int a2), (3, .int a3), (4, .int a4), (5, .int a5)]) (S' := [.int (5 + a3), .ref 1, .int 99, .int (5 + a3), .ref 1]) (by decide +kernel) rfl ?_
    refine sm_ald 2244 C (ltM (krM11_0 (by decide +kernel : kdM 0 = 11)) (by decide)) (krM11_0 (by decide +kernel : kdM 0 = 11)) (nrM11_0 (by decide +kernel : kdM 0 = 11)) (by decide +kernel) (fun v18 => ?_)
    refine sm_seg C [(.aload_n 0, 0), (.iload_n 1, 0), (.iload_n 2, 0)] (pc' := 85) (L' := [(0, .ref 0), (1, .int a1), (2, .int a2), (3, .int a3), (4, .int a4), (5, .int a5)]) (S' := [.int a2, .int a1, .ref 0, .int v18, .int 99, .int (5 + a3), .ref 1]) (by decide +kernel) rfl ?_
    refine sm_vcal [.int a1, .int a2] [.int v18, .int 99, .int (5 + a3), .ref 1] rfl C mw_X11_winsOf ml_11_351 rfl (ci := 11) rfl (ltM (by decide +kernel : kdM 0 = 11) (by decide)) (by decide +kernel : kdM 0 = 11) (by decide) ⟨by decide, by decide⟩ (Nat.le_of_ble_eq_true rfl) (by decide +kernel) (c_X11_winsOf F a1 a2 τ17) (fun r19 τ20 => ?_)
    refine sm_seg C [(.iadd, 0)] (pc' := 89) (L' := [(0, .ref 0), (1, .int a1), (2, .int a2), (3, .int a3), (4, .int a4), (5, .int a5)]) (S' := [.int (v18 + r19), .int 99, .int (5 + a3), .ref 1]) (by decide +kernel) rfl ?_
    refine sm_scal [.int 99, .int (v18 + r19)] [.int (5 + a3), .ref 1] rfl C mw_X11_lesser ml_11_303 rfl ⟨by decide, by decide⟩ (Nat.le_of_ble_eq_true rfl) (by decide +kernel) (c_X11_lesser F 99 (v18 + r19) τ20) (fun r21 τ22 => ?_)
    refine sm_ast 2244 C (ltM (krM11_0 (by decide +kernel : kdM 0 = 11)) (by decide)) (krM11_0 (by decide +kernel : kdM 0 = 11)) (nrM11_0 (by decide +kernel : kdM 0 = 11)) (by decide +kernel) (fun τ23 => ?_)
    refine sm_seg C [(.aload_n 0, 0), (.iload_n 1, 0), (.iload_n 3, 0), (.iload 4, 0)] (pc' := 98) (L' := [(0, .ref 0), (1, .int a1), (2, .int a2), (3, .int a3), (4, .int a4), (5, .int a5)]) (S' := [.int a4, .int a3, .int a1, .ref 0]) (by decide +kernel) rfl ?_
    refine sm_vcalv [.int a1, .int a3, .int a4] [] rfl C mw_X11_isRead ml_11_354 rfl (ci := 11) rfl (ltM (by decide +kernel : kdM 0 = 11) (by decide)) (by decide +kernel : kdM 0 = 11) (by decide) ⟨by decide, by decide⟩ (Nat.le_of_ble_eq_true rfl) (by decide +kernel) (c_X11_isRead F a1 a3 a4 τ23) (fun r24 τ25 => ?_)
    refine sm_seg C [(.goto 25, 0)] (pc' := 126) (L' := [(0, .ref 0), (1, .int a1), (2, .int a2), (3, .int a3), (4, .int a4), (5, .int a5)]) (S' := []) (by decide +kernel) rfl ?_
    exact sm_sub [0, 1, 5] rfl (s_X11_isNoddedAt_j126 F C hr a1 a5 τ25)
def X11_isNoddedAt (F : Nat) (a1 : Int32) (a2 : Int32) (τ : Tau) : Option (Int32 × Tau) :=
  ald τ 1 2244 (87 + a1) fun v1 => cal (X11_meaning F v1 a2 τ) fun r2 τ3 => cal (X11_nodsOf F a1 a2 τ3) fun r4 τ5 => cal (X11_falls F r4 τ5) fun r6 τ7 => if r6 = 0 then (X11_isNoddedAt_j41 F a1 a2 v1 r2 r6 2 τ7) else (X11_isNoddedAt_j41 F a1 a2 v1 r2 r6 1 τ7)
set_option maxRecDepth 20000 in
set_option maxHeartbeats 4000000 in
theorem c_X11_isNoddedAt (F : Nat) (a1 : Int32) (a2 : Int32) (τ : Tau) (r : Int32) (τ' : Tau) (h : X11_isNoddedAt F a1 a2 τ = some (r, τ')) : MCi sysM yX11_isNoddedAt cX11_isNoddedAt 6 (some .boolean) 6 [.ref 0, .int a1, .int a2] τ r τ' :=
  mci_of (by decide +kernel) (Nat.le_of_ble_eq_true rfl) (fun K C hr => by
    show Sm K sysM 6 (Qi K sysM) (X11_isNoddedAt F a1 a2 τ) 0 [(0, .ref 0), (1, .int a1), (2, .int a2)] [] τ
    unfold X11_isNoddedAt
    refine sm_seg C [(.aload_n 0, 0)] (pc' := 1) (L' := [(0, .ref 0), (1, .int a1), (2, .int a2)]) (S' := [.ref 0]) (by decide +kernel) rfl ?_
    refine sm_getR 11 0 1 cls11 C (ltM (by decide +kernel : kdM 0 = 11) (by decide)) (by decide +kernel : kdM 0 = 11) (obM11 (by decide +kernel : kdM 0 = 11)) (by decide) (frM11_0 (by decide +kernel : kdM 0 = 11)) fl11_7 (by decide +kernel) ?_
    refine sm_seg C [(.bipush 87, 87), (.iload_n 1, 0), (.iadd, 0)] (pc' := 8) (L' := [(0, .ref 0), (1, .int a1), (2, .int a2)]) (S' := [.int (87 + a1), .ref 1]) (by decide +kernel) rfl ?_
    refine sm_ald 2244 C (ltM (krM11_0 (by decide +kernel : kdM 0 = 11)) (by decide)) (krM11_0 (by decide +kernel : kdM 0 = 11)) (nrM11_0 (by decide +kernel : kdM 0 = 11)) (by decide +kernel) (fun v1 => ?_)
    refine sm_seg C [(.istore_n 3, 0), (.aload_n 0, 0), (.iload_n 3, 0), (.iload_n 2, 0)] (pc' := 13) (L' := [(3, .int v1), (0, .ref 0), (1, .int a1), (2, .int a2)]) (S' := [.int a2, .int v1, .ref 0]) (by decide +kernel) rfl ?_
    refine sm_vcal [.int v1, .int a2] [] rfl C mw_X11_meaning ml_11_309 rfl (ci := 11) rfl (ltM (by decide +kernel : kdM 0 = 11) (by decide)) (by decide +kernel : kdM 0 = 11) (by decide) ⟨by decide, by decide⟩ (Nat.le_of_ble_eq_true rfl) (by decide +kernel) (c_X11_meaning F v1 a2 τ) (fun r2 τ3 => ?_)
    refine sm_seg C [(.istore 4, 0), (.aload_n 0, 0), (.aload_n 0, 0), (.iload_n 1, 0), (.iload_n 2, 0)] (pc' := 22) (L' := [(4, .int r2), (3, .int v1), (0, .ref 0), (1, .int a1), (2, .int a2)]) (S' := [.int a2, .int a1, .ref 0, .ref 0]) (by decide +kernel) rfl ?_
    refine sm_vcal [.int a1, .int a2] [.ref 0] rfl C mw_X11_nodsOf ml_11_348 rfl (ci := 11) rfl (ltM (by decide +kernel : kdM 0 = 11) (by decide)) (by decide +kernel : kdM 0 = 11) (by decide) ⟨by decide, by decide⟩ (Nat.le_of_ble_eq_true rfl) (by decide +kernel) (c_X11_nodsOf F a1 a2 τ3) (fun r4 τ5 => ?_)
    refine sm_vcal [.int r4] [] rfl C mw_X11_falls ml_11_345 rfl (ci := 11) rfl (ltM (by decide +kernel : kdM 0 = 11) (by decide)) (by decide +kernel : kdM 0 = 11) (by decide) ⟨by decide, by decide⟩ (Nat.le_of_ble_eq_true rfl) (by decide +kernel) (c_X11_falls F r4 τ5) (fun r6 τ7 => ?_)
    refine sm_seg C [(.istore 5, 0), (.aload_n 0, 0), (.iload 5, 0)] (pc' := 33) (L' := [(5, .int r6), (4, .int r2), (3, .int v1), (0, .ref 0), (1, .int a1), (2, .int a2)]) (S' := [.int r6, .ref 0]) (by decide +kernel) rfl ?_
    refine sm_ifeq 40 (off := 7) C (by decide +kernel) (by decide) (fun _ => ?_) (fun _ => ?_)
    · refine sm_seg C [(.iconst 2, 2)] (pc' := 41) (L' := [(5, .int r6), (4, .int r2), (3, .int v1), (0, .ref 0), (1, .int a1), (2, .int a2)]) (S' := [.int 2, .ref 0]) (by decide +kernel) rfl ?_
      exact sm_sub [3, 4, 5, 2, 1, 0] rfl (s_X11_isNoddedAt_j41 F C hr a1 a2 v1 r2 r6 2 τ7)
    · refine sm_seg C [(.iconst 1, 1), (.goto 4, 0)] (pc' := 41) (L' := [(5, .int r6), (4, .int r2), (3, .int v1), (0, .ref 0), (1, .int a1), (2, .int a2)]) (S' := [.int 1, .ref 0]) (by decide +kernel) rfl ?_
      exact sm_sub [3, 4, 5, 2, 1, 0] rfl (s_X11_isNoddedAt_j41 F C hr a1 a2 v1 r2 r6 1 τ7)) h
/-! BasketEnvoysModel.turnOf -/
def X11_turnOf (F : Nat) (a1 : Int32) (τ : Tau) : Option (Int32 × Tau) :=
  ald τ 1 2244 (87 + a1) fun v1 => if v1 = (-1) then (some (0, τ)) else (cal (X11_criesOf F a1 τ) fun r2 τ3 => cal (X11_falls F r2 τ3) fun r4 τ5 => if r4 = 0 then (cal (X11_nextThing F a1 τ5) fun r6 τ7 => if r6 = (-1) then (cal (X11_calls F a1 τ7) fun r8 τ9 => some (0, τ9)) else (cal (X11_isNoddedAt F a1 r6 τ7) fun r10 τ11 => if r10 = 0 then (some (0, τ11)) else (some (1, τ11)))) else (cal (X11_criesOut F a1 τ5) fun r12 τ13 => some (0, τ13)))
set_option maxRecDepth 20000 in
set_option maxHeartbeats 4000000 in
theorem c_X11_turnOf (F : Nat) (a1 : Int32) (τ : Tau) (r : Int32) (τ' : Tau) (h : X11_turnOf F a1 τ = some (r, τ')) : MCi sysM yX11_turnOf cX11_turnOf 3 (some .int) 7 [.ref 0, .int a1] τ r τ' :=
  mci_of (by decide +kernel) (Nat.le_of_ble_eq_true rfl) (fun K C hr => by
    show Sm K sysM 3 (Qi K sysM) (X11_turnOf F a1 τ) 0 [(0, .ref 0), (1, .int a1)] [] τ
    unfold X11_turnOf
    refine sm_seg C [(.aload_n 0, 0)] (pc' := 1) (L' := [(0, .ref 0), (1, .int a1)]) (S' := [.ref 0]) (by decide +kernel) rfl ?_
    refine sm_getR 11 0 1 cls11 C (ltM (by decide +kernel : kdM 0 = 11) (by decide)) (by decide +kernel : kdM 0 = 11) (obM11 (by decide +kernel : kdM 0 = 11)) (by decide) (frM11_0 (by decide +kernel : kdM 0 = 11)) fl11_7 (by decide +kernel) ?_
    refine sm_seg C [(.bipush 87, 87), (.iload_n 1, 0), (.iadd, 0)] (pc' := 8) (L' := [(0, .ref 0), (1, .int a1)]) (S' := [.int (87 + a1), .ref 1]) (by decide +kernel) rfl ?_
    refine sm_ald 2244 C (ltM (krM11_0 (by decide +kernel : kdM 0 = 11)) (by decide)) (krM11_0 (by decide +kernel : kdM 0 = 11)) (nrM11_0 (by decide +kernel : kdM 0 = 11)) (by decide +kernel) (fun v1 => ?_)
    refine sm_seg C [(.iconst (-1), (-1))] (pc' := 10) (L' := [(0, .ref 0), (1, .int a1)]) (S' := [.int (-1), .int v1]) (by decide +kernel) rfl ?_
    refine sm_icmpne 15 (off := 5) C (by decide +kernel) (by decide) (fun _ => ?_) (fun _ => ?_)
    · refine sm_seg C [(.iconst 0, 0)] (pc' := 14) (L' := [(0, .ref 0), (1, .int a1)]) (S' := [.int 0]) (by decide +kernel) rfl ?_
      exact sm_iret C hr rfl (by decide +kernel)
    · refine sm_seg C [(.aload_n 0, 0), (.aload_n 0, 0), (.iload_n 1, 0)] (pc' := 18) (L' := [(0, .ref 0), (1, .int a1)]) (S' := [.int a1, .ref 0, .ref 0]) (by decide +kernel) rfl ?_
      refine sm_vcal [.int a1] [.ref 0] rfl C mw_X11_criesOf ml_11_342 rfl (ci := 11) rfl (ltM (by decide +kernel : kdM 0 = 11) (by decide)) (by decide +kernel : kdM 0 = 11) (by decide) ⟨by decide, by decide⟩ (Nat.le_of_ble_eq_true rfl) (by decide +kernel) (c_X11_criesOf F a1 τ) (fun r2 τ3 => ?_)
      refine sm_vcal [.int r2] [] rfl C mw_X11_falls ml_11_345 rfl (ci := 11) rfl (ltM (by decide +kernel : kdM 0 = 11) (by decide)) (by decide +kernel : kdM 0 = 11) (by decide) ⟨by decide, by decide⟩ (Nat.le_of_ble_eq_true rfl) (by decide +kernel) (c_X11_falls F r2 τ3) (fun r4 τ5 => ?_)
      refine sm_ifeq 34 (off := 10) C (by decide +kernel) (by decide) (fun _ => ?_) (fun _ => ?_)
      · refine sm_seg C [(.aload_n 0, 0), (.iload_n 1, 0)] (pc' := 36) (L' := [(0, .ref 0), (1, .int a1)]) (S' := [.int a1, .ref 0]) (by decide +kernel) rfl ?_
        refine sm_vcal [.int a1] [] rfl C mw_X11_nextThing ml_11_360 rfl (ci := 11) rfl (ltM (by decide +kernel : kdM 0 = 11) (by decide)) (by decide +kernel : kdM 0 = 11) (by decide) ⟨by decide, by decide⟩ (Nat.le_of_ble_eq_true rfl) (by decide +kernel) (c_X11_nextThing F a1 τ5) (fun r6 τ7 => ?_)
        refine sm_seg C [(.istore_n 2, 0), (.iload_n 2, 0), (.iconst (-1), (-1))] (pc' := 42) (L' := [(2, .int r6), (0, .ref 0), (1, .int a1)]) (S' := [.int (-1), .int r6]) (by decide +kernel) rfl ?_
        refine sm_icmpne 52 (off := 10) C (by decide +kernel) (by decide) (fun _ => ?_) (fun _ => ?_)
        · refine sm_seg C [(.aload_n 0, 0), (.iload_n 1, 0)] (pc' := 47) (L' := [(2, .int r6), (0, .ref 0), (1, .int a1)]) (S' := [.int a1, .ref 0]) (by decide +kernel) rfl ?_
          refine sm_vcalv [.int a1] [] rfl C mw_X11_calls ml_11_338 rfl (ci := 11) rfl (ltM (by decide +kernel : kdM 0 = 11) (by decide)) (by decide +kernel : kdM 0 = 11) (by decide) ⟨by decide, by decide⟩ (Nat.le_of_ble_eq_true rfl) (by decide +kernel) (c_X11_calls F a1 τ7) (fun r8 τ9 => ?_)
          refine sm_seg C [(.iconst 0, 0)] (pc' := 51) (L' := [(2, .int r6), (0, .ref 0), (1, .int a1)]) (S' := [.int 0]) (by decide +kernel) rfl ?_
          exact sm_iret C hr rfl (by decide +kernel)
        · refine sm_seg C [(.aload_n 0, 0), (.iload_n 1, 0), (.iload_n 2, 0)] (pc' := 55) (L' := [(2, .int r6), (0, .ref 0), (1, .int a1)]) (S' := [.int r6, .int a1, .ref 0]) (by decide +kernel) rfl ?_
          refine sm_vcal [.int a1, .int r6] [] rfl C mw_X11_isNoddedAt ml_11_363 rfl (ci := 11) rfl (ltM (by decide +kernel : kdM 0 = 11) (by decide)) (by decide +kernel : kdM 0 = 11) (by decide) ⟨by decide, by decide⟩ (Nat.le_of_ble_eq_true rfl) (by decide +kernel) (c_X11_isNoddedAt F a1 r6 τ7) (fun r10 τ11 => ?_)
          refine sm_ifeq 65 (off := 7) C (by decide +kernel) (by decide) (fun _ => ?_) (fun _ => ?_)
          · refine sm_seg C [(.iconst 0, 0)] (pc' := 66) (L' := [(2, .int r6), (0, .ref 0), (1, .int a1)]) (S' := [.int 0]) (by decide +kernel) rfl ?_
            exact sm_iret C hr rfl (by decide +kernel)
          · refine sm_seg C [(.iconst 1, 1), (.goto 4, 0)] (pc' := 66) (L' := [(2, .int r6), (0, .ref 0), (1, .int a1)]) (S' := [.int 1]) (by decide +kernel) rfl ?_
            exact sm_iret C hr rfl (by decide +kernel)
      · refine sm_seg C [(.aload_n 0, 0), (.iload_n 1, 0)] (pc' := 29) (L' := [(0, .ref 0), (1, .int a1)]) (S' := [.int a1, .ref 0]) (by decide +kernel) rfl ?_
        refine sm_vcalv [.int a1] [] rfl C mw_X11_criesOut ml_11_357 rfl (ci := 11) rfl (ltM (by decide +kernel : kdM 0 = 11) (by decide)) (by decide +kernel : kdM 0 = 11) (by decide) ⟨by decide, by decide⟩ (Nat.le_of_ble_eq_true rfl) (by decide +kernel) (c_X11_criesOut F a1 τ5) (fun r12 τ13 => ?_)
        refine sm_seg C [(.iconst 0, 0)] (pc' := 33) (L' := [(0, .ref 0), (1, .int a1)]) (S' := [.int 0]) (by decide +kernel) rfl ?_
        exact sm_iret C hr rfl (by decide +kernel)) h
/-! BasketEnvoysModel.goesBy -/
def X11_goesBy_L8 (F : Nat) : Nat → Int32 → Int32 → Tau → Option (Int32 × Tau)
  | 0, _, _, _ => none
  | n + 1, a1, a2, τ =>
    ald τ 1 2244 256 fun v3 => if v3 ≤ a2 then (ald τ 1 2244 2 fun v4 => ast τ 1 2244 2 (v4 + 1) fun τ5 => some (a1, τ5)) else (cal (X11_turnOf F a2 τ) fun r6 τ7 => X11_goesBy_L8 F n (a1 + r6) (a2 + 1) τ7)
theorem s_X11_goesBy_L8 (F : Nat) {K : Ctx} (C : Cx K sysM RX11 cX11_goesBy 3 8) (hr : Rt K (some .int)) : ∀ (n : Nat) (a1 : Int32) (a2 : Int32) (τ : Tau), Sm K sysM 3 (Qi K sysM) (X11_goesBy_L8 F n a1 a2 τ) 8 [(0, .ref 0), (1, .int a1), (2, .int a2)] [] τ := by
  intro n
  induction n with
  | zero => intro a1 a2 τ; exact sm_none
  | succ n ih =>
    intro a1 a2 τ
    rw [X11_goesBy_L8]
    refine sm_seg C [(.iload_n 2, 0), (.aload_n 0, 0)] (pc' := 10) (L' := [(0, .ref 0), (1, .int a1), (2, .int a2)]) (S' := [.ref 0, .int a2]) (by decide +kernel) rfl ?_
    refine sm_getR 11 0 1 cls11 C (ltM (by decide +kernel : kdM 0 = 11) (by decide)) (by decide +kernel : kdM 0 = 11) (obM11 (by decide +kernel : kdM 0 = 11)) (by decide) (frM11_0 (by decide +kernel : kdM 0 = 11)) fl11_7 (by decide +kernel) ?_
    refine sm_seg C [(.sipush 256, 256)] (pc' := 16) (L' := [(0, .ref 0), (1, .int a1), (2, .int a2)]) (S' := [.int 256, .ref 1, .int a2]) (by decide +kernel) rfl ?_
    refine sm_ald 2244 C (ltM (krM11_0 (by decide +kernel : kdM 0 = 11)) (by decide)) (krM11_0 (by decide +kernel : kdM 0 = 11)) (nrM11_0 (by decide +kernel : kdM 0 = 11)) (by decide +kernel) (fun v3 => ?_)
    refine sm_icmpge 34 (off := 17) C (by decide +kernel) (by decide) (fun _ => ?_) (fun _ => ?_)
    · refine sm_seg C [(.aload_n 0, 0)] (pc' := 35) (L' := [(0, .ref 0), (1, .int a1), (2, .int a2)]) (S' := [.ref 0]) (by decide +kernel) rfl ?_
      refine sm_getR 11 0 1 cls11 C (ltM (by decide +kernel : kdM 0 = 11) (by decide)) (by decide +kernel : kdM 0 = 11) (obM11 (by decide +kernel : kdM 0 = 11)) (by decide) (frM11_0 (by decide +kernel : kdM 0 = 11)) fl11_7 (by decide +kernel) ?_
      refine sm_seg C [(.iconst 2, 2), (.dup2, 0)] (pc' := 40) (L' := [(0, .ref 0), (1, .int a1), (2, .int a2)]) (S' := [.int 2, .ref 1, .int 2, .ref 1]) (by decide +kernel) rfl ?_
      refine sm_ald 2244 C (ltM (krM11_0 (by decide +kernel : kdM 0 = 11)) (by decide)) (krM11_0 (by decide +kernel : kdM 0 = 11)) (nrM11_0 (by decide +kernel : kdM 0 = 11)) (by decide +kernel) (fun v4 => ?_)
      refine sm_seg C [(.iconst 1, 1), (.iadd, 0)] (pc' := 43) (L' := [(0, .ref 0), (1, .int a1), (2, .int a2)]) (S' := [.int (v4 + 1), .int 2, .ref 1]) (by decide +kernel) rfl ?_
      refine sm_ast 2244 C (ltM (krM11_0 (by decide +kernel : kdM 0 = 11)) (by decide)) (krM11_0 (by decide +kernel : kdM 0 = 11)) (nrM11_0 (by decide +kernel : kdM 0 = 11)) (by decide +kernel) (fun τ5 => ?_)
      refine sm_seg C [(.iload_n 1, 0)] (pc' := 45) (L' := [(0, .ref 0), (1, .int a1), (2, .int a2)]) (S' := [.int a1]) (by decide +kernel) rfl ?_
      exact sm_iret C hr rfl (by decide +kernel)
    · refine sm_seg C [(.iload_n 1, 0), (.aload_n 0, 0), (.iload_n 2, 0)] (pc' := 23) (L' := [(0, .ref 0), (1, .int a1), (2, .int a2)]) (S' := [.int a2, .ref 0, .int a1]) (by decide +kernel) rfl ?_
      refine sm_vcal [.int a2] [.int a1] rfl C mw_X11_turnOf ml_11_370 rfl (ci := 11) rfl (ltM (by decide +kernel : kdM 0 = 11) (by decide)) (by decide +kernel : kdM 0 = 11) (by decide) ⟨by decide, by decide⟩ (Nat.le_of_ble_eq_true rfl) (by decide +kernel) (c_X11_turnOf F a2 τ) (fun r6 τ7 => ?_)
      refine sm_seg C [(.iadd, 0), (.istore_n 1, 0), (.iinc 2 1, 1), (.goto (-23), 0)] (pc' := 8) (L' := [(2, .int (a2 + 1)), (1, .int (a1 + r6)), (0, .ref 0)]) (S' := []) (by decide +kernel) rfl ?_
      exact sm_sub [2, 1, 0] rfl (ih (a1 + r6) (a2 + 1) τ7)
def X11_goesBy (F : Nat) (τ : Tau) : Option (Int32 × Tau) :=
  cal (X11_court F τ) fun r1 τ2 => X11_goesBy_L8 F F 0 0 τ2
set_option maxRecDepth 20000 in
set_option maxHeartbeats 4000000 in
theorem c_X11_goesBy (F : Nat) (τ : Tau) (r : Int32) (τ' : Tau) (h : X11_goesBy F τ = some (r, τ')) : MCi sysM yX11_goesBy cX11_goesBy 3 (some .int) 8 [.ref 0] τ r τ' :=
  mci_of (by decide +kernel) (Nat.le_of_ble_eq_true rfl) (fun K C hr => by
    show Sm K sysM 3 (Qi K sysM) (X11_goesBy F τ) 0 [(0, .ref 0)] [] τ
    unfold X11_goesBy
    refine sm_seg C [(.aload_n 0, 0)] (pc' := 1) (L' := [(0, .ref 0)]) (S' := [.ref 0]) (by decide +kernel) rfl ?_
    refine sm_vcalv [] [] rfl C mw_X11_court ml_11_367 rfl (ci := 11) rfl (ltM (by decide +kernel : kdM 0 = 11) (by decide)) (by decide +kernel : kdM 0 = 11) (by decide) ⟨by decide, by decide⟩ (Nat.le_of_ble_eq_true rfl) (by decide +kernel) (c_X11_court F τ) (fun r1 τ2 => ?_)
    refine sm_seg C [(.iconst 0, 0), (.istore_n 1, 0), (.iconst 0, 0), (.istore_n 2, 0)] (pc' := 8) (L' := [(2, .int 0), (1, .int 0), (0, .ref 0)]) (S' := []) (by decide +kernel) rfl ?_
    exact sm_sub [2, 1, 0] rfl (s_X11_goesBy_L8 F C hr F 0 0 τ2)) h
/-! BasketEnvoysModel.days -/
def X11_days_L30 (F : Nat) : Nat → Int32 → Int32 → Int32 → Tau → Option (Int32 × Tau)
  | 0, _, _, _, _ => none
  | n + 1, a1, a2, a3, τ =>
    if a1 ≤ a3 then (some (a2, τ)) else (cal (X11_keeps F τ) fun r4 τ5 => cal (X11_goesBy F τ5) fun r6 τ7 => X11_days_L30 F n a1 (a2 + r6) (a3 + 1) τ7)
theorem s_X11_days_L30 (F : Nat) {K : Ctx} (C : Cx K sysM RX11 cX11_days 4 9) (hr : Rt K (some .int)) : ∀ (n : Nat) (a1 : Int32) (a2 : Int32) (a3 : Int32) (τ : Tau), Sm K sysM 4 (Qi K sysM) (X11_days_L30 F n a1 a2 a3 τ) 30 [(0, .ref 0), (1, .int a1), (2, .int a2), (3, .int a3)] [] τ := by
  intro n
  induction n with
  | zero => intro a1 a2 a3 τ; exact sm_none
  | succ n ih =>
    intro a1 a2 a3 τ
    rw [X11_days_L30]
    refine sm_seg C [(.iload_n 3, 0), (.iload_n 1, 0)] (pc' := 32) (L' := [(0, .ref 0), (1, .int a1), (2, .int a2), (3, .int a3)]) (S' := [.int a1, .int a3]) (by decide +kernel) rfl ?_
    refine sm_icmpge 52 (off := 20) C (by decide +kernel) (by decide) (fun _ => ?_) (fun _ => ?_)
    · refine sm_seg C [(.iload_n 2, 0)] (pc' := 53) (L' := [(0, .ref 0), (1, .int a1), (2, .int a2), (3, .int a3)]) (S' := [.int a2]) (by decide +kernel) rfl ?_
      exact sm_iret C hr rfl (by decide +kernel)
    · refine sm_seg C [(.aload_n 0, 0)] (pc' := 36) (L' := [(0, .ref 0), (1, .int a1), (2, .int a2), (3, .int a3)]) (S' := [.ref 0]) (by decide +kernel) rfl ?_
      refine sm_vcalv [] [] rfl C mw_X11_keeps ml_11_332 rfl (ci := 11) rfl (ltM (by decide +kernel : kdM 0 = 11) (by decide)) (by decide +kernel : kdM 0 = 11) (by decide) ⟨by decide, by decide⟩ (Nat.le_of_ble_eq_true rfl) (by decide +kernel) (c_X11_keeps F τ) (fun r4 τ5 => ?_)
      refine sm_seg C [(.iload_n 2, 0), (.aload_n 0, 0)] (pc' := 41) (L' := [(0, .ref 0), (1, .int a1), (2, .int a2), (3, .int a3)]) (S' := [.ref 0, .int a2]) (by decide +kernel) rfl ?_
      refine sm_vcal [] [.int a2] rfl C mw_X11_goesBy ml_11_373 rfl (ci := 11) rfl (ltM (by decide +kernel : kdM 0 = 11) (by decide)) (by decide +kernel : kdM 0 = 11) (by decide) ⟨by decide, by decide⟩ (Nat.le_of_ble_eq_true rfl) (by decide +kernel) (c_X11_goesBy F τ5) (fun r6 τ7 => ?_)
      refine sm_seg C [(.iadd, 0), (.istore_n 2, 0), (.iinc 3 1, 1), (.goto (-19), 0)] (pc' := 30) (L' := [(3, .int (a3 + 1)), (2, .int (a2 + r6)), (0, .ref 0), (1, .int a1)]) (S' := []) (by decide +kernel) rfl ?_
      exact sm_sub [2, 3, 1, 0] rfl (ih a1 (a2 + r6) (a3 + 1) τ7)
def X11_days (F : Nat) (a1 : Int32) (τ : Tau) : Option (Int32 × Tau) :=
  cal (X11_isIn F a1 1 60 τ) fun r1 τ2 => if r1 = 0 then (some ((-1), τ2)) else (ald τ2 1 2244 2 fun v3 => if (v3 + a1) ≤ 9999 then (X11_days_L30 F F a1 0 0 τ2) else (some ((-1), τ2)))
set_option maxRecDepth 20000 in
set_option maxHeartbeats 4000000 in
theorem c_X11_days (F : Nat) (a1 : Int32) (τ : Tau) (r : Int32) (τ' : Tau) (h : X11_days F a1 τ = some (r, τ')) : MCi sysM yX11_days cX11_days 4 (some .int) 9 [.ref 0, .int a1] τ r τ' :=
  mci_of (by decide +kernel) (Nat.le_of_ble_eq_true rfl) (fun K C hr => by
    show Sm K sysM 4 (Qi K sysM) (X11_days F a1 τ) 0 [(0, .ref 0), (1, .int a1)] [] τ
    unfold X11_days
    refine sm_seg C [(.iload_n 1, 0), (.iconst 1, 1), (.bipush 60, 60)] (pc' := 4) (L' := [(0, .ref 0), (1, .int a1)]) (S' := [.int 60, .int 1, .int a1]) (by decide +kernel) rfl ?_
    refine sm_scal [.int a1, .int 1, .int 60] [] rfl C mw_X11_isIn ml_11_78 rfl ⟨by decide, by decide⟩ (Nat.le_of_ble_eq_true rfl) (by decide +kernel) (c_X11_isIn F a1 1 60 τ) (fun r1 τ2 => ?_)
    refine sm_ifeq 24 (off := 17) C (by decide +kernel) (by decide) (fun _ => ?_) (fun _ => ?_)
    · refine sm_seg C [(.iconst (-1), (-1))] (pc' := 25) (L' := [(0, .ref 0), (1, .int a1)]) (S' := [.int (-1)]) (by decide +kernel) rfl ?_
      exact sm_iret C hr rfl (by decide +kernel)
    · refine sm_seg C [(.aload_n 0, 0)] (pc' := 11) (L' := [(0, .ref 0), (1, .int a1)]) (S' := [.ref 0]) (by decide +kernel) rfl ?_
      refine sm_getR 11 0 1 cls11 C (ltM (by decide +kernel : kdM 0 = 11) (by decide)) (by decide +kernel : kdM 0 = 11) (obM11 (by decide +kernel : kdM 0 = 11)) (by decide) (frM11_0 (by decide +kernel : kdM 0 = 11)) fl11_7 (by decide +kernel) ?_
      refine sm_seg C [(.iconst 2, 2)] (pc' := 15) (L' := [(0, .ref 0), (1, .int a1)]) (S' := [.int 2, .ref 1]) (by decide +kernel) rfl ?_
      refine sm_ald 2244 C (ltM (krM11_0 (by decide +kernel : kdM 0 = 11)) (by decide)) (krM11_0 (by decide +kernel : kdM 0 = 11)) (nrM11_0 (by decide +kernel : kdM 0 = 11)) (by decide +kernel) (fun v3 => ?_)
      refine sm_seg C [(.iload_n 1, 0), (.iadd, 0), (.sipush 9999, 9999)] (pc' := 21) (L' := [(0, .ref 0), (1, .int a1)]) (S' := [.int 9999, .int (v3 + a1)]) (by decide +kernel) rfl ?_
      refine sm_icmple 26 (off := 5) C (by decide +kernel) (by decide) (fun _ => ?_) (fun _ => ?_)
      · refine sm_seg C [(.iconst 0, 0), (.istore_n 2, 0), (.iconst 0, 0), (.istore_n 3, 0)] (pc' := 30) (L' := [(3, .int 0), (2, .int 0), (0, .ref 0), (1, .int a1)]) (S' := []) (by decide +kernel) rfl ?_
        exact sm_sub [2, 3, 1, 0] rfl (s_X11_days_L30 F C hr F a1 0 0 τ2)
      · refine sm_seg C [(.iconst (-1), (-1))] (pc' := 25) (L' := [(0, .ref 0), (1, .int a1)]) (S' := [.int (-1)]) (by decide +kernel) rfl ?_
        exact sm_iret C hr rfl (by decide +kernel)) h
/-! BasketEnvoysModel.end -/
def X11_end (F : Nat) (a1 : Int32) (τ : Tau) : Option (Int32 × Tau) :=
  cal (X11_isIn F a1 0 (τ 0 16) τ) fun r1 τ2 => if r1 = 0 then (some (0, τ2)) else (pst τ2 0 16 a1 fun τ3 => some (1, τ3))
set_option maxRecDepth 20000 in
set_option maxHeartbeats 4000000 in
theorem c_X11_end (F : Nat) (a1 : Int32) (τ : Tau) (r : Int32) (τ' : Tau) (h : X11_end F a1 τ = some (r, τ')) : MCi sysM yX11_end cX11_end 2 (some .boolean) 2 [.ref 0, .int a1] τ r τ' :=
  mci_of (by decide +kernel) (Nat.le_of_ble_eq_true rfl) (fun K C hr => by
    show Sm K sysM 2 (Qi K sysM) (X11_end F a1 τ) 0 [(0, .ref 0), (1, .int a1)] [] τ
    unfold X11_end
    refine sm_seg C [(.iload_n 1, 0), (.iconst 0, 0), (.aload_n 0, 0)] (pc' := 3) (L' := [(0, .ref 0), (1, .int a1)]) (S' := [.ref 0, .int 0, .int a1]) (by decide +kernel) rfl ?_
    refine sm_getI 11 16 cls11 C (ltM (by decide +kernel : kdM 0 = 11) (by decide)) (by decide +kernel : kdM 0 = 11) (obM11 (by decide +kernel : kdM 0 = 11)) (by decide) (fiM11_16 (by decide +kernel : kdM 0 = 11)) fl11_97 (by decide +kernel) ?_
    refine sm_scal [.int a1, .int 0, .int (τ 0 16)] [] rfl C mw_X11_isIn ml_11_78 rfl ⟨by decide, by decide⟩ (Nat.le_of_ble_eq_true rfl) (by decide +kernel) (c_X11_isIn F a1 0 (τ 0 16) τ) (fun r1 τ2 => ?_)
    refine sm_ifne 14 (off := 5) C (by decide +kernel) (by decide) (fun _ => ?_) (fun _ => ?_)
    · refine sm_seg C [(.iconst 0, 0)] (pc' := 13) (L' := [(0, .ref 0), (1, .int a1)]) (S' := [.int 0]) (by decide +kernel) rfl ?_
      exact sm_iret C hr rfl (by decide +kernel)
    · refine sm_seg C [(.aload_n 0, 0), (.iload_n 1, 0)] (pc' := 16) (L' := [(0, .ref 0), (1, .int a1)]) (S' := [.int a1, .ref 0]) (by decide +kernel) rfl ?_
      refine sm_pst 11 16 cls11 C (ltM (by decide +kernel : kdM 0 = 11) (by decide)) (by decide +kernel : kdM 0 = 11) (obM11 (by decide +kernel : kdM 0 = 11)) (by decide) (fiM11_16 (by decide +kernel : kdM 0 = 11)) rfl rfl rfl fl11_97 (by decide +kernel) (fun τ3 => ?_)
      refine sm_seg C [(.iconst 1, 1)] (pc' := 20) (L' := [(0, .ref 0), (1, .int a1)]) (S' := [.int 1]) (by decide +kernel) rfl ?_
      exact sm_iret C hr rfl (by decide +kernel)) h
/-! BasketEnvoysModel.fault -/
def X11_fault (F : Nat) (a1 : Int32) (τ : Tau) : Option (Int32 × Tau) :=
  if a1 = 0 then (some ((τ 0 23), τ)) else (if a1 = 1 then (some ((τ 0 25), τ)) else (some ((-1), τ)))
set_option maxRecDepth 20000 in
set_option maxHeartbeats 4000000 in
theorem c_X11_fault (F : Nat) (a1 : Int32) (τ : Tau) (r : Int32) (τ' : Tau) (h : X11_fault F a1 τ = some (r, τ')) : MCi sysM yX11_fault cX11_fault 2 (some .int) 1 [.ref 0, .int a1] τ r τ' :=
  mci_of (by decide +kernel) (Nat.le_of_ble_eq_true rfl) (fun K C hr => by
    show Sm K sysM 2 (Qi K sysM) (X11_fault F a1 τ) 0 [(0, .ref 0), (1, .int a1)] [] τ
    unfold X11_fault
    refine sm_seg C [(.iload_n 1, 0)] (pc' := 1) (L' := [(0, .ref 0), (1, .int a1)]) (S' := [.int a1]) (by decide +kernel) rfl ?_
    refine sm_ifne 11 (off := 10) C (by decide +kernel) (by decide) (fun _ => ?_) (fun _ => ?_)
    · refine sm_seg C [(.aload_n 0, 0)] (pc' := 5) (L' := [(0, .ref 0), (1, .int a1)]) (S' := [.ref 0]) (by decide +kernel) rfl ?_
      refine sm_getI 11 23 cls11 C (ltM (by decide +kernel : kdM 0 = 11) (by decide)) (by decide +kernel : kdM 0 = 11) (obM11 (by decide +kernel : kdM 0 = 11)) (by decide) (fiM11_23 (by decide +kernel : kdM 0 = 11)) fl11_281 (by decide +kernel) ?_
      refine sm_seg C [(.goto 16, 0)] (pc' := 24) (L' := [(0, .ref 0), (1, .int a1)]) (S' := [.int (τ 0 23)]) (by decide +kernel) rfl ?_
      exact sm_iret C hr rfl (by decide +kernel)
    · refine sm_seg C [(.iload_n 1, 0), (.iconst 1, 1)] (pc' := 13) (L' := [(0, .ref 0), (1, .int a1)]) (S' := [.int 1, .int a1]) (by decide +kernel) rfl ?_
      refine sm_icmpne 23 (off := 10) C (by decide +kernel) (by decide) (fun _ => ?_) (fun _ => ?_)
      · refine sm_seg C [(.aload_n 0, 0)] (pc' := 17) (L' := [(0, .ref 0), (1, .int a1)]) (S' := [.ref 0]) (by decide +kernel) rfl ?_
        refine sm_getI 11 25 cls11 C (ltM (by decide +kernel : kdM 0 = 11) (by decide)) (by decide +kernel : kdM 0 = 11) (obM11 (by decide +kernel : kdM 0 = 11)) (by decide) (fiM11_25 (by decide +kernel : kdM 0 = 11)) fl11_40 (by decide +kernel) ?_
        refine sm_seg C [(.goto 4, 0)] (pc' := 24) (L' := [(0, .ref 0), (1, .int a1)]) (S' := [.int (τ 0 25)]) (by decide +kernel) rfl ?_
        exact sm_iret C hr rfl (by decide +kernel)
      · refine sm_seg C [(.iconst (-1), (-1))] (pc' := 24) (L' := [(0, .ref 0), (1, .int a1)]) (S' := [.int (-1)]) (by decide +kernel) rfl ?_
        exact sm_iret C hr rfl (by decide +kernel)) h
/-! BasketEnvoysModel.feed -/
def X11_feed_j71 (F : Nat) (self18 : Int32 → Int32 → Int32 → Int32 → Int32 → Int32 → Tau → Option (Int32 × Tau)) (a1 : Int32) (a2 : Int32) (a3 : Int32) (a4 : Int32) (a5 : Int32) (a6 : Int32) (z0 : Int32) (τ : Tau) : Option (Int32 × Tau) :=
  ast τ 8 400 (τ 0 16) ((shr z0 (24 - (8 * (rmd a6 4)))) &&& 255) fun τ1 => pst τ1 0 16 ((τ1 0 16) + 1) fun τ2 => self18 a1 a2 a3 a4 a5 (a6 + 1) τ2
theorem s_X11_feed_j71 (F : Nat) {K : Ctx} (C : Cx K sysM RX11 cX11_feed 8 1) (hr : Rt K (some .int)) (self18 : Int32 → Int32 → Int32 → Int32 → Int32 → Int32 → Tau → Option (Int32 × Tau)) (ih18 : ∀ (a1 : Int32) (a2 : Int32) (a3 : Int32) (a4 : Int32) (a5 : Int32) (a6 : Int32) (τ : Tau), Sm K sysM 8 (Qi K sysM) (self18 a1 a2 a3 a4 a5 a6 τ) 18 [(0, .ref 0), (1, .int a1), (2, .int a2), (3, .int a3), (4, .int a4), (5, .int a5), (6, .int a6)] [] τ) (a1 : Int32) (a2 : Int32) (a3 : Int32) (a4 : Int32) (a5 : Int32) (a6 : Int32) (z0 : Int32) (τ : Tau) : Sm K sysM 8 (Qi K sysM) (X11_feed_j71 F self18 a1 a2 a3 a4 a5 a6 z0 τ) 71 [(0, .ref 0), (1, .int a1), (2, .int a2), (3, .int a3), (4, .int a4), (5, .int a5), (6, .int a6)] [.int z0] τ := by
  unfold X11_feed_j71
  refine sm_seg C [(.istore 7, 0), (.aload_n 0, 0)] (pc' := 74) (L' := [(7, .int z0), (0, .ref 0), (1, .int a1), (2, .int a2), (3, .int a3), (4, .int a4), (5, .int a5), (6, .int a6)]) (S' := [.ref 0]) (by decide +kernel) rfl ?_
  refine sm_getR 11 9 8 cls11 C (ltM (by decide +kernel : kdM 0 = 11) (by decide)) (by decide +kernel : kdM 0 = 11) (obM11 (by decide +kernel : kdM 0 = 11)) (by decide) (frM11_9 (by decide +kernel : kdM 0 = 11)) fl11_31 (by decide +kernel) ?_
  refine sm_seg C [(.aload_n 0, 0)] (pc' := 78) (L' := [(7, .int z0), (0, .ref 0), (1, .int a1), (2, .int a2), (3, .int a3), (4, .int a4), (5, .int a5), (6, .int a6)]) (S' := [.ref 0, .ref 8]) (by decide +kernel) rfl ?_
  refine sm_getI 11 16 cls11 C (ltM (by decide +kernel : kdM 0 = 11) (by decide)) (by decide +kernel : kdM 0 = 11) (obM11 (by decide +kernel : kdM 0 = 11)) (by decide) (fiM11_16 (by decide +kernel : kdM 0 = 11)) fl11_97 (by decide +kernel) ?_
  refine sm_seg C [(.iload 7, 0), (.bipush 24, 24), (.bipush 8, 8), (.iload 6, 0), (.iconst 4, 4)] (pc' := 90) (L' := [(7, .int z0), (0, .ref 0), (1, .int a1), (2, .int a2), (3, .int a3), (4, .int a4), (5, .int a5), (6, .int a6)]) (S' := [.int 4, .int a6, .int 8, .int 24, .int z0, .int (τ 0 16), .ref 8]) (by decide +kernel) rfl ?_
  refine sm_irem C (by decide +kernel) (by decide) ?_
  refine sm_seg C [(.imul, 0), (.isub, 0), (.ishr, 0), (.sipush 255, 255), (.iand, 0)] (pc' := 98) (L' := [(7, .int z0), (0, .ref 0), (1, .int a1), (2, .int a2), (3, .int a3), (4, .int a4), (5, .int a5), (6, .int a6)]) (S' := [.int ((shr z0 (24 - (8 * (rmd a6 4)))) &&& 255), .int (τ 0 16), .ref 8]) (by decide +kernel) rfl ?_
  refine sm_ast 400 C (ltM (krM11_9 (by decide +kernel : kdM 0 = 11)) (by decide)) (krM11_9 (by decide +kernel : kdM 0 = 11)) (nrM11_9 (by decide +kernel : kdM 0 = 11)) (by decide +kernel) (fun τ1 => ?_)
  refine sm_seg C [(.aload_n 0, 0), (.dup, 0)] (pc' := 101) (L' := [(7, .int z0), (0, .ref 0), (1, .int a1), (2, .int a2), (3, .int a3), (4, .int a4), (5, .int a5), (6, .int a6)]) (S' := [.ref 0, .ref 0]) (by decide +kernel) rfl ?_
  refine sm_getI 11 16 cls11 C (ltM (by decide +kernel : kdM 0 = 11) (by decide)) (by decide +kernel : kdM 0 = 11) (obM11 (by decide +kernel : kdM 0 = 11)) (by decide) (fiM11_16 (by decide +kernel : kdM 0 = 11)) fl11_97 (by decide +kernel) ?_
  refine sm_seg C [(.iconst 1, 1), (.iadd, 0)] (pc' := 106) (L' := [(7, .int z0), (0, .ref 0), (1, .int a1), (2, .int a2), (3, .int a3), (4, .int a4), (5, .int a5), (6, .int a6)]) (S' := [.int ((τ1 0 16) + 1), .ref 0]) (by decide +kernel) rfl ?_
  refine sm_pst 11 16 cls11 C (ltM (by decide +kernel : kdM 0 = 11) (by decide)) (by decide +kernel : kdM 0 = 11) (obM11 (by decide +kernel : kdM 0 = 11)) (by decide) (fiM11_16 (by decide +kernel : kdM 0 = 11)) rfl rfl rfl fl11_97 (by decide +kernel) (fun τ2 => ?_)
  refine sm_seg C [(.iinc 6 1, 1), (.goto (-94), 0)] (pc' := 18) (L' := [(6, .int (a6 + 1)), (7, .int z0), (0, .ref 0), (1, .int a1), (2, .int a2), (3, .int a3), (4, .int a4), (5, .int a5)]) (S' := []) (by decide +kernel) rfl ?_
  exact sm_sub [2, 3, 4, 5, 6, 7, 0] rfl (ih18 a1 a2 a3 a4 a5 (a6 + 1) τ2)
def X11_feed_L18 (F : Nat) : Nat → Int32 → Int32 → Int32 → Int32 → Int32 → Int32 → Tau → Option (Int32 × Tau)
  | 0, _, _, _, _, _, _, _ => none
  | n + 1, a1, a2, a3, a4, a5, a6, τ =>
    if 20 ≤ a6 then (some ((τ 0 16), τ)) else (if 4 ≤ a6 then (if 8 ≤ a6 then (if 12 ≤ a6 then (if 16 ≤ a6 then (X11_feed_j71 F (X11_feed_L18 F n) a1 a2 a3 a4 a5 a6 a5 τ) else (X11_feed_j71 F (X11_feed_L18 F n) a1 a2 a3 a4 a5 a6 a4 τ)) else (X11_feed_j71 F (X11_feed_L18 F n) a1 a2 a3 a4 a5 a6 a3 τ)) else (X11_feed_j71 F (X11_feed_L18 F n) a1 a2 a3 a4 a5 a6 a2 τ)) else (X11_feed_j71 F (X11_feed_L18 F n) a1 a2 a3 a4 a5 a6 a1 τ))
theorem s_X11_feed_L18 (F : Nat) {K : Ctx} (C : Cx K sysM RX11 cX11_feed 8 1) (hr : Rt K (some .int)) : ∀ (n : Nat) (a1 : Int32) (a2 : Int32) (a3 : Int32) (a4 : Int32) (a5 : Int32) (a6 : Int32) (τ : Tau), Sm K sysM 8 (Qi K sysM) (X11_feed_L18 F n a1 a2 a3 a4 a5 a6 τ) 18 [(0, .ref 0), (1, .int a1), (2, .int a2), (3, .int a3), (4, .int a4), (5, .int a5), (6, .int a6)] [] τ := by
  intro n
  induction n with
  | zero => intro a1 a2 a3 a4 a5 a6 τ; exact sm_none
  | succ n ih =>
    intro a1 a2 a3 a4 a5 a6 τ
    rw [X11_feed_L18]
    refine sm_seg C [(.iload 6, 0), (.bipush 20, 20)] (pc' := 22) (L' := [(0, .ref 0), (1, .int a1), (2, .int a2), (3, .int a3), (4, .int a4), (5, .int a5), (6, .int a6)]) (S' := [.int 20, .int a6]) (by decide +kernel) rfl ?_
    refine sm_icmpge 115 (off := 93) C (by decide +kernel) (by decide) (fun _ => ?_) (fun _ => ?_)
    · refine sm_seg C [(.aload_n 0, 0)] (pc' := 116) (L' := [(0, .ref 0), (1, .int a1), (2, .int a2), (3, .int a3), (4, .int a4), (5, .int a5), (6, .int a6)]) (S' := [.ref 0]) (by decide +kernel) rfl ?_
      refine sm_getI 11 16 cls11 C (ltM (by decide +kernel : kdM 0 = 11) (by decide)) (by decide +kernel : kdM 0 = 11) (obM11 (by decide +kernel : kdM 0 = 11)) (by decide) (fiM11_16 (by decide +kernel : kdM 0 = 11)) fl11_97 (by decide +kernel) ?_
      exact sm_iret C hr rfl (by decide +kernel)
    · refine sm_seg C [(.iload 6, 0), (.iconst 4, 4)] (pc' := 28) (L' := [(0, .ref 0), (1, .int a1), (2, .int a2), (3, .int a3), (4, .int a4), (5, .int a5), (6, .int a6)]) (S' := [.int 4, .int a6]) (by decide +kernel) rfl ?_
      refine sm_icmpge 35 (off := 7) C (by decide +kernel) (by decide) (fun _ => ?_) (fun _ => ?_)
      · refine sm_seg C [(.iload 6, 0), (.bipush 8, 8)] (pc' := 39) (L' := [(0, .ref 0), (1, .int a1), (2, .int a2), (3, .int a3), (4, .int a4), (5, .int a5), (6, .int a6)]) (S' := [.int 8, .int a6]) (by decide +kernel) rfl ?_
        refine sm_icmpge 46 (off := 7) C (by decide +kernel) (by decide) (fun _ => ?_) (fun _ => ?_)
        · refine sm_seg C [(.iload 6, 0), (.bipush 12, 12)] (pc' := 50) (L' := [(0, .ref 0), (1, .int a1), (2, .int a2), (3, .int a3), (4, .int a4), (5, .int a5), (6, .int a6)]) (S' := [.int 12, .int a6]) (by decide +kernel) rfl ?_
          refine sm_icmpge 57 (off := 7) C (by decide +kernel) (by decide) (fun _ => ?_) (fun _ => ?_)
          · refine sm_seg C [(.iload 6, 0), (.bipush 16, 16)] (pc' := 61) (L' := [(0, .ref 0), (1, .int a1), (2, .int a2), (3, .int a3), (4, .int a4), (5, .int a5), (6, .int a6)]) (S' := [.int 16, .int a6]) (by decide +kernel) rfl ?_
            refine sm_icmpge 69 (off := 8) C (by decide +kernel) (by decide) (fun _ => ?_) (fun _ => ?_)
            · refine sm_seg C [(.iload 5, 0)] (pc' := 71) (L' := [(0, .ref 0), (1, .int a1), (2, .int a2), (3, .int a3), (4, .int a4), (5, .int a5), (6, .int a6)]) (S' := [.int a5]) (by decide +kernel) rfl ?_
              exact sm_sub [0, 1, 2, 3, 4, 5, 6] rfl (s_X11_feed_j71 F C hr (X11_feed_L18 F n) ih a1 a2 a3 a4 a5 a6 a5 τ)
            · refine sm_seg C [(.iload 4, 0), (.goto 5, 0)] (pc' := 71) (L' := [(0, .ref 0), (1, .int a1), (2, .int a2), (3, .int a3), (4, .int a4), (5, .int a5), (6, .int a6)]) (S' := [.int a4]) (by decide +kernel) rfl ?_
              exact sm_sub [0, 1, 2, 3, 4, 5, 6] rfl (s_X11_feed_j71 F C hr (X11_feed_L18 F n) ih a1 a2 a3 a4 a5 a6 a4 τ)
          · refine sm_seg C [(.iload_n 3, 0), (.goto 17, 0)] (pc' := 71) (L' := [(0, .ref 0), (1, .int a1), (2, .int a2), (3, .int a3), (4, .int a4), (5, .int a5), (6, .int a6)]) (S' := [.int a3]) (by decide +kernel) rfl ?_
            exact sm_sub [0, 1, 2, 3, 4, 5, 6] rfl (s_X11_feed_j71 F C hr (X11_feed_L18 F n) ih a1 a2 a3 a4 a5 a6 a3 τ)
        · refine sm_seg C [(.iload_n 2, 0), (.goto 28, 0)] (pc' := 71) (L' := [(0, .ref 0), (1, .int a1), (2, .int a2), (3, .int a3), (4, .int a4), (5, .int a5), (6, .int a6)]) (S' := [.int a2]) (by decide +kernel) rfl ?_
          exact sm_sub [0, 1, 2, 3, 4, 5, 6] rfl (s_X11_feed_j71 F C hr (X11_feed_L18 F n) ih a1 a2 a3 a4 a5 a6 a2 τ)
      · refine sm_seg C [(.iload_n 1, 0), (.goto 39, 0)] (pc' := 71) (L' := [(0, .ref 0), (1, .int a1), (2, .int a2), (3, .int a3), (4, .int a4), (5, .int a5), (6, .int a6)]) (S' := [.int a1]) (by decide +kernel) rfl ?_
        exact sm_sub [0, 1, 2, 3, 4, 5, 6] rfl (s_X11_feed_j71 F C hr (X11_feed_L18 F n) ih a1 a2 a3 a4 a5 a6 a1 τ)
def X11_feed (F : Nat) (a1 : Int32) (a2 : Int32) (a3 : Int32) (a4 : Int32) (a5 : Int32) (τ : Tau) : Option (Int32 × Tau) :=
  if ((τ 0 16) + 20) ≤ 400 then (X11_feed_L18 F F a1 a2 a3 a4 a5 0 τ) else (some ((-1), τ))
set_option maxRecDepth 20000 in
set_option maxHeartbeats 4000000 in
theorem c_X11_feed (F : Nat) (a1 : Int32) (a2 : Int32) (a3 : Int32) (a4 : Int32) (a5 : Int32) (τ : Tau) (r : Int32) (τ' : Tau) (h : X11_feed F a1 a2 a3 a4 a5 τ = some (r, τ')) : MCi sysM yX11_feed cX11_feed 8 (some .int) 1 [.ref 0, .int a1, .int a2, .int a3, .int a4, .int a5] τ r τ' :=
  mci_of (by decide +kernel) (Nat.le_of_ble_eq_true rfl) (fun K C hr => by
    show Sm K sysM 8 (Qi K sysM) (X11_feed F a1 a2 a3 a4 a5 τ) 0 [(0, .ref 0), (1, .int a1), (2, .int a2), (3, .int a3), (4, .int a4), (5, .int a5)] [] τ
    unfold X11_feed
    refine sm_seg C [(.aload_n 0, 0)] (pc' := 1) (L' := [(0, .ref 0), (1, .int a1), (2, .int a2), (3, .int a3), (4, .int a4), (5, .int a5)]) (S' := [.ref 0]) (by decide +kernel) rfl ?_
    refine sm_getI 11 16 cls11 C (ltM (by decide +kernel : kdM 0 = 11) (by decide)) (by decide +kernel : kdM 0 = 11) (obM11 (by decide +kernel : kdM 0 = 11)) (by decide) (fiM11_16 (by decide +kernel : kdM 0 = 11)) fl11_97 (by decide +kernel) ?_
    refine sm_seg C [(.bipush 20, 20), (.iadd, 0), (.sipush 400, 400)] (pc' := 10) (L' := [(0, .ref 0), (1, .int a1), (2, .int a2), (3, .int a3), (4, .int a4), (5, .int a5)]) (S' := [.int 400, .int ((τ 0 16) + 20)]) (by decide +kernel) rfl ?_
    refine sm_icmple 15 (off := 5) C (by decide +kernel) (by decide) (fun _ => ?_) (fun _ => ?_)
    · refine sm_seg C [(.iconst 0, 0), (.istore 6, 0)] (pc' := 18) (L' := [(6, .int 0), (0, .ref 0), (1, .int a1), (2, .int a2), (3, .int a3), (4, .int a4), (5, .int a5)]) (S' := []) (by decide +kernel) rfl ?_
      exact sm_sub [1, 2, 3, 4, 5, 6, 0] rfl (s_X11_feed_L18 F C hr F a1 a2 a3 a4 a5 0 τ)
    · refine sm_seg C [(.iconst (-1), (-1))] (pc' := 14) (L' := [(0, .ref 0), (1, .int a1), (2, .int a2), (3, .int a3), (4, .int a4), (5, .int a5)]) (S' := [.int (-1)]) (by decide +kernel) rfl ?_
      exact sm_iret C hr rfl (by decide +kernel)) h
/-! BasketEnvoysModel.forgets -/
def X11_forgets (F : Nat) (τ : Tau) : Option (Int32 × Tau) :=
  pst τ 0 4 0 fun τ1 => some (0, τ1)
set_option maxRecDepth 20000 in
set_option maxHeartbeats 4000000 in
theorem c_X11_forgets (F : Nat) (τ : Tau) (r : Int32) (τ' : Tau) (h : X11_forgets F τ = some (r, τ')) : MCv sysM yX11_forgets cX11_forgets 1 1 [.ref 0] τ τ' :=
  mcv_of (by decide +kernel) (Nat.le_of_ble_eq_true rfl) (fun K C hr => by
    show Sm K sysM 1 (Qv K sysM) (X11_forgets F τ) 0 [(0, .ref 0)] [] τ
    unfold X11_forgets
    refine sm_seg C [(.aload_n 0, 0), (.iconst 0, 0)] (pc' := 2) (L' := [(0, .ref 0)]) (S' := [.int 0, .ref 0]) (by decide +kernel) rfl ?_
    refine sm_pst 11 4 cls11 C (ltM (by decide +kernel : kdM 0 = 11) (by decide)) (by decide +kernel : kdM 0 = 11) (obM11 (by decide +kernel : kdM 0 = 11)) (by decide) (fiM11_4 (by decide +kernel : kdM 0 = 11)) rfl rfl rfl fl11_82 (by decide +kernel) (fun τ1 => ?_)
    exact sm_vret C hr (by decide +kernel)) h
/-! BasketEnvoysModel.gets -/
def X11_gets (F : Nat) (a1 : Int32) (a2 : Int32) (a3 : Int32) (τ : Tau) : Option (Int32 × Tau) :=
  ald τ 1 2244 (((554 + (9 * a1)) + (3 * a2)) + a3) fun v1 => some (v1, τ)
set_option maxRecDepth 20000 in
set_option maxHeartbeats 4000000 in
theorem c_X11_gets (F : Nat) (a1 : Int32) (a2 : Int32) (a3 : Int32) (τ : Tau) (r : Int32) (τ' : Tau) (h : X11_gets F a1 a2 a3 τ = some (r, τ')) : MCi sysM yX11_gets cX11_gets 4 (some .int) 1 [.ref 0, .int a1, .int a2, .int a3] τ r τ' :=
  mci_of (by decide +kernel) (Nat.le_of_ble_eq_true rfl) (fun K C hr => by
    show Sm K sysM 4 (Qi K sysM) (X11_gets F a1 a2 a3 τ) 0 [(0, .ref 0), (1, .int a1), (2, .int a2), (3, .int a3)] [] τ
    unfold X11_gets
    refine sm_seg C [(.aload_n 0, 0)] (pc' := 1) (L' := [(0, .ref 0), (1, .int a1), (2, .int a2), (3, .int a3)]) (S' := [.ref 0]) (by decide +kernel) rfl ?_
    refine sm_getR 11 0 1 cls11 C (ltM (by decide +kernel : kdM 0 = 11) (by decide)) (by decide +kernel : kdM 0 = 11) (obM11 (by decide +kernel : kdM 0 = 11)) (by decide) (frM11_0 (by decide +kernel : kdM 0 = 11)) fl11_7 (by decide +kernel) ?_
    refine sm_seg C [(.sipush 554, 554), (.bipush 9, 9), (.iload_n 1, 0), (.imul, 0), (.iadd, 0), (.iconst 3, 3), (.iload_n 2, 0), (.imul, 0), (.iadd, 0), (.iload_n 3, 0), (.iadd, 0)] (pc' := 18) (L' := [(0, .ref 0), (1, .int a1), (2, .int a2), (3, .int a3)]) (S' := [.int (((554 + (9 * a1)) + (3 * a2)) + a3), .ref 1]) (by decide +kernel) rfl ?_
    refine sm_ald 2244 C (ltM (krM11_0 (by decide +kernel : kdM 0 = 11)) (by decide)) (krM11_0 (by decide +kernel : kdM 0 = 11)) (nrM11_0 (by decide +kernel : kdM 0 = 11)) (by decide +kernel) (fun v1 => ?_)
    exact sm_iret C hr rfl (by decide +kernel)) h
/-! BasketEnvoysModel.thinks -/
def X11_thinks_L2 (F : Nat) : Nat → Int32 → Tau → Option (Int32 × Tau)
  | 0, _, _ => none
  | n + 1, a1, τ =>
    if 255 ≤ a1 then (pst τ 0 26 0 fun τ1 => some (0, τ1)) else (ald τ 1 2244 a1 fun v2 => ast τ 4 255 a1 v2 fun τ3 => X11_thinks_L2 F n (a1 + 1) τ3)
theorem s_X11_thinks_L2 (F : Nat) {K : Ctx} (C : Cx K sysM RX11 cX11_thinks 2 1) (hr : Rt K none) : ∀ (n : Nat) (a1 : Int32) (τ : Tau), Sm K sysM 2 (Qv K sysM) (X11_thinks_L2 F n a1 τ) 2 [(0, .ref 0), (1, .int a1)] [] τ := by
  intro n
  induction n with
  | zero => intro a1 τ; exact sm_none
  | succ n ih =>
    intro a1 τ
    rw [X11_thinks_L2]
    refine sm_seg C [(.iload_n 1, 0), (.sipush 255, 255)] (pc' := 6) (L' := [(0, .ref 0), (1, .int a1)]) (S' := [.int 255, .int a1]) (by decide +kernel) rfl ?_
    refine sm_icmpge 27 (off := 21) C (by decide +kernel) (by decide) (fun _ => ?_) (fun _ => ?_)
    · refine sm_seg C [(.aload_n 0, 0), (.iconst 0, 0)] (pc' := 29) (L' := [(0, .ref 0), (1, .int a1)]) (S' := [.int 0, .ref 0]) (by decide +kernel) rfl ?_
      refine sm_pst 11 26 cls11 C (ltM (by decide +kernel : kdM 0 = 11) (by decide)) (by decide +kernel : kdM 0 = 11) (obM11 (by decide +kernel : kdM 0 = 11)) (by decide) (fiM11_26 (by decide +kernel : kdM 0 = 11)) rfl rfl rfl fl11_318 (by decide +kernel) (fun τ1 => ?_)
      exact sm_vret C hr (by decide +kernel)
    · refine sm_seg C [(.aload_n 0, 0)] (pc' := 10) (L' := [(0, .ref 0), (1, .int a1)]) (S' := [.ref 0]) (by decide +kernel) rfl ?_
      refine sm_getR 11 3 4 cls11 C (ltM (by decide +kernel : kdM 0 = 11) (by decide)) (by decide +kernel : kdM 0 = 11) (obM11 (by decide +kernel : kdM 0 = 11)) (by decide) (frM11_3 (by decide +kernel : kdM 0 = 11)) fl11_19 (by decide +kernel) ?_
      refine sm_seg C [(.iload_n 1, 0), (.aload_n 0, 0)] (pc' := 15) (L' := [(0, .ref 0), (1, .int a1)]) (S' := [.ref 0, .int a1, .ref 4]) (by decide +kernel) rfl ?_
      refine sm_getR 11 0 1 cls11 C (ltM (by decide +kernel : kdM 0 = 11) (by decide)) (by decide +kernel : kdM 0 = 11) (obM11 (by decide +kernel : kdM 0 = 11)) (by decide) (frM11_0 (by decide +kernel : kdM 0 = 11)) fl11_7 (by decide +kernel) ?_
      refine sm_seg C [(.iload_n 1, 0)] (pc' := 19) (L' := [(0, .ref 0), (1, .int a1)]) (S' := [.int a1, .ref 1, .int a1, .ref 4]) (by decide +kernel) rfl ?_
      refine sm_ald 2244 C (ltM (krM11_0 (by decide +kernel : kdM 0 = 11)) (by decide)) (krM11_0 (by decide +kernel : kdM 0 = 11)) (nrM11_0 (by decide +kernel : kdM 0 = 11)) (by decide +kernel) (fun v2 => ?_)
      refine sm_ast 255 C (ltM (krM11_3 (by decide +kernel : kdM 0 = 11)) (by decide)) (krM11_3 (by decide +kernel : kdM 0 = 11)) (nrM11_3 (by decide +kernel : kdM 0 = 11)) (by decide +kernel) (fun τ3 => ?_)
      refine sm_seg C [(.iinc 1 1, 1), (.goto (-22), 0)] (pc' := 2) (L' := [(1, .int (a1 + 1)), (0, .ref 0)]) (S' := []) (by decide +kernel) rfl ?_
      exact sm_sub [1, 0] rfl (ih (a1 + 1) τ3)
def X11_thinks (F : Nat) (τ : Tau) : Option (Int32 × Tau) :=
  X11_thinks_L2 F F 0 τ
set_option maxRecDepth 20000 in
set_option maxHeartbeats 4000000 in
theorem c_X11_thinks (F : Nat) (τ : Tau) (r : Int32) (τ' : Tau) (h : X11_thinks F τ = some (r, τ')) : MCv sysM yX11_thinks cX11_thinks 2 1 [.ref 0] τ τ' :=
  mcv_of (by decide +kernel) (Nat.le_of_ble_eq_true rfl) (fun K C hr => by
    show Sm K sysM 2 (Qv K sysM) (X11_thinks F τ) 0 [(0, .ref 0)] [] τ
    unfold X11_thinks
    refine sm_seg C [(.iconst 0, 0), (.istore_n 1, 0)] (pc' := 2) (L' := [(1, .int 0), (0, .ref 0)]) (S' := []) (by decide +kernel) rfl ?_
    exact sm_sub [1, 0] rfl (s_X11_thinks_L2 F C hr F 0 τ)) h
/-! BasketEnvoysModel.together -/
def X11_together_L4 (F : Nat) : Nat → Int32 → Int32 → Int32 → Tau → Option (Int32 × Tau)
  | 0, _, _, _, _ => none
  | n + 1, a1, a2, a3, τ =>
    ald τ 1 2244 255 fun v1 => if v1 ≤ a3 then (some (a2, τ)) else (ald τ 1 2244 (a1 + a3) fun v2 => X11_together_L4 F n a1 (a2 + v2) (a3 + 1) τ)
theorem s_X11_together_L4 (F : Nat) {K : Ctx} (C : Cx K sysM RX11 cX11_together 4 1) (hr : Rt K (some .int)) : ∀ (n : Nat) (a1 : Int32) (a2 : Int32) (a3 : Int32) (τ : Tau), Sm K sysM 4 (Qi K sysM) (X11_together_L4 F n a1 a2 a3 τ) 4 [(0, .ref 0), (1, .int a1), (2, .int a2), (3, .int a3)] [] τ := by
  intro n
  induction n with
  | zero => intro a1 a2 a3 τ; exact sm_none
  | succ n ih =>
    intro a1 a2 a3 τ
    rw [X11_together_L4]
    refine sm_seg C [(.iload_n 3, 0), (.aload_n 0, 0)] (pc' := 6) (L' := [(0, .ref 0), (1, .int a1), (2, .int a2), (3, .int a3)]) (S' := [.ref 0, .int a3]) (by decide +kernel) rfl ?_
    refine sm_getR 11 0 1 cls11 C (ltM (by decide +kernel : kdM 0 = 11) (by decide)) (by decide +kernel : kdM 0 = 11) (obM11 (by decide +kernel : kdM 0 = 11)) (by decide) (frM11_0 (by decide +kernel : kdM 0 = 11)) fl11_7 (by decide +kernel) ?_
    refine sm_seg C [(.sipush 255, 255)] (pc' := 12) (L' := [(0, .ref 0), (1, .int a1), (2, .int a2), (3, .int a3)]) (S' := [.int 255, .ref 1, .int a3]) (by decide +kernel) rfl ?_
    refine sm_ald 2244 C (ltM (krM11_0 (by decide +kernel : kdM 0 = 11)) (by decide)) (krM11_0 (by decide +kernel : kdM 0 = 11)) (nrM11_0 (by decide +kernel : kdM 0 = 11)) (by decide +kernel) (fun v1 => ?_)
    refine sm_icmpge 33 (off := 20) C (by decide +kernel) (by decide) (fun _ => ?_) (fun _ => ?_)
    · refine sm_seg C [(.iload_n 2, 0)] (pc' := 34) (L' := [(0, .ref 0), (1, .int a1), (2, .int a2), (3, .int a3)]) (S' := [.int a2]) (by decide +kernel) rfl ?_
      exact sm_iret C hr rfl (by decide +kernel)
    · refine sm_seg C [(.iload_n 2, 0), (.aload_n 0, 0)] (pc' := 18) (L' := [(0, .ref 0), (1, .int a1), (2, .int a2), (3, .int a3)]) (S' := [.ref 0, .int a2]) (by decide +kernel) rfl ?_
      refine sm_getR 11 0 1 cls11 C (ltM (by decide +kernel : kdM 0 = 11) (by decide)) (by decide +kernel : kdM 0 = 11) (obM11 (by decide +kernel : kdM 0 = 11)) (by decide) (frM11_0 (by decide +kernel : kdM 0 = 11)) fl11_7 (by decide +kernel) ?_
      refine sm_seg C [(.iload_n 1, 0), (.iload_n 3, 0), (.iadd, 0)] (pc' := 24) (L' := [(0, .ref 0), (1, .int a1), (2, .int a2), (3, .int a3)]) (S' := [.int (a1 + a3), .ref 1, .int a2]) (by decide +kernel) rfl ?_
      refine sm_ald 2244 C (ltM (krM11_0 (by decide +kernel : kdM 0 = 11)) (by decide)) (krM11_0 (by decide +kernel : kdM 0 = 11)) (nrM11_0 (by decide +kernel : kdM 0 = 11)) (by decide +kernel) (fun v2 => ?_)
      refine sm_seg C [(.iadd, 0), (.istore_n 2, 0), (.iinc 3 1, 1), (.goto (-26), 0)] (pc' := 4) (L' := [(3, .int (a3 + 1)), (2, .int (a2 + v2)), (0, .ref 0), (1, .int a1)]) (S' := []) (by decide +kernel) rfl ?_
      exact sm_sub [2, 3, 1, 0] rfl (ih a1 (a2 + v2) (a3 + 1) τ)
def X11_together (F : Nat) (a1 : Int32) (τ : Tau) : Option (Int32 × Tau) :=
  X11_together_L4 F F a1 0 0 τ
set_option maxRecDepth 20000 in
set_option maxHeartbeats 4000000 in
theorem c_X11_together (F : Nat) (a1 : Int32) (τ : Tau) (r : Int32) (τ' : Tau) (h : X11_together F a1 τ = some (r, τ')) : MCi sysM yX11_together cX11_together 4 (some .int) 1 [.ref 0, .int a1] τ r τ' :=
  mci_of (by decide +kernel) (Nat.le_of_ble_eq_true rfl) (fun K C hr => by
    show Sm K sysM 4 (Qi K sysM) (X11_together F a1 τ) 0 [(0, .ref 0), (1, .int a1)] [] τ
    unfold X11_together
    refine sm_seg C [(.iconst 0, 0), (.istore_n 2, 0), (.iconst 0, 0), (.istore_n 3, 0)] (pc' := 4) (L' := [(3, .int 0), (2, .int 0), (0, .ref 0), (1, .int a1)]) (S' := []) (by decide +kernel) rfl ?_
    exact sm_sub [2, 3, 1, 0] rfl (s_X11_together_L4 F C hr F a1 0 0 τ)) h
/-! BasketEnvoysModel.putsBack -/
def X11_putsBack_L2 (F : Nat) : Nat → Int32 → Tau → Option (Int32 × Tau)
  | 0, _, _ => none
  | n + 1, a1, τ =>
    if 255 ≤ a1 then (some (0, τ)) else (ald τ 4 255 a1 fun v1 => ast τ 1 2244 a1 v1 fun τ2 => X11_putsBack_L2 F n (a1 + 1) τ2)
theorem s_X11_putsBack_L2 (F : Nat) {K : Ctx} (C : Cx K sysM RX11 cX11_putsBack 2 1) (hr : Rt K none) : ∀ (n : Nat) (a1 : Int32) (τ : Tau), Sm K sysM 2 (Qv K sysM) (X11_putsBack_L2 F n a1 τ) 2 [(0, .ref 0), (1, .int a1)] [] τ := by
  intro n
  induction n with
  | zero => intro a1 τ; exact sm_none
  | succ n ih =>
    intro a1 τ
    rw [X11_putsBack_L2]
    refine sm_seg C [(.iload_n 1, 0), (.sipush 255, 255)] (pc' := 6) (L' := [(0, .ref 0), (1, .int a1)]) (S' := [.int 255, .int a1]) (by decide +kernel) rfl ?_
    refine sm_icmpge 27 (off := 21) C (by decide +kernel) (by decide) (fun _ => ?_) (fun _ => ?_)
    · exact sm_vret C hr (by decide +kernel)
    · refine sm_seg C [(.aload_n 0, 0)] (pc' := 10) (L' := [(0, .ref 0), (1, .int a1)]) (S' := [.ref 0]) (by decide +kernel) rfl ?_
      refine sm_getR 11 0 1 cls11 C (ltM (by decide +kernel : kdM 0 = 11) (by decide)) (by decide +kernel : kdM 0 = 11) (obM11 (by decide +kernel : kdM 0 = 11)) (by decide) (frM11_0 (by decide +kernel : kdM 0 = 11)) fl11_7 (by decide +kernel) ?_
      refine sm_seg C [(.iload_n 1, 0), (.aload_n 0, 0)] (pc' := 15) (L' := [(0, .ref 0), (1, .int a1)]) (S' := [.ref 0, .int a1, .ref 1]) (by decide +kernel) rfl ?_
      refine sm_getR 11 3 4 cls11 C (ltM (by decide +kernel : kdM 0 = 11) (by decide)) (by decide +kernel : kdM 0 = 11) (obM11 (by decide +kernel : kdM 0 = 11)) (by decide) (frM11_3 (by decide +kernel : kdM 0 = 11)) fl11_19 (by decide +kernel) ?_
      refine sm_seg C [(.iload_n 1, 0)] (pc' := 19) (L' := [(0, .ref 0), (1, .int a1)]) (S' := [.int a1, .ref 4, .int a1, .ref 1]) (by decide +kernel) rfl ?_
      refine sm_ald 255 C (ltM (krM11_3 (by decide +kernel : kdM 0 = 11)) (by decide)) (krM11_3 (by decide +kernel : kdM 0 = 11)) (nrM11_3 (by decide +kernel : kdM 0 = 11)) (by decide +kernel) (fun v1 => ?_)
      refine sm_ast 2244 C (ltM (krM11_0 (by decide +kernel : kdM 0 = 11)) (by decide)) (krM11_0 (by decide +kernel : kdM 0 = 11)) (nrM11_0 (by decide +kernel : kdM 0 = 11)) (by decide +kernel) (fun τ2 => ?_)
      refine sm_seg C [(.iinc 1 1, 1), (.goto (-22), 0)] (pc' := 2) (L' := [(1, .int (a1 + 1)), (0, .ref 0)]) (S' := []) (by decide +kernel) rfl ?_
      exact sm_sub [1, 0] rfl (ih (a1 + 1) τ2)
def X11_putsBack (F : Nat) (τ : Tau) : Option (Int32 × Tau) :=
  X11_putsBack_L2 F F 0 τ
set_option maxRecDepth 20000 in
set_option maxHeartbeats 4000000 in
theorem c_X11_putsBack (F : Nat) (τ : Tau) (r : Int32) (τ' : Tau) (h : X11_putsBack F τ = some (r, τ')) : MCv sysM yX11_putsBack cX11_putsBack 2 1 [.ref 0] τ τ' :=
  mcv_of (by decide +kernel) (Nat.le_of_ble_eq_true rfl) (fun K C hr => by
    show Sm K sysM 2 (Qv K sysM) (X11_putsBack F τ) 0 [(0, .ref 0)] [] τ
    unfold X11_putsBack
    refine sm_seg C [(.iconst 0, 0), (.istore_n 1, 0)] (pc' := 2) (L' := [(1, .int 0), (0, .ref 0)]) (S' := []) (by decide +kernel) rfl ?_
    exact sm_sub [1, 0] rfl (s_X11_putsBack_L2 F C hr F 0 τ)) h
/-! BasketEnvoysModel.goes -/
def X11_goes_j81 (F : Nat) (z0 : Int32) (τ : Tau) : Option (Int32 × Tau) :=
  cal (X11_putsBack F τ) fun r8 τ9 => some (z0, τ9)
theorem s_X11_goes_j81 (F : Nat) {K : Ctx} (C : Cx K sysM RX11 cX11_goes 4 9) (hr : Rt K (some .int)) (z0 : Int32) (τ : Tau) : Sm K sysM 4 (Qi K sysM) (X11_goes_j81 F z0 τ) 81 [(0, .ref 0)] [.int z0] τ := by
  unfold X11_goes_j81
  refine sm_seg C [(.istore_n 3, 0), (.aload_n 0, 0)] (pc' := 83) (L' := [(3, .int z0), (0, .ref 0)]) (S' := [.ref 0]) (by decide +kernel) rfl ?_
  refine sm_vcalv [] [] rfl C mw_X11_putsBack ml_11_385 rfl (ci := 11) rfl (ltM (by decide +kernel : kdM 0 = 11) (by decide)) (by decide +kernel : kdM 0 = 11) (by decide) ⟨by decide, by decide⟩ (Nat.le_of_ble_eq_true rfl) (by decide +kernel) (c_X11_putsBack F τ) (fun r8 τ9 => ?_)
  refine sm_seg C [(.iload_n 3, 0)] (pc' := 87) (L' := [(3, .int z0), (0, .ref 0)]) (S' := [.int z0]) (by decide +kernel) rfl ?_
  exact sm_iret C hr rfl (by decide +kernel)
def X11_goes_j78 (F : Nat) (z0 : Int32) (τ : Tau) : Option (Int32 × Tau) :=
  cal (X11_together F z0 τ) fun r10 τ11 => X11_goes_j81 F r10 τ11
theorem s_X11_goes_j78 (F : Nat) {K : Ctx} (C : Cx K sysM RX11 cX11_goes 4 9) (hr : Rt K (some .int)) (z0 : Int32) (τ : Tau) : Sm K sysM 4 (Qi K sysM) (X11_goes_j78 F z0 τ) 78 [(0, .ref 0)] [.int z0, .ref 0] τ := by
  unfold X11_goes_j78
  refine sm_vcal [.int z0] [] rfl C mw_X11_together ml_11_382 rfl (ci := 11) rfl (ltM (by decide +kernel : kdM 0 = 11) (by decide)) (by decide +kernel : kdM 0 = 11) (by decide) ⟨by decide, by decide⟩ (Nat.le_of_ble_eq_true rfl) (by decide +kernel) (c_X11_together F z0 τ) (fun r10 τ11 => ?_)
  exact sm_sub [0] rfl (s_X11_goes_j81 F C hr r10 τ11)
def X11_goes_L27 (F : Nat) : Nat → Int32 → Int32 → Int32 → Tau → Option (Int32 × Tau)
  | 0, _, _, _, _ => none
  | n + 1, a1, a2, a3, τ =>
    if a1 ≤ a3 then (if a2 = 2 then (ald τ 1 2244 0 fun v7 => X11_goes_j81 F v7 τ) else (if a2 = 0 then (X11_goes_j78 F 25 τ) else (if a2 = 1 then (X11_goes_j78 F 35 τ) else (X11_goes_j78 F 5 τ)))) else (cal (X11_goesBy F τ) fun r12 τ13 => X11_goes_L27 F n a1 a2 (a3 + 1) τ13)
theorem s_X11_goes_L27 (F : Nat) {K : Ctx} (C : Cx K sysM RX11 cX11_goes 4 9) (hr : Rt K (some .int)) : ∀ (n : Nat) (a1 : Int32) (a2 : Int32) (a3 : Int32) (τ : Tau), Sm K sysM 4 (Qi K sysM) (X11_goes_L27 F n a1 a2 a3 τ) 27 [(0, .ref 0), (1, .int a1), (2, .int a2), (3, .int a3)] [] τ := by
  intro n
  induction n with
  | zero => intro a1 a2 a3 τ; exact sm_none
  | succ n ih =>
    intro a1 a2 a3 τ
    rw [X11_goes_L27]
    refine sm_seg C [(.iload_n 3, 0), (.iload_n 1, 0)] (pc' := 29) (L' := [(0, .ref 0), (1, .int a1), (2, .int a2), (3, .int a3)]) (S' := [.int a1, .int a3]) (by decide +kernel) rfl ?_
    refine sm_icmpge 43 (off := 14) C (by decide +kernel) (by decide) (fun _ => ?_) (fun _ => ?_)
    · refine sm_seg C [(.iload_n 2, 0), (.iconst 2, 2)] (pc' := 45) (L' := [(0, .ref 0), (1, .int a1), (2, .int a2), (3, .int a3)]) (S' := [.int 2, .int a2]) (by decide +kernel) rfl ?_
      refine sm_icmpne 57 (off := 12) C (by decide +kernel) (by decide) (fun _ => ?_) (fun _ => ?_)
      · refine sm_seg C [(.aload_n 0, 0)] (pc' := 49) (L' := [(0, .ref 0), (1, .int a1), (2, .int a2), (3, .int a3)]) (S' := [.ref 0]) (by decide +kernel) rfl ?_
        refine sm_getR 11 0 1 cls11 C (ltM (by decide +kernel : kdM 0 = 11) (by decide)) (by decide +kernel : kdM 0 = 11) (obM11 (by decide +kernel : kdM 0 = 11)) (by decide) (frM11_0 (by decide +kernel : kdM 0 = 11)) fl11_7 (by decide +kernel) ?_
        refine sm_seg C [(.iconst 0, 0)] (pc' := 53) (L' := [(0, .ref 0), (1, .int a1), (2, .int a2), (3, .int a3)]) (S' := [.int 0, .ref 1]) (by decide +kernel) rfl ?_
        refine sm_ald 2244 C (ltM (krM11_0 (by decide +kernel : kdM 0 = 11)) (by decide)) (krM11_0 (by decide +kernel : kdM 0 = 11)) (nrM11_0 (by decide +kernel : kdM 0 = 11)) (by decide +kernel) (fun v7 => ?_)
        refine sm_seg C [(.goto 27, 0)] (pc' := 81) (L' := [(0, .ref 0), (1, .int a1), (2, .int a2), (3, .int a3)]) (S' := [.int v7]) (by decide +kernel) rfl ?_
        exact sm_sub [0] rfl (s_X11_goes_j81 F C hr v7 τ)
      · refine sm_seg C [(.aload_n 0, 0), (.iload_n 2, 0)] (pc' := 59) (L' := [(0, .ref 0), (1, .int a1), (2, .int a2), (3, .int a3)]) (S' := [.int a2, .ref 0]) (by decide +kernel) rfl ?_
        refine sm_ifne 67 (off := 8) C (by decide +kernel) (by decide) (fun _ => ?_) (fun _ => ?_)
        · refine sm_seg C [(.bipush 25, 25), (.goto 14, 0)] (pc' := 78) (L' := [(0, .ref 0), (1, .int a1), (2, .int a2), (3, .int a3)]) (S' := [.int 25, .ref 0]) (by decide +kernel) rfl ?_
          exact sm_sub [0] rfl (s_X11_goes_j78 F C hr 25 τ)
        · refine sm_seg C [(.iload_n 2, 0), (.iconst 1, 1)] (pc' := 69) (L' := [(0, .ref 0), (1, .int a1), (2, .int a2), (3, .int a3)]) (S' := [.int 1, .int a2, .ref 0]) (by decide +kernel) rfl ?_
          refine sm_icmpne 77 (off := 8) C (by decide +kernel) (by decide) (fun _ => ?_) (fun _ => ?_)
          · refine sm_seg C [(.bipush 35, 35), (.goto 4, 0)] (pc' := 78) (L' := [(0, .ref 0), (1, .int a1), (2, .int a2), (3, .int a3)]) (S' := [.int 35, .ref 0]) (by decide +kernel) rfl ?_
            exact sm_sub [0] rfl (s_X11_goes_j78 F C hr 35 τ)
          · refine sm_seg C [(.iconst 5, 5)] (pc' := 78) (L' := [(0, .ref 0), (1, .int a1), (2, .int a2), (3, .int a3)]) (S' := [.int 5, .ref 0]) (by decide +kernel) rfl ?_
            exact sm_sub [0] rfl (s_X11_goes_j78 F C hr 5 τ)
    · refine sm_seg C [(.aload_n 0, 0)] (pc' := 33) (L' := [(0, .ref 0), (1, .int a1), (2, .int a2), (3, .int a3)]) (S' := [.ref 0]) (by decide +kernel) rfl ?_
      refine sm_vcal [] [] rfl C mw_X11_goesBy ml_11_373 rfl (ci := 11) rfl (ltM (by decide +kernel : kdM 0 = 11) (by decide)) (by decide +kernel : kdM 0 = 11) (by decide) ⟨by decide, by decide⟩ (Nat.le_of_ble_eq_true rfl) (by decide +kernel) (c_X11_goesBy F τ) (fun r12 τ13 => ?_)
      refine sm_seg C [(.pop, 0), (.iinc 3 1, 1), (.goto (-13), 0)] (pc' := 27) (L' := [(3, .int (a3 + 1)), (0, .ref 0), (1, .int a1), (2, .int a2)]) (S' := []) (by decide +kernel) rfl ?_
      exact sm_sub [1, 2, 3, 0] rfl (ih a1 a2 (a3 + 1) τ13)
def X11_goes (F : Nat) (a1 : Int32) (a2 : Int32) (τ : Tau) : Option (Int32 × Tau) :=
  cal (X11_isIn F a1 1 60 τ) fun r1 τ2 => if r1 = 0 then (some ((-1), τ2)) else (cal (X11_isIn F a2 0 3 τ2) fun r3 τ4 => if r3 = 0 then (some ((-1), τ4)) else (cal (X11_thinks F τ4) fun r5 τ6 => X11_goes_L27 F F a1 a2 0 τ6))
set_option maxRecDepth 20000 in
set_option maxHeartbeats 4000000 in
theorem c_X11_goes (F : Nat) (a1 : Int32) (a2 : Int32) (τ : Tau) (r : Int32) (τ' : Tau) (h : X11_goes F a1 a2 τ = some (r, τ')) : MCi sysM yX11_goes cX11_goes 4 (some .int) 9 [.ref 0, .int a1, .int a2] τ r τ' :=
  mci_of (by decide +kernel) (Nat.le_of_ble_eq_true rfl) (fun K C hr => by
    show Sm K sysM 4 (Qi K sysM) (X11_goes F a1 a2 τ) 0 [(0, .ref 0), (1, .int a1), (2, .int a2)] [] τ
    unfold X11_goes
    refine sm_seg C [(.iload_n 1, 0), (.iconst 1, 1), (.bipush 60, 60)] (pc' := 4) (L' := [(0, .ref 0), (1, .int a1), (2, .int a2)]) (S' := [.int 60, .int 1, .int a1]) (by decide +kernel) rfl ?_
    refine sm_scal [.int a1, .int 1, .int 60] [] rfl C mw_X11_isIn ml_11_78 rfl ⟨by decide, by decide⟩ (Nat.le_of_ble_eq_true rfl) (by decide +kernel) (c_X11_isIn F a1 1 60 τ) (fun r1 τ2 => ?_)
    refine sm_ifeq 19 (off := 12) C (by decide +kernel) (by decide) (fun _ => ?_) (fun _ => ?_)
    · refine sm_seg C [(.iconst (-1), (-1))] (pc' := 20) (L' := [(0, .ref 0), (1, .int a1), (2, .int a2)]) (S' := [.int (-1)]) (by decide +kernel) rfl ?_
      exact sm_iret C hr rfl (by decide +kernel)
    · refine sm_seg C [(.iload_n 2, 0), (.iconst 0, 0), (.iconst 3, 3)] (pc' := 13) (L' := [(0, .ref 0), (1, .int a1), (2, .int a2)]) (S' := [.int 3, .int 0, .int a2]) (by decide +kernel) rfl ?_
      refine sm_scal [.int a2, .int 0, .int 3] [] rfl C mw_X11_isIn ml_11_78 rfl ⟨by decide, by decide⟩ (Nat.le_of_ble_eq_true rfl) (by decide +kernel) (c_X11_isIn F a2 0 3 τ2) (fun r3 τ4 => ?_)
      refine sm_ifne 21 (off := 5) C (by decide +kernel) (by decide) (fun _ => ?_) (fun _ => ?_)
      · refine sm_seg C [(.iconst (-1), (-1))] (pc' := 20) (L' := [(0, .ref 0), (1, .int a1), (2, .int a2)]) (S' := [.int (-1)]) (by decide +kernel) rfl ?_
        exact sm_iret C hr rfl (by decide +kernel)
      · refine sm_seg C [(.aload_n 0, 0)] (pc' := 22) (L' := [(0, .ref 0), (1, .int a1), (2, .int a2)]) (S' := [.ref 0]) (by decide +kernel) rfl ?_
        refine sm_vcalv [] [] rfl C mw_X11_thinks ml_11_379 rfl (ci := 11) rfl (ltM (by decide +kernel : kdM 0 = 11) (by decide)) (by decide +kernel : kdM 0 = 11) (by decide) ⟨by decide, by decide⟩ (Nat.le_of_ble_eq_true rfl) (by decide +kernel) (c_X11_thinks F τ4) (fun r5 τ6 => ?_)
        refine sm_seg C [(.iconst 0, 0), (.istore_n 3, 0)] (pc' := 27) (L' := [(3, .int 0), (0, .ref 0), (1, .int a1), (2, .int a2)]) (S' := []) (by decide +kernel) rfl ?_
        exact sm_sub [1, 2, 3, 0] rfl (s_X11_goes_L27 F C hr F a1 a2 0 τ6)) h
/-! BasketEnvoysModel.hat -/
def X11_hat (F : Nat) (a1 : Int32) (a2 : Int32) (τ : Tau) : Option (Int32 × Tau) :=
  cal (X11_isIn F a1 0 7 τ) fun r1 τ2 => if r1 = 0 then (some (0, τ2)) else (cal (X11_isIn F a2 0 255 τ2) fun r3 τ4 => if r3 = 0 then (some (0, τ4)) else (ast τ4 1 2244 (666 + a1) a2 fun τ5 => some (1, τ5)))
set_option maxRecDepth 20000 in
set_option maxHeartbeats 4000000 in
theorem c_X11_hat (F : Nat) (a1 : Int32) (a2 : Int32) (τ : Tau) (r : Int32) (τ' : Tau) (h : X11_hat F a1 a2 τ = some (r, τ')) : MCi sysM yX11_hat cX11_hat 3 (some .boolean) 2 [.ref 0, .int a1, .int a2] τ r τ' :=
  mci_of (by decide +kernel) (Nat.le_of_ble_eq_true rfl) (fun K C hr => by
    show Sm K sysM 3 (Qi K sysM) (X11_hat F a1 a2 τ) 0 [(0, .ref 0), (1, .int a1), (2, .int a2)] [] τ
    unfold X11_hat
    refine sm_seg C [(.iload_n 1, 0), (.iconst 0, 0), (.bipush 7, 7)] (pc' := 4) (L' := [(0, .ref 0), (1, .int a1), (2, .int a2)]) (S' := [.int 7, .int 0, .int a1]) (by decide +kernel) rfl ?_
    refine sm_scal [.int a1, .int 0, .int 7] [] rfl C mw_X11_isIn ml_11_78 rfl ⟨by decide, by decide⟩ (Nat.le_of_ble_eq_true rfl) (by decide +kernel) (c_X11_isIn F a1 0 7 τ) (fun r1 τ2 => ?_)
    refine sm_ifeq 21 (off := 14) C (by decide +kernel) (by decide) (fun _ => ?_) (fun _ => ?_)
    · refine sm_seg C [(.iconst 0, 0)] (pc' := 22) (L' := [(0, .ref 0), (1, .int a1), (2, .int a2)]) (S' := [.int 0]) (by decide +kernel) rfl ?_
      exact sm_iret C hr rfl (by decide +kernel)
    · refine sm_seg C [(.iload_n 2, 0), (.iconst 0, 0), (.sipush 255, 255)] (pc' := 15) (L' := [(0, .ref 0), (1, .int a1), (2, .int a2)]) (S' := [.int 255, .int 0, .int a2]) (by decide +kernel) rfl ?_
      refine sm_scal [.int a2, .int 0, .int 255] [] rfl C mw_X11_isIn ml_11_78 rfl ⟨by decide, by decide⟩ (Nat.le_of_ble_eq_true rfl) (by decide +kernel) (c_X11_isIn F a2 0 255 τ2) (fun r3 τ4 => ?_)
      refine sm_ifne 23 (off := 5) C (by decide +kernel) (by decide) (fun _ => ?_) (fun _ => ?_)
      · refine sm_seg C [(.iconst 0, 0)] (pc' := 22) (L' := [(0, .ref 0), (1, .int a1), (2, .int a2)]) (S' := [.int 0]) (by decide +kernel) rfl ?_
        exact sm_iret C hr rfl (by decide +kernel)
      · refine sm_seg C [(.aload_n 0, 0)] (pc' := 24) (L' := [(0, .ref 0), (1, .int a1), (2, .int a2)]) (S' := [.ref 0]) (by decide +kernel) rfl ?_
        refine sm_getR 11 0 1 cls11 C (ltM (by decide +kernel : kdM 0 = 11) (by decide)) (by decide +kernel : kdM 0 = 11) (obM11 (by decide +kernel : kdM 0 = 11)) (by decide) (frM11_0 (by decide +kernel : kdM 0 = 11)) fl11_7 (by decide +kernel) ?_
        refine sm_seg C [(.sipush 666, 666), (.iload_n 1, 0), (.iadd, 0), (.iload_n 2, 0)] (pc' := 33) (L' := [(0, .ref 0), (1, .int a1), (2, .int a2)]) (S' := [.int a2, .int (666 + a1), .ref 1]) (by decide +kernel) rfl ?_
        refine sm_ast 2244 C (ltM (krM11_0 (by decide +kernel : kdM 0 = 11)) (by decide)) (krM11_0 (by decide +kernel : kdM 0 = 11)) (nrM11_0 (by decide +kernel : kdM 0 = 11)) (by decide +kernel) (fun τ5 => ?_)
        refine sm_seg C [(.iconst 1, 1)] (pc' := 35) (L' := [(0, .ref 0), (1, .int a1), (2, .int a2)]) (S' := [.int 1]) (by decide +kernel) rfl ?_
        exact sm_iret C hr rfl (by decide +kernel)) h
/-! BasketEnvoysModel.hats -/
def X11_hats_L139 (F : Nat) (self44 : Int32 → Int32 → Tau → Option (Int32 × Tau)) : Nat → Int32 → Int32 → Int32 → Tau → Option (Int32 × Tau)
  | 0, _, _, _, _ => none
  | n + 1, a1, a2, a3, τ =>
    if (shl 1 a1) ≤ a3 then (self44 a1 (a2 + 1) τ) else (ald τ 16 256 a3 fun v4 => ast τ 15 256 a3 v4 fun τ5 => X11_hats_L139 F self44 n a1 a2 (a3 + 1) τ5)
theorem s_X11_hats_L139 (F : Nat) {K : Ctx} (C : Cx K sysM RX11 cX11_hats 5 2) (hr : Rt K (some .int)) (self44 : Int32 → Int32 → Tau → Option (Int32 × Tau)) (ih44 : ∀ (a1 : Int32) (a2 : Int32) (τ : Tau), Sm K sysM 5 (Qi K sysM) (self44 a1 a2 τ) 44 [(0, .ref 0), (1, .int a1), (2, .int a2)] [] τ) : ∀ (n : Nat) (a1 : Int32) (a2 : Int32) (a3 : Int32) (τ : Tau), Sm K sysM 5 (Qi K sysM) (X11_hats_L139 F self44 n a1 a2 a3 τ) 139 [(0, .ref 0), (1, .int a1), (2, .int a2), (3, .int a3)] [] τ := by
  intro n
  induction n with
  | zero => intro a1 a2 a3 τ; exact sm_none
  | succ n ih =>
    intro a1 a2 a3 τ
    rw [X11_hats_L139]
    refine sm_seg C [(.iload_n 3, 0), (.iconst 1, 1), (.iload_n 1, 0), (.ishl, 0)] (pc' := 143) (L' := [(0, .ref 0), (1, .int a1), (2, .int a2), (3, .int a3)]) (S' := [.int (shl 1 a1), .int a3]) (by decide +kernel) rfl ?_
    refine sm_icmpge 164 (off := 21) C (by decide +kernel) (by decide) (fun _ => ?_) (fun _ => ?_)
    · refine sm_seg C [(.iinc 2 1, 1), (.goto (-123), 0)] (pc' := 44) (L' := [(2, .int (a2 + 1)), (0, .ref 0), (1, .int a1), (3, .int a3)]) (S' := []) (by decide +kernel) rfl ?_
      exact sm_sub [1, 2, 0] rfl (ih44 a1 (a2 + 1) τ)
    · refine sm_seg C [(.aload_n 0, 0)] (pc' := 147) (L' := [(0, .ref 0), (1, .int a1), (2, .int a2), (3, .int a3)]) (S' := [.ref 0]) (by decide +kernel) rfl ?_
      refine sm_getR 11 31 15 cls11 C (ltM (by decide +kernel : kdM 0 = 11) (by decide)) (by decide +kernel : kdM 0 = 11) (obM11 (by decide +kernel : kdM 0 = 11)) (by decide) (frM11_31 (by decide +kernel : kdM 0 = 11)) fl11_57 (by decide +kernel) ?_
      refine sm_seg C [(.iload_n 3, 0), (.aload_n 0, 0)] (pc' := 152) (L' := [(0, .ref 0), (1, .int a1), (2, .int a2), (3, .int a3)]) (S' := [.ref 0, .int a3, .ref 15]) (by decide +kernel) rfl ?_
      refine sm_getR 11 32 16 cls11 C (ltM (by decide +kernel : kdM 0 = 11) (by decide)) (by decide +kernel : kdM 0 = 11) (obM11 (by decide +kernel : kdM 0 = 11)) (by decide) (frM11_32 (by decide +kernel : kdM 0 = 11)) fl11_60 (by decide +kernel) ?_
      refine sm_seg C [(.iload_n 3, 0)] (pc' := 156) (L' := [(0, .ref 0), (1, .int a1), (2, .int a2), (3, .int a3)]) (S' := [.int a3, .ref 16, .int a3, .ref 15]) (by decide +kernel) rfl ?_
      refine sm_ald 256 C (ltM (krM11_32 (by decide +kernel : kdM 0 = 11)) (by decide)) (krM11_32 (by decide +kernel : kdM 0 = 11)) (nrM11_32 (by decide +kernel : kdM 0 = 11)) (by decide +kernel) (fun v4 => ?_)
      refine sm_ast 256 C (ltM (krM11_31 (by decide +kernel : kdM 0 = 11)) (by decide)) (krM11_31 (by decide +kernel : kdM 0 = 11)) (nrM11_31 (by decide +kernel : kdM 0 = 11)) (by decide +kernel) (fun τ5 => ?_)
      refine sm_seg C [(.iinc 3 1, 1), (.goto (-22), 0)] (pc' := 139) (L' := [(3, .int (a3 + 1)), (0, .ref 0), (1, .int a1), (2, .int a2)]) (S' := []) (by decide +kernel) rfl ?_
      exact sm_sub [1, 2, 3, 0] rfl (ih a1 a2 (a3 + 1) τ5)
def X11_hats_j125 (F : Nat) (self44 : Int32 → Int32 → Tau → Option (Int32 × Tau)) (self51 : Int32 → Int32 → Int32 → Tau → Option (Int32 × Tau)) (self68 : Int32 → Int32 → Int32 → Int32 → Tau → Option (Int32 × Tau)) (a1 : Int32) (a2 : Int32) (a3 : Int32) (a4 : Int32) (τ : Tau) : Option (Int32 × Tau) :=
  self68 a1 a2 a3 (a4 + 1) τ
theorem s_X11_hats_j125 (F : Nat) {K : Ctx} (C : Cx K sysM RX11 cX11_hats 5 2) (hr : Rt K (some .int)) (self44 : Int32 → Int32 → Tau → Option (Int32 × Tau)) (self51 : Int32 → Int32 → Int32 → Tau → Option (Int32 × Tau)) (self68 : Int32 → Int32 → Int32 → Int32 → Tau → Option (Int32 × Tau)) (ih44 : ∀ (a1 : Int32) (a2 : Int32) (τ : Tau), Sm K sysM 5 (Qi K sysM) (self44 a1 a2 τ) 44 [(0, .ref 0), (1, .int a1), (2, .int a2)] [] τ) (ih51 : ∀ (a1 : Int32) (a2 : Int32) (a3 : Int32) (τ : Tau), Sm K sysM 5 (Qi K sysM) (self51 a1 a2 a3 τ) 51 [(0, .ref 0), (1, .int a1), (2, .int a2), (3, .int a3)] [] τ) (ih68 : ∀ (a1 : Int32) (a2 : Int32) (a3 : Int32) (a4 : Int32) (τ : Tau), Sm K sysM 5 (Qi K sysM) (self68 a1 a2 a3 a4 τ) 68 [(0, .ref 0), (1, .int a1), (2, .int a2), (3, .int a3), (4, .int a4)] [] τ) (a1 : Int32) (a2 : Int32) (a3 : Int32) (a4 : Int32) (τ : Tau) : Sm K sysM 5 (Qi K sysM) (X11_hats_j125 F self44 self51 self68 a1 a2 a3 a4 τ) 125 [(0, .ref 0), (1, .int a1), (2, .int a2), (3, .int a3), (4, .int a4)] [] τ := by
  unfold X11_hats_j125
  refine sm_seg C [(.iinc 4 1, 1), (.goto (-60), 0)] (pc' := 68) (L' := [(4, .int (a4 + 1)), (0, .ref 0), (1, .int a1), (2, .int a2), (3, .int a3)]) (S' := []) (by decide +kernel) rfl ?_
  exact sm_sub [1, 2, 3, 4, 0] rfl (ih68 a1 a2 a3 (a4 + 1) τ)
def X11_hats_L68 (F : Nat) (self44 : Int32 → Int32 → Tau → Option (Int32 × Tau)) (self51 : Int32 → Int32 → Int32 → Tau → Option (Int32 × Tau)) : Nat → Int32 → Int32 → Int32 → Int32 → Tau → Option (Int32 × Tau)
  | 0, _, _, _, _, _ => none
  | n + 1, a1, a2, a3, a4, τ =>
    if a1 ≤ a4 then (self51 a1 a2 (a3 + 1) τ) else (if ((shr a3 a4) &&& 1) = 1 then (ald τ 1 2244 (666 + a2) fun v7 => if ((shr v7 a4) &&& 1) = 1 then (ald τ 16 256 a3 fun v8 => ald τ 15 256 (a3 &&& ((shl 1 a4) ^^^ (-1))) fun v9 => ast τ 16 256 a3 (v8 + v9) fun τ10 => X11_hats_j125 F self44 self51 (X11_hats_L68 F self44 self51 n) a1 a2 a3 a4 τ10) else (X11_hats_j125 F self44 self51 (X11_hats_L68 F self44 self51 n) a1 a2 a3 a4 τ)) else (X11_hats_j125 F self44 self51 (X11_hats_L68 F self44 self51 n) a1 a2 a3 a4 τ))
theorem s_X11_hats_L68 (F : Nat) {K : Ctx} (C : Cx K sysM RX11 cX11_hats 5 2) (hr : Rt K (some .int)) (self44 : Int32 → Int32 → Tau → Option (Int32 × Tau)) (self51 : Int32 → Int32 → Int32 → Tau → Option (Int32 × Tau)) (ih44 : ∀ (a1 : Int32) (a2 : Int32) (τ : Tau), Sm K sysM 5 (Qi K sysM) (self44 a1 a2 τ) 44 [(0, .ref 0), (1, .int a1), (2, .int a2)] [] τ) (ih51 : ∀ (a1 : Int32) (a2 : Int32) (a3 : Int32) (τ : Tau), Sm K sysM 5 (Qi K sysM) (self51 a1 a2 a3 τ) 51 [(0, .ref 0), (1, .int a1), (2, .int a2), (3, .int a3)] [] τ) : ∀ (n : Nat) (a1 : Int32) (a2 : Int32) (a3 : Int32) (a4 : Int32) (τ : Tau), Sm K sysM 5 (Qi K sysM) (X11_hats_L68 F self44 self51 n a1 a2 a3 a4 τ) 68 [(0, .ref 0), (1, .int a1), (2, .int a2), (3, .int a3), (4, .int a4)] [] τ := by
  intro n
  induction n with
  | zero => intro a1 a2 a3 a4 τ; exact sm_none
  | succ n ih =>
    intro a1 a2 a3 a4 τ
    rw [X11_hats_L68]
    refine sm_seg C [(.iload 4, 0), (.iload_n 1, 0)] (pc' := 71) (L' := [(0, .ref 0), (1, .int a1), (2, .int a2), (3, .int a3), (4, .int a4)]) (S' := [.int a1, .int a4]) (by decide +kernel) rfl ?_
    refine sm_icmpge 131 (off := 60) C (by decide +kernel) (by decide) (fun _ => ?_) (fun _ => ?_)
    · refine sm_seg C [(.iinc 3 1, 1), (.goto (-83), 0)] (pc' := 51) (L' := [(3, .int (a3 + 1)), (0, .ref 0), (1, .int a1), (2, .int a2), (4, .int a4)]) (S' := []) (by decide +kernel) rfl ?_
      exact sm_sub [1, 2, 3, 0] rfl (ih51 a1 a2 (a3 + 1) τ)
    · refine sm_seg C [(.iload_n 3, 0), (.iload 4, 0), (.ishr, 0), (.iconst 1, 1), (.iand, 0), (.iconst 1, 1)] (pc' := 81) (L' := [(0, .ref 0), (1, .int a1), (2, .int a2), (3, .int a3), (4, .int a4)]) (S' := [.int 1, .int ((shr a3 a4) &&& 1)]) (by decide +kernel) rfl ?_
      refine sm_icmpne 125 (off := 44) C (by decide +kernel) (by decide) (fun _ => ?_) (fun _ => ?_)
      · refine sm_seg C [(.aload_n 0, 0)] (pc' := 85) (L' := [(0, .ref 0), (1, .int a1), (2, .int a2), (3, .int a3), (4, .int a4)]) (S' := [.ref 0]) (by decide +kernel) rfl ?_
        refine sm_getR 11 0 1 cls11 C (ltM (by decide +kernel : kdM 0 = 11) (by decide)) (by decide +kernel : kdM 0 = 11) (obM11 (by decide +kernel : kdM 0 = 11)) (by decide) (frM11_0 (by decide +kernel : kdM 0 = 11)) fl11_7 (by decide +kernel) ?_
        refine sm_seg C [(.sipush 666, 666), (.iload_n 2, 0), (.iadd, 0)] (pc' := 93) (L' := [(0, .ref 0), (1, .int a1), (2, .int a2), (3, .int a3), (4, .int a4)]) (S' := [.int (666 + a2), .ref 1]) (by decide +kernel) rfl ?_
        refine sm_ald 2244 C (ltM (krM11_0 (by decide +kernel : kdM 0 = 11)) (by decide)) (krM11_0 (by decide +kernel : kdM 0 = 11)) (nrM11_0 (by decide +kernel : kdM 0 = 11)) (by decide +kernel) (fun v7 => ?_)
        refine sm_seg C [(.iload 4, 0), (.ishr, 0), (.iconst 1, 1), (.iand, 0), (.iconst 1, 1)] (pc' := 100) (L' := [(0, .ref 0), (1, .int a1), (2, .int a2), (3, .int a3), (4, .int a4)]) (S' := [.int 1, .int ((shr v7 a4) &&& 1)]) (by decide +kernel) rfl ?_
        refine sm_icmpne 125 (off := 25) C (by decide +kernel) (by decide) (fun _ => ?_) (fun _ => ?_)
        · refine sm_seg C [(.aload_n 0, 0)] (pc' := 104) (L' := [(0, .ref 0), (1, .int a1), (2, .int a2), (3, .int a3), (4, .int a4)]) (S' := [.ref 0]) (by decide +kernel) rfl ?_
          refine sm_getR 11 32 16 cls11 C (ltM (by decide +kernel : kdM 0 = 11) (by decide)) (by decide +kernel : kdM 0 = 11) (obM11 (by decide +kernel : kdM 0 = 11)) (by decide) (frM11_32 (by decide +kernel : kdM 0 = 11)) fl11_60 (by decide +kernel) ?_
          refine sm_seg C [(.iload_n 3, 0), (.dup2, 0)] (pc' := 109) (L' := [(0, .ref 0), (1, .int a1), (2, .int a2), (3, .int a3), (4, .int a4)]) (S' := [.int a3, .ref 16, .int a3, .ref 16]) (by decide +kernel) rfl ?_
          refine sm_ald 256 C (ltM (krM11_32 (by decide +kernel : kdM 0 = 11)) (by decide)) (krM11_32 (by decide +kernel : kdM 0 = 11)) (nrM11_32 (by decide +kernel : kdM 0 = 11)) (by decide +kernel) (fun v8 => ?_)
          refine sm_seg C [(.aload_n 0, 0)] (pc' := 111) (L' := [(0, .ref 0), (1, .int a1), (2, .int a2), (3, .int a3), (4, .int a4)]) (S' := [.ref 0, .int v8, .int a3, .ref 16]) (by decide +kernel) rfl ?_
          refine sm_getR 11 31 15 cls11 C (ltM (by decide +kernel : kdM 0 = 11) (by decide)) (by decide +kernel : kdM 0 = 11) (obM11 (by decide +kernel : kdM 0 = 11)) (by decide) (frM11_31 (by decide +kernel : kdM 0 = 11)) fl11_57 (by decide +kernel) ?_
          refine sm_seg C [(.iload_n 3, 0), (.iconst 1, 1), (.iload 4, 0), (.ishl, 0), (.iconst (-1), (-1)), (.ixor, 0), (.iand, 0)] (pc' := 122) (L' := [(0, .ref 0), (1, .int a1), (2, .int a2), (3, .int a3), (4, .int a4)]) (S' := [.int (a3 &&& ((shl 1 a4) ^^^ (-1))), .ref 15, .int v8, .int a3, .ref 16]) (by decide +kernel) rfl ?_
          refine sm_ald 256 C (ltM (krM11_31 (by decide +kernel : kdM 0 = 11)) (by decide)) (krM11_31 (by decide +kernel : kdM 0 = 11)) (nrM11_31 (by decide +kernel : kdM 0 = 11)) (by decide +kernel) (fun v9 => ?_)
          refine sm_seg C [(.iadd, 0)] (pc' := 124) (L' := [(0, .ref 0), (1, .int a1), (2, .int a2), (3, .int a3), (4, .int a4)]) (S' := [.int (v8 + v9), .int a3, .ref 16]) (by decide +kernel) rfl ?_
          refine sm_ast 256 C (ltM (krM11_32 (by decide +kernel : kdM 0 = 11)) (by decide)) (krM11_32 (by decide +kernel : kdM 0 = 11)) (nrM11_32 (by decide +kernel : kdM 0 = 11)) (by decide +kernel) (fun τ10 => ?_)
          exact sm_sub [0, 1, 2, 3, 4] rfl (s_X11_hats_j125 F C hr self44 self51 (X11_hats_L68 F self44 self51 n) ih44 ih51 ih a1 a2 a3 a4 τ10)
        · exact sm_sub [0, 1, 2, 3, 4] rfl (s_X11_hats_j125 F C hr self44 self51 (X11_hats_L68 F self44 self51 n) ih44 ih51 ih a1 a2 a3 a4 τ)
      · exact sm_sub [0, 1, 2, 3, 4] rfl (s_X11_hats_j125 F C hr self44 self51 (X11_hats_L68 F self44 self51 n) ih44 ih51 ih a1 a2 a3 a4 τ)
def X11_hats_L51 (F : Nat) (self44 : Int32 → Int32 → Tau → Option (Int32 × Tau)) : Nat → Int32 → Int32 → Int32 → Tau → Option (Int32 × Tau)
  | 0, _, _, _, _ => none
  | n + 1, a1, a2, a3, τ =>
    if (shl 1 a1) ≤ a3 then (X11_hats_L139 F self44 F a1 a2 0 τ) else (ast τ 16 256 a3 0 fun τ6 => X11_hats_L68 F self44 (X11_hats_L51 F self44 n) F a1 a2 a3 0 τ6)
theorem s_X11_hats_L51 (F : Nat) {K : Ctx} (C : Cx K sysM RX11 cX11_hats 5 2) (hr : Rt K (some .int)) (self44 : Int32 → Int32 → Tau → Option (Int32 × Tau)) (ih44 : ∀ (a1 : Int32) (a2 : Int32) (τ : Tau), Sm K sysM 5 (Qi K sysM) (self44 a1 a2 τ) 44 [(0, .ref 0), (1, .int a1), (2, .int a2)] [] τ) : ∀ (n : Nat) (a1 : Int32) (a2 : Int32) (a3 : Int32) (τ : Tau), Sm K sysM 5 (Qi K sysM) (X11_hats_L51 F self44 n a1 a2 a3 τ) 51 [(0, .ref 0), (1, .int a1), (2, .int a2), (3, .int a3)] [] τ := by
  intro n
  induction n with
  | zero => intro a1 a2 a3 τ; exact sm_none
  | succ n ih =>
    intro a1 a2 a3 τ
    rw [X11_hats_L51]
    refine sm_seg C [(.iload_n 3, 0), (.iconst 1, 1), (.iload_n 1, 0), (.ishl, 0)] (pc' := 55) (L' := [(0, .ref 0), (1, .int a1), (2, .int a2), (3, .int a3)]) (S' := [.int (shl 1 a1), .int a3]) (by decide +kernel) rfl ?_
    refine sm_icmpge 137 (off := 82) C (by decide +kernel) (by decide) (fun _ => ?_) (fun _ => ?_)
    · refine sm_seg C [(.iconst 0, 0), (.istore_n 3, 0)] (pc' := 139) (L' := [(3, .int 0), (0, .ref 0), (1, .int a1), (2, .int a2)]) (S' := []) (by decide +kernel) rfl ?_
      exact sm_sub [1, 2, 3, 0] rfl (s_X11_hats_L139 F C hr self44 ih44 F a1 a2 0 τ)
    · refine sm_seg C [(.aload_n 0, 0)] (pc' := 59) (L' := [(0, .ref 0), (1, .int a1), (2, .int a2), (3, .int a3)]) (S' := [.ref 0]) (by decide +kernel) rfl ?_
      refine sm_getR 11 32 16 cls11 C (ltM (by decide +kernel : kdM 0 = 11) (by decide)) (by decide +kernel : kdM 0 = 11) (obM11 (by decide +kernel : kdM 0 = 11)) (by decide) (frM11_32 (by decide +kernel : kdM 0 = 11)) fl11_60 (by decide +kernel) ?_
      refine sm_seg C [(.iload_n 3, 0), (.iconst 0, 0)] (pc' := 64) (L' := [(0, .ref 0), (1, .int a1), (2, .int a2), (3, .int a3)]) (S' := [.int 0, .int a3, .ref 16]) (by decide +kernel) rfl ?_
      refine sm_ast 256 C (ltM (krM11_32 (by decide +kernel : kdM 0 = 11)) (by decide)) (krM11_32 (by decide +kernel : kdM 0 = 11)) (nrM11_32 (by decide +kernel : kdM 0 = 11)) (by decide +kernel) (fun τ6 => ?_)
      refine sm_seg C [(.iconst 0, 0), (.istore 4, 0)] (pc' := 68) (L' := [(4, .int 0), (0, .ref 0), (1, .int a1), (2, .int a2), (3, .int a3)]) (S' := []) (by decide +kernel) rfl ?_
      exact sm_sub [1, 2, 3, 4, 0] rfl (s_X11_hats_L68 F C hr self44 (X11_hats_L51 F self44 n) ih44 ih F a1 a2 a3 0 τ6)
def X11_hats_L44 (F : Nat) : Nat → Int32 → Int32 → Tau → Option (Int32 × Tau)
  | 0, _, _, _ => none
  | n + 1, a1, a2, τ =>
    if a1 ≤ a2 then (ald τ 15 256 ((shl 1 a1) - 1) fun v3 => some (v3, τ)) else (X11_hats_L51 F (X11_hats_L44 F n) F a1 a2 0 τ)
theorem s_X11_hats_L44 (F : Nat) {K : Ctx} (C : Cx K sysM RX11 cX11_hats 5 2) (hr : Rt K (some .int)) : ∀ (n : Nat) (a1 : Int32) (a2 : Int32) (τ : Tau), Sm K sysM 5 (Qi K sysM) (X11_hats_L44 F n a1 a2 τ) 44 [(0, .ref 0), (1, .int a1), (2, .int a2)] [] τ := by
  intro n
  induction n with
  | zero => intro a1 a2 τ; exact sm_none
  | succ n ih =>
    intro a1 a2 τ
    rw [X11_hats_L44]
    refine sm_seg C [(.iload_n 2, 0), (.iload_n 1, 0)] (pc' := 46) (L' := [(0, .ref 0), (1, .int a1), (2, .int a2)]) (S' := [.int a1, .int a2]) (by decide +kernel) rfl ?_
    refine sm_icmpge 170 (off := 124) C (by decide +kernel) (by decide) (fun _ => ?_) (fun _ => ?_)
    · refine sm_seg C [(.aload_n 0, 0)] (pc' := 171) (L' := [(0, .ref 0), (1, .int a1), (2, .int a2)]) (S' := [.ref 0]) (by decide +kernel) rfl ?_
      refine sm_getR 11 31 15 cls11 C (ltM (by decide +kernel : kdM 0 = 11) (by decide)) (by decide +kernel : kdM 0 = 11) (obM11 (by decide +kernel : kdM 0 = 11)) (by decide) (frM11_31 (by decide +kernel : kdM 0 = 11)) fl11_57 (by decide +kernel) ?_
      refine sm_seg C [(.iconst 1, 1), (.iload_n 1, 0), (.ishl, 0), (.iconst 1, 1), (.isub, 0)] (pc' := 179) (L' := [(0, .ref 0), (1, .int a1), (2, .int a2)]) (S' := [.int ((shl 1 a1) - 1), .ref 15]) (by decide +kernel) rfl ?_
      refine sm_ald 256 C (ltM (krM11_31 (by decide +kernel : kdM 0 = 11)) (by decide)) (krM11_31 (by decide +kernel : kdM 0 = 11)) (nrM11_31 (by decide +kernel : kdM 0 = 11)) (by decide +kernel) (fun v3 => ?_)
      exact sm_iret C hr rfl (by decide +kernel)
    · refine sm_seg C [(.iconst 0, 0), (.istore_n 3, 0)] (pc' := 51) (L' := [(3, .int 0), (0, .ref 0), (1, .int a1), (2, .int a2)]) (S' := []) (by decide +kernel) rfl ?_
      exact sm_sub [1, 2, 3, 0] rfl (s_X11_hats_L51 F C hr (X11_hats_L44 F n) ih F a1 a2 0 τ)
def X11_hats_j35 (F : Nat) (self14 : Int32 → Int32 → Tau → Option (Int32 × Tau)) (a1 : Int32) (a2 : Int32) (z0 : Int32) (z1 : Int32) (τ : Tau) : Option (Int32 × Tau) :=
  ast τ 15 256 z1 z0 fun τ11 => self14 a1 (a2 + 1) τ11
theorem s_X11_hats_j35 (F : Nat) {K : Ctx} (C : Cx K sysM RX11 cX11_hats 5 2) (hr : Rt K (some .int)) (self14 : Int32 → Int32 → Tau → Option (Int32 × Tau)) (ih14 : ∀ (a1 : Int32) (a2 : Int32) (τ : Tau), Sm K sysM 5 (Qi K sysM) (self14 a1 a2 τ) 14 [(0, .ref 0), (1, .int a1), (2, .int a2)] [] τ) (a1 : Int32) (a2 : Int32) (z0 : Int32) (z1 : Int32) (τ : Tau) : Sm K sysM 5 (Qi K sysM) (X11_hats_j35 F self14 a1 a2 z0 z1 τ) 35 [(0, .ref 0), (1, .int a1), (2, .int a2)] [.int z0, .int z1, .ref 15] τ := by
  unfold X11_hats_j35
  refine sm_ast 256 C (ltM (krM11_31 (by decide +kernel : kdM 0 = 11)) (by decide)) (krM11_31 (by decide +kernel : kdM 0 = 11)) (nrM11_31 (by decide +kernel : kdM 0 = 11)) (by decide +kernel) (fun τ11 => ?_)
  refine sm_seg C [(.iinc 2 1, 1), (.goto (-25), 0)] (pc' := 14) (L' := [(2, .int (a2 + 1)), (0, .ref 0), (1, .int a1)]) (S' := []) (by decide +kernel) rfl ?_
  exact sm_sub [1, 2, 0] rfl (ih14 a1 (a2 + 1) τ11)
def X11_hats_L14 (F : Nat) : Nat → Int32 → Int32 → Tau → Option (Int32 × Tau)
  | 0, _, _, _ => none
  | n + 1, a1, a2, τ =>
    if (shl 1 a1) ≤ a2 then (X11_hats_L44 F F a1 0 τ) else (if a2 = 0 then (X11_hats_j35 F (X11_hats_L14 F n) a1 a2 1 a2 τ) else (X11_hats_j35 F (X11_hats_L14 F n) a1 a2 0 a2 τ))
theorem s_X11_hats_L14 (F : Nat) {K : Ctx} (C : Cx K sysM RX11 cX11_hats 5 2) (hr : Rt K (some .int)) : ∀ (n : Nat) (a1 : Int32) (a2 : Int32) (τ : Tau), Sm K sysM 5 (Qi K sysM) (X11_hats_L14 F n a1 a2 τ) 14 [(0, .ref 0), (1, .int a1), (2, .int a2)] [] τ := by
  intro n
  induction n with
  | zero => intro a1 a2 τ; exact sm_none
  | succ n ih =>
    intro a1 a2 τ
    rw [X11_hats_L14]
    refine sm_seg C [(.iload_n 2, 0), (.iconst 1, 1), (.iload_n 1, 0), (.ishl, 0)] (pc' := 18) (L' := [(0, .ref 0), (1, .int a1), (2, .int a2)]) (S' := [.int (shl 1 a1), .int a2]) (by decide +kernel) rfl ?_
    refine sm_icmpge 42 (off := 24) C (by decide +kernel) (by decide) (fun _ => ?_) (fun _ => ?_)
    · refine sm_seg C [(.iconst 0, 0), (.istore_n 2, 0)] (pc' := 44) (L' := [(2, .int 0), (0, .ref 0), (1, .int a1)]) (S' := []) (by decide +kernel) rfl ?_
      exact sm_sub [1, 2, 0] rfl (s_X11_hats_L44 F C hr F a1 0 τ)
    · refine sm_seg C [(.aload_n 0, 0)] (pc' := 22) (L' := [(0, .ref 0), (1, .int a1), (2, .int a2)]) (S' := [.ref 0]) (by decide +kernel) rfl ?_
      refine sm_getR 11 31 15 cls11 C (ltM (by decide +kernel : kdM 0 = 11) (by decide)) (by decide +kernel : kdM 0 = 11) (obM11 (by decide +kernel : kdM 0 = 11)) (by decide) (frM11_31 (by decide +kernel : kdM 0 = 11)) fl11_57 (by decide +kernel) ?_
      refine sm_seg C [(.iload_n 2, 0), (.iload_n 2, 0)] (pc' := 27) (L' := [(0, .ref 0), (1, .int a1), (2, .int a2)]) (S' := [.int a2, .int a2, .ref 15]) (by decide +kernel) rfl ?_
      refine sm_ifne 34 (off := 7) C (by decide +kernel) (by decide) (fun _ => ?_) (fun _ => ?_)
      · refine sm_seg C [(.iconst 1, 1), (.goto 4, 0)] (pc' := 35) (L' := [(0, .ref 0), (1, .int a1), (2, .int a2)]) (S' := [.int 1, .int a2, .ref 15]) (by decide +kernel) rfl ?_
        exact sm_sub [0, 1, 2] rfl (s_X11_hats_j35 F C hr (X11_hats_L14 F n) ih a1 a2 1 a2 τ)
      · refine sm_seg C [(.iconst 0, 0)] (pc' := 35) (L' := [(0, .ref 0), (1, .int a1), (2, .int a2)]) (S' := [.int 0, .int a2, .ref 15]) (by decide +kernel) rfl ?_
        exact sm_sub [0, 1, 2] rfl (s_X11_hats_j35 F C hr (X11_hats_L14 F n) ih a1 a2 0 a2 τ)
def X11_hats (F : Nat) (a1 : Int32) (τ : Tau) : Option (Int32 × Tau) :=
  cal (X11_isIn F a1 1 8 τ) fun r1 τ2 => if r1 = 0 then (some ((-1), τ2)) else (X11_hats_L14 F F a1 0 τ2)
set_option maxRecDepth 20000 in
set_option maxHeartbeats 4000000 in
theorem c_X11_hats (F : Nat) (a1 : Int32) (τ : Tau) (r : Int32) (τ' : Tau) (h : X11_hats F a1 τ = some (r, τ')) : MCi sysM yX11_hats cX11_hats 5 (some .int) 2 [.ref 0, .int a1] τ r τ' :=
  mci_of (by decide +kernel) (Nat.le_of_ble_eq_true rfl) (fun K C hr => by
    show Sm K sysM 5 (Qi K sysM) (X11_hats F a1 τ) 0 [(0, .ref 0), (1, .int a1)] [] τ
    unfold X11_hats
    refine sm_seg C [(.iload_n 1, 0), (.iconst 1, 1), (.bipush 8, 8)] (pc' := 4) (L' := [(0, .ref 0), (1, .int a1)]) (S' := [.int 8, .int 1, .int a1]) (by decide +kernel) rfl ?_
    refine sm_scal [.int a1, .int 1, .int 8] [] rfl C mw_X11_isIn ml_11_78 rfl ⟨by decide, by decide⟩ (Nat.le_of_ble_eq_true rfl) (by decide +kernel) (c_X11_isIn F a1 1 8 τ) (fun r1 τ2 => ?_)
    refine sm_ifne 12 (off := 5) C (by decide +kernel) (by decide) (fun _ => ?_) (fun _ => ?_)
    · refine sm_seg C [(.iconst (-1), (-1))] (pc' := 11) (L' := [(0, .ref 0), (1, .int a1)]) (S' := [.int (-1)]) (by decide +kernel) rfl ?_
      exact sm_iret C hr rfl (by decide +kernel)
    · refine sm_seg C [(.iconst 0, 0), (.istore_n 2, 0)] (pc' := 14) (L' := [(2, .int 0), (0, .ref 0), (1, .int a1)]) (S' := []) (by decide +kernel) rfl ?_
      exact sm_sub [1, 2, 0] rfl (s_X11_hats_L14 F C hr F a1 0 τ2)) h
/-! BasketEnvoysModel.isReadSo -/
def X11_isReadSo_j86 (F : Nat) (self25 : Int32 → Int32 → Int32 → Tau → Option (Int32 × Tau)) (a1 : Int32) (a3 : Int32) (z0 : Int32) (z1 : Int32) (τ : Tau) : Option (Int32 × Tau) :=
  self25 a1 (z1 &&& z0) (a3 + 1) τ
theorem s_X11_isReadSo_j86 (F : Nat) {K : Ctx} (C : Cx K sysM RX11 cX11_isReadSo 4 2) (hr : Rt K (some .boolean)) (self25 : Int32 → Int32 → Int32 → Tau → Option (Int32 × Tau)) (ih25 : ∀ (a1 : Int32) (a2 : Int32) (a3 : Int32) (τ : Tau), Sm K sysM 4 (Qi K sysM) (self25 a1 a2 a3 τ) 25 [(0, .ref 0), (1, .int a1), (2, .int a2), (3, .int a3)] [] τ) (a1 : Int32) (a3 : Int32) (z0 : Int32) (z1 : Int32) (τ : Tau) : Sm K sysM 4 (Qi K sysM) (X11_isReadSo_j86 F self25 a1 a3 z0 z1 τ) 86 [(0, .ref 0), (1, .int a1), (3, .int a3)] [.int z0, .int z1] τ := by
  unfold X11_isReadSo_j86
  refine sm_seg C [(.iand, 0), (.istore_n 2, 0), (.iinc 3 1, 1), (.goto (-66), 0)] (pc' := 25) (L' := [(3, .int (a3 + 1)), (2, .int (z1 &&& z0)), (0, .ref 0), (1, .int a1)]) (S' := []) (by decide +kernel) rfl ?_
  exact sm_sub [2, 3, 1, 0] rfl (ih25 a1 (z1 &&& z0) (a3 + 1) τ)
def X11_isReadSo_j81 (F : Nat) (self25 : Int32 → Int32 → Int32 → Tau → Option (Int32 × Tau)) (a1 : Int32) (a3 : Int32) (z0 : Int32) (τ : Tau) : Option (Int32 × Tau) :=
  X11_isReadSo_j86 F self25 a1 a3 1 z0 τ
theorem s_X11_isReadSo_j81 (F : Nat) {K : Ctx} (C : Cx K sysM RX11 cX11_isReadSo 4 2) (hr : Rt K (some .boolean)) (self25 : Int32 → Int32 → Int32 → Tau → Option (Int32 × Tau)) (ih25 : ∀ (a1 : Int32) (a2 : Int32) (a3 : Int32) (τ : Tau), Sm K sysM 4 (Qi K sysM) (self25 a1 a2 a3 τ) 25 [(0, .ref 0), (1, .int a1), (2, .int a2), (3, .int a3)] [] τ) (a1 : Int32) (a3 : Int32) (z0 : Int32) (τ : Tau) : Sm K sysM 4 (Qi K sysM) (X11_isReadSo_j81 F self25 a1 a3 z0 τ) 81 [(0, .ref 0), (1, .int a1), (3, .int a3)] [.int z0] τ := by
  unfold X11_isReadSo_j81
  refine sm_seg C [(.iconst 1, 1), (.goto 4, 0)] (pc' := 86) (L' := [(0, .ref 0), (1, .int a1), (3, .int a3)]) (S' := [.int 1, .int z0]) (by decide +kernel) rfl ?_
  exact sm_sub [0, 1, 2] rfl (s_X11_isReadSo_j86 F C hr self25 ih25 a1 a3 1 z0 τ)
def X11_isReadSo_L25 (F : Nat) : Nat → Int32 → Int32 → Int32 → Tau → Option (Int32 × Tau)
  | 0, _, _, _, _ => none
  | n + 1, a1, a2, a3, τ =>
    ald τ 1 2244 515 fun v3 => if v3 < a3 then (some (vp_nar .boolean a2, τ)) else (ald τ 1 2244 (536 + a3) fun v4 => if v4 = (-2) then (X11_isReadSo_j81 F (X11_isReadSo_L25 F n) a1 a3 a2 τ) else (ald τ 1 2244 (515 + a3) fun v5 => cal (X11_meaning F a1 v5 τ) fun r6 τ7 => ald τ7 1 2244 (536 + a3) fun v8 => if r6 = v8 then (X11_isReadSo_j81 F (X11_isReadSo_L25 F n) a1 a3 a2 τ7) else (X11_isReadSo_j86 F (X11_isReadSo_L25 F n) a1 a3 0 a2 τ7)))
theorem s_X11_isReadSo_L25 (F : Nat) {K : Ctx} (C : Cx K sysM RX11 cX11_isReadSo 4 2) (hr : Rt K (some .boolean)) : ∀ (n : Nat) (a1 : Int32) (a2 : Int32) (a3 : Int32) (τ : Tau), Sm K sysM 4 (Qi K sysM) (X11_isReadSo_L25 F n a1 a2 a3 τ) 25 [(0, .ref 0), (1, .int a1), (2, .int a2), (3, .int a3)] [] τ := by
  intro n
  induction n with
  | zero => intro a1 a2 a3 τ; exact sm_none
  | succ n ih =>
    intro a1 a2 a3 τ
    rw [X11_isReadSo_L25]
    refine sm_seg C [(.iload_n 3, 0), (.aload_n 0, 0)] (pc' := 27) (L' := [(0, .ref 0), (1, .int a1), (2, .int a2), (3, .int a3)]) (S' := [.ref 0, .int a3]) (by decide +kernel) rfl ?_
    refine sm_getR 11 0 1 cls11 C (ltM (by decide +kernel : kdM 0 = 11) (by decide)) (by decide +kernel : kdM 0 = 11) (obM11 (by decide +kernel : kdM 0 = 11)) (by decide) (frM11_0 (by decide +kernel : kdM 0 = 11)) fl11_7 (by decide +kernel) ?_
    refine sm_seg C [(.sipush 515, 515)] (pc' := 33) (L' := [(0, .ref 0), (1, .int a1), (2, .int a2), (3, .int a3)]) (S' := [.int 515, .ref 1, .int a3]) (by decide +kernel) rfl ?_
    refine sm_ald 2244 C (ltM (krM11_0 (by decide +kernel : kdM 0 = 11)) (by decide)) (krM11_0 (by decide +kernel : kdM 0 = 11)) (nrM11_0 (by decide +kernel : kdM 0 = 11)) (by decide +kernel) (fun v3 => ?_)
    refine sm_icmpgt 94 (off := 60) C (by decide +kernel) (by decide) (fun _ => ?_) (fun _ => ?_)
    · refine sm_seg C [(.iload_n 2, 0)] (pc' := 95) (L' := [(0, .ref 0), (1, .int a1), (2, .int a2), (3, .int a3)]) (S' := [.int a2]) (by decide +kernel) rfl ?_
      exact sm_iret C hr nar_boolean (by decide +kernel)
    · refine sm_seg C [(.iload_n 2, 0), (.aload_n 0, 0)] (pc' := 39) (L' := [(0, .ref 0), (1, .int a1), (2, .int a2), (3, .int a3)]) (S' := [.ref 0, .int a2]) (by decide +kernel) rfl ?_
      refine sm_getR 11 0 1 cls11 C (ltM (by decide +kernel : kdM 0 = 11) (by decide)) (by decide +kernel : kdM 0 = 11) (obM11 (by decide +kernel : kdM 0 = 11)) (by decide) (frM11_0 (by decide +kernel : kdM 0 = 11)) fl11_7 (by decide +kernel) ?_
      refine sm_seg C [(.sipush 536, 536), (.iload_n 3, 0), (.iadd, 0)] (pc' := 47) (L' := [(0, .ref 0), (1, .int a1), (2, .int a2), (3, .int a3)]) (S' := [.int (536 + a3), .ref 1, .int a2]) (by decide +kernel) rfl ?_
      refine sm_ald 2244 C (ltM (krM11_0 (by decide +kernel : kdM 0 = 11)) (by decide)) (krM11_0 (by decide +kernel : kdM 0 = 11)) (nrM11_0 (by decide +kernel : kdM 0 = 11)) (by decide +kernel) (fun v4 => ?_)
      refine sm_seg C [(.bipush (-2), (-2))] (pc' := 50) (L' := [(0, .ref 0), (1, .int a1), (2, .int a2), (3, .int a3)]) (S' := [.int (-2), .int v4, .int a2]) (by decide +kernel) rfl ?_
      refine sm_icmpeq 81 (off := 31) C (by decide +kernel) (by decide) (fun _ => ?_) (fun _ => ?_)
      · exact sm_sub [0, 1, 3] rfl (s_X11_isReadSo_j81 F C hr (X11_isReadSo_L25 F n) ih a1 a3 a2 τ)
      · refine sm_seg C [(.aload_n 0, 0), (.iload_n 1, 0), (.aload_n 0, 0)] (pc' := 56) (L' := [(0, .ref 0), (1, .int a1), (2, .int a2), (3, .int a3)]) (S' := [.ref 0, .int a1, .ref 0, .int a2]) (by decide +kernel) rfl ?_
        refine sm_getR 11 0 1 cls11 C (ltM (by decide +kernel : kdM 0 = 11) (by decide)) (by decide +kernel : kdM 0 = 11) (obM11 (by decide +kernel : kdM 0 = 11)) (by decide) (frM11_0 (by decide +kernel : kdM 0 = 11)) fl11_7 (by decide +kernel) ?_
        refine sm_seg C [(.sipush 515, 515), (.iload_n 3, 0), (.iadd, 0)] (pc' := 64) (L' := [(0, .ref 0), (1, .int a1), (2, .int a2), (3, .int a3)]) (S' := [.int (515 + a3), .ref 1, .int a1, .ref 0, .int a2]) (by decide +kernel) rfl ?_
        refine sm_ald 2244 C (ltM (krM11_0 (by decide +kernel : kdM 0 = 11)) (by decide)) (krM11_0 (by decide +kernel : kdM 0 = 11)) (nrM11_0 (by decide +kernel : kdM 0 = 11)) (by decide +kernel) (fun v5 => ?_)
        refine sm_vcal [.int a1, .int v5] [.int a2] rfl C mw_X11_meaning ml_11_309 rfl (ci := 11) rfl (ltM (by decide +kernel : kdM 0 = 11) (by decide)) (by decide +kernel : kdM 0 = 11) (by decide) ⟨by decide, by decide⟩ (Nat.le_of_ble_eq_true rfl) (by decide +kernel) (c_X11_meaning F a1 v5 τ) (fun r6 τ7 => ?_)
        refine sm_seg C [(.aload_n 0, 0)] (pc' := 69) (L' := [(0, .ref 0), (1, .int a1), (2, .int a2), (3, .int a3)]) (S' := [.ref 0, .int r6, .int a2]) (by decide +kernel) rfl ?_
        refine sm_getR 11 0 1 cls11 C (ltM (by decide +kernel : kdM 0 = 11) (by decide)) (by decide +kernel : kdM 0 = 11) (obM11 (by decide +kernel : kdM 0 = 11)) (by decide) (frM11_0 (by decide +kernel : kdM 0 = 11)) fl11_7 (by decide +kernel) ?_
        refine sm_seg C [(.sipush 536, 536), (.iload_n 3, 0), (.iadd, 0)] (pc' := 77) (L' := [(0, .ref 0), (1, .int a1), (2, .int a2), (3, .int a3)]) (S' := [.int (536 + a3), .ref 1, .int r6, .int a2]) (by decide +kernel) rfl ?_
        refine sm_ald 2244 C (ltM (krM11_0 (by decide +kernel : kdM 0 = 11)) (by decide)) (krM11_0 (by decide +kernel : kdM 0 = 11)) (nrM11_0 (by decide +kernel : kdM 0 = 11)) (by decide +kernel) (fun v8 => ?_)
        refine sm_icmpne 85 (off := 7) C (by decide +kernel) (by decide) (fun _ => ?_) (fun _ => ?_)
        · exact sm_sub [0, 1, 3] rfl (s_X11_isReadSo_j81 F C hr (X11_isReadSo_L25 F n) ih a1 a3 a2 τ7)
        · refine sm_seg C [(.iconst 0, 0)] (pc' := 86) (L' := [(0, .ref 0), (1, .int a1), (2, .int a2), (3, .int a3)]) (S' := [.int 0, .int a2]) (by decide +kernel) rfl ?_
          exact sm_sub [0, 1, 3] rfl (s_X11_isReadSo_j86 F C hr (X11_isReadSo_L25 F n) ih a1 a3 0 a2 τ7)
def X11_isReadSo (F : Nat) (a1 : Int32) (τ : Tau) : Option (Int32 × Tau) :=
  ald τ 1 2244 515 fun v1 => ald τ 1 2244 536 fun v2 => if v1 = v2 then (X11_isReadSo_L25 F F a1 1 1 τ) else (some (0, τ))
set_option maxRecDepth 20000 in
set_option maxHeartbeats 4000000 in
theorem c_X11_isReadSo (F : Nat) (a1 : Int32) (τ : Tau) (r : Int32) (τ' : Tau) (h : X11_isReadSo F a1 τ = some (r, τ')) : MCi sysM yX11_isReadSo cX11_isReadSo 4 (some .boolean) 2 [.ref 0, .int a1] τ r τ' :=
  mci_of (by decide +kernel) (Nat.le_of_ble_eq_true rfl) (fun K C hr => by
    show Sm K sysM 4 (Qi K sysM) (X11_isReadSo F a1 τ) 0 [(0, .ref 0), (1, .int a1)] [] τ
    unfold X11_isReadSo
    refine sm_seg C [(.aload_n 0, 0)] (pc' := 1) (L' := [(0, .ref 0), (1, .int a1)]) (S' := [.ref 0]) (by decide +kernel) rfl ?_
    refine sm_getR 11 0 1 cls11 C (ltM (by decide +kernel : kdM 0 = 11) (by decide)) (by decide +kernel : kdM 0 = 11) (obM11 (by decide +kernel : kdM 0 = 11)) (by decide) (frM11_0 (by decide +kernel : kdM 0 = 11)) fl11_7 (by decide +kernel) ?_
    refine sm_seg C [(.sipush 515, 515)] (pc' := 7) (L' := [(0, .ref 0), (1, .int a1)]) (S' := [.int 515, .ref 1]) (by decide +kernel) rfl ?_
    refine sm_ald 2244 C (ltM (krM11_0 (by decide +kernel : kdM 0 = 11)) (by decide)) (krM11_0 (by decide +kernel : kdM 0 = 11)) (nrM11_0 (by decide +kernel : kdM 0 = 11)) (by decide +kernel) (fun v1 => ?_)
    refine sm_seg C [(.aload_n 0, 0)] (pc' := 9) (L' := [(0, .ref 0), (1, .int a1)]) (S' := [.ref 0, .int v1]) (by decide +kernel) rfl ?_
    refine sm_getR 11 0 1 cls11 C (ltM (by decide +kernel : kdM 0 = 11) (by decide)) (by decide +kernel : kdM 0 = 11) (obM11 (by decide +kernel : kdM 0 = 11)) (by decide) (frM11_0 (by decide +kernel : kdM 0 = 11)) fl11_7 (by decide +kernel) ?_
    refine sm_seg C [(.sipush 536, 536)] (pc' := 15) (L' := [(0, .ref 0), (1, .int a1)]) (S' := [.int 536, .ref 1, .int v1]) (by decide +kernel) rfl ?_
    refine sm_ald 2244 C (ltM (krM11_0 (by decide +kernel : kdM 0 = 11)) (by decide)) (krM11_0 (by decide +kernel : kdM 0 = 11)) (nrM11_0 (by decide +kernel : kdM 0 = 11)) (by decide +kernel) (fun v2 => ?_)
    refine sm_icmpeq 21 (off := 5) C (by decide +kernel) (by decide) (fun _ => ?_) (fun _ => ?_)
    · refine sm_seg C [(.iconst 1, 1), (.istore_n 2, 0), (.iconst 1, 1), (.istore_n 3, 0)] (pc' := 25) (L' := [(3, .int 1), (2, .int 1), (0, .ref 0), (1, .int a1)]) (S' := []) (by decide +kernel) rfl ?_
      exact sm_sub [2, 3, 1, 0] rfl (s_X11_isReadSo_L25 F C hr F a1 1 1 τ)
    · refine sm_seg C [(.iconst 0, 0)] (pc' := 20) (L' := [(0, .ref 0), (1, .int a1)]) (S' := [.int 0]) (by decide +kernel) rfl ?_
      exact sm_iret C hr rfl (by decide +kernel)) h
/-! BasketEnvoysModel.sayingSo -/
def X11_sayingSo_j29 (F : Nat) (self5 : Int32 → Int32 → Int32 → Int32 → Tau → Option (Int32 × Tau)) (a1 : Int32) (a2 : Int32) (a4 : Int32) (z0 : Int32) (z1 : Int32) (τ : Tau) : Option (Int32 × Tau) :=
  self5 a1 a2 (z1 + z0) (a4 + 1) τ
theorem s_X11_sayingSo_j29 (F : Nat) {K : Ctx} (C : Cx K sysM RX11 cX11_sayingSo 5 2) (hr : Rt K (some .int)) (self5 : Int32 → Int32 → Int32 → Int32 → Tau → Option (Int32 × Tau)) (ih5 : ∀ (a1 : Int32) (a2 : Int32) (a3 : Int32) (a4 : Int32) (τ : Tau), Sm K sysM 5 (Qi K sysM) (self5 a1 a2 a3 a4 τ) 5 [(0, .ref 0), (1, .int a1), (2, .int a2), (3, .int a3), (4, .int a4)] [] τ) (a1 : Int32) (a2 : Int32) (a4 : Int32) (z0 : Int32) (z1 : Int32) (τ : Tau) : Sm K sysM 5 (Qi K sysM) (X11_sayingSo_j29 F self5 a1 a2 a4 z0 z1 τ) 29 [(0, .ref 0), (1, .int a1), (2, .int a2), (4, .int a4)] [.int z0, .int z1] τ := by
  unfold X11_sayingSo_j29
  refine sm_seg C [(.iadd, 0), (.istore_n 3, 0), (.iinc 4 1, 1), (.goto (-29), 0)] (pc' := 5) (L' := [(4, .int (a4 + 1)), (3, .int (z1 + z0)), (0, .ref 0), (1, .int a1), (2, .int a2)]) (S' := []) (by decide +kernel) rfl ?_
  exact sm_sub [2, 3, 4, 1, 0] rfl (ih5 a1 a2 (z1 + z0) (a4 + 1) τ)
def X11_sayingSo_L5 (F : Nat) : Nat → Int32 → Int32 → Int32 → Int32 → Tau → Option (Int32 × Tau)
  | 0, _, _, _, _, _ => none
  | n + 1, a1, a2, a3, a4, τ =>
    if 12 ≤ a4 then (some (a3, τ)) else (cal (X11_meaning F a1 a4 τ) fun r1 τ2 => if r1 = a2 then (X11_sayingSo_j29 F (X11_sayingSo_L5 F n) a1 a2 a4 1 a3 τ2) else (X11_sayingSo_j29 F (X11_sayingSo_L5 F n) a1 a2 a4 0 a3 τ2))
theorem s_X11_sayingSo_L5 (F : Nat) {K : Ctx} (C : Cx K sysM RX11 cX11_sayingSo 5 2) (hr : Rt K (some .int)) : ∀ (n : Nat) (a1 : Int32) (a2 : Int32) (a3 : Int32) (a4 : Int32) (τ : Tau), Sm K sysM 5 (Qi K sysM) (X11_sayingSo_L5 F n a1 a2 a3 a4 τ) 5 [(0, .ref 0), (1, .int a1), (2, .int a2), (3, .int a3), (4, .int a4)] [] τ := by
  intro n
  induction n with
  | zero => intro a1 a2 a3 a4 τ; exact sm_none
  | succ n ih =>
    intro a1 a2 a3 a4 τ
    rw [X11_sayingSo_L5]
    refine sm_seg C [(.iload 4, 0), (.bipush 12, 12)] (pc' := 9) (L' := [(0, .ref 0), (1, .int a1), (2, .int a2), (3, .int a3), (4, .int a4)]) (S' := [.int 12, .int a4]) (by decide +kernel) rfl ?_
    refine sm_icmpge 37 (off := 28) C (by decide +kernel) (by decide) (fun _ => ?_) (fun _ => ?_)
    · refine sm_seg C [(.iload_n 3, 0)] (pc' := 38) (L' := [(0, .ref 0), (1, .int a1), (2, .int a2), (3, .int a3), (4, .int a4)]) (S' := [.int a3]) (by decide +kernel) rfl ?_
      exact sm_iret C hr rfl (by decide +kernel)
    · refine sm_seg C [(.iload_n 3, 0), (.aload_n 0, 0), (.iload_n 1, 0), (.iload 4, 0)] (pc' := 17) (L' := [(0, .ref 0), (1, .int a1), (2, .int a2), (3, .int a3), (4, .int a4)]) (S' := [.int a4, .int a1, .ref 0, .int a3]) (by decide +kernel) rfl ?_
      refine sm_vcal [.int a1, .int a4] [.int a3] rfl C mw_X11_meaning ml_11_309 rfl (ci := 11) rfl (ltM (by decide +kernel : kdM 0 = 11) (by decide)) (by decide +kernel : kdM 0 = 11) (by decide) ⟨by decide, by decide⟩ (Nat.le_of_ble_eq_true rfl) (by decide +kernel) (c_X11_meaning F a1 a4 τ) (fun r1 τ2 => ?_)
      refine sm_seg C [(.iload_n 2, 0)] (pc' := 21) (L' := [(0, .ref 0), (1, .int a1), (2, .int a2), (3, .int a3), (4, .int a4)]) (S' := [.int a2, .int r1, .int a3]) (by decide +kernel) rfl ?_
      refine sm_icmpne 28 (off := 7) C (by decide +kernel) (by decide) (fun _ => ?_) (fun _ => ?_)
      · refine sm_seg C [(.iconst 1, 1), (.goto 4, 0)] (pc' := 29) (L' := [(0, .ref 0), (1, .int a1), (2, .int a2), (3, .int a3), (4, .int a4)]) (S' := [.int 1, .int a3]) (by decide +kernel) rfl ?_
        exact sm_sub [0, 1, 2, 4] rfl (s_X11_sayingSo_j29 F C hr (X11_sayingSo_L5 F n) ih a1 a2 a4 1 a3 τ2)
      · refine sm_seg C [(.iconst 0, 0)] (pc' := 29) (L' := [(0, .ref 0), (1, .int a1), (2, .int a2), (3, .int a3), (4, .int a4)]) (S' := [.int 0, .int a3]) (by decide +kernel) rfl ?_
        exact sm_sub [0, 1, 2, 4] rfl (s_X11_sayingSo_j29 F C hr (X11_sayingSo_L5 F n) ih a1 a2 a4 0 a3 τ2)
def X11_sayingSo (F : Nat) (a1 : Int32) (a2 : Int32) (τ : Tau) : Option (Int32 × Tau) :=
  X11_sayingSo_L5 F F a1 a2 0 0 τ
set_option maxRecDepth 20000 in
set_option maxHeartbeats 4000000 in
theorem c_X11_sayingSo (F : Nat) (a1 : Int32) (a2 : Int32) (τ : Tau) (r : Int32) (τ' : Tau) (h : X11_sayingSo F a1 a2 τ = some (r, τ')) : MCi sysM yX11_sayingSo cX11_sayingSo 5 (some .int) 2 [.ref 0, .int a1, .int a2] τ r τ' :=
  mci_of (by decide +kernel) (Nat.le_of_ble_eq_true rfl) (fun K C hr => by
    show Sm K sysM 5 (Qi K sysM) (X11_sayingSo F a1 a2 τ) 0 [(0, .ref 0), (1, .int a1), (2, .int a2)] [] τ
    unfold X11_sayingSo
    refine sm_seg C [(.iconst 0, 0), (.istore_n 3, 0), (.iconst 0, 0), (.istore 4, 0)] (pc' := 5) (L' := [(4, .int 0), (3, .int 0), (0, .ref 0), (1, .int a1), (2, .int a2)]) (S' := []) (by decide +kernel) rfl ?_
    exact sm_sub [2, 3, 4, 1, 0] rfl (s_X11_sayingSo_L5 F C hr F a1 a2 0 0 τ)) h
/-! BasketEnvoysModel.heard -/
def X11_heard_j94 (F : Nat) (self43 : Int32 → Int64 → Int32 → Tau → Option (Int32 × Tau)) (a1 : Int32) (a5 : Int32) (z0 : Int32) (z1 : Int64) (τ : Tau) : Option (Int32 × Tau) :=
  self43 a1 (lrmd (z1 * ((z0).toInt64)) (1000000007 : Int64)) (a5 + 1) τ
theorem s_X11_heard_j94 (F : Nat) {K : Ctx} (C : Cx K sysM RX11 cX11_heard 6 3) (hr : Rt K (some .int)) (self43 : Int32 → Int64 → Int32 → Tau → Option (Int32 × Tau)) (ih43 : ∀ (a1 : Int32) (l3 : Int64) (a5 : Int32) (τ : Tau), Sm K sysM 6 (Qi K sysM) (self43 a1 l3 a5 τ) 43 [(0, .ref 0), (1, .int a1), (3, .long l3), (5, .int a5)] [] τ) (a1 : Int32) (a5 : Int32) (z0 : Int32) (z1 : Int64) (τ : Tau) : Sm K sysM 6 (Qi K sysM) (X11_heard_j94 F self43 a1 a5 z0 z1 τ) 94 [(0, .ref 0), (1, .int a1), (5, .int a5)] [.int z0, .long z1] τ := by
  unfold X11_heard_j94
  refine sm_seg C [(.i2l, 0), (.lmul, 0)] (pc' := 96) (L' := [(0, .ref 0), (1, .int a1), (5, .int a5)]) (S' := [.long (z1 * ((z0).toInt64))]) (by decide +kernel) rfl ?_
  refine sm_ldc2 C cn_11_404 (by decide +kernel) ?_
  refine sm_lrem C (by decide +kernel) (by decide) ?_
  refine sm_seg C [(.lstore_n 3, 0), (.iinc 5 1, 1), (.goto (-61), 0)] (pc' := 43) (L' := [(5, .int (a5 + 1)), (3, .long (lrmd (z1 * ((z0).toInt64)) (1000000007 : Int64))), (0, .ref 0), (1, .int a1)]) (S' := []) (by decide +kernel) rfl ?_
  exact sm_sub [2, 3, 1, 0] rfl (ih43 a1 (lrmd (z1 * ((z0).toInt64)) (1000000007 : Int64)) (a5 + 1) τ)
def X11_heard_L43 (F : Nat) : Nat → Int32 → Int64 → Int32 → Tau → Option (Int32 × Tau)
  | 0, _, _, _, _ => none
  | n + 1, a1, l3, a5, τ =>
    ald τ 1 2244 536 fun v7 => if v7 < a5 then (some ((l3.toInt32), τ)) else (ald τ 1 2244 (536 + a5) fun v8 => if v8 = (-2) then (X11_heard_j94 F (X11_heard_L43 F n) a1 a5 12 l3 τ) else (ald τ 1 2244 (536 + a5) fun v9 => cal (X11_sayingSo F a1 v9 τ) fun r10 τ11 => X11_heard_j94 F (X11_heard_L43 F n) a1 a5 r10 l3 τ11))
theorem s_X11_heard_L43 (F : Nat) {K : Ctx} (C : Cx K sysM RX11 cX11_heard 6 3) (hr : Rt K (some .int)) : ∀ (n : Nat) (a1 : Int32) (l3 : Int64) (a5 : Int32) (τ : Tau), Sm K sysM 6 (Qi K sysM) (X11_heard_L43 F n a1 l3 a5 τ) 43 [(0, .ref 0), (1, .int a1), (3, .long l3), (5, .int a5)] [] τ := by
  intro n
  induction n with
  | zero => intro a1 l3 a5 τ; exact sm_none
  | succ n ih =>
    intro a1 l3 a5 τ
    rw [X11_heard_L43]
    refine sm_seg C [(.iload 5, 0), (.aload_n 0, 0)] (pc' := 46) (L' := [(0, .ref 0), (1, .int a1), (3, .long l3), (5, .int a5)]) (S' := [.ref 0, .int a5]) (by decide +kernel) rfl ?_
    refine sm_getR 11 0 1 cls11 C (ltM (by decide +kernel : kdM 0 = 11) (by decide)) (by decide +kernel : kdM 0 = 11) (obM11 (by decide +kernel : kdM 0 = 11)) (by decide) (frM11_0 (by decide +kernel : kdM 0 = 11)) fl11_7 (by decide +kernel) ?_
    refine sm_seg C [(.sipush 536, 536)] (pc' := 52) (L' := [(0, .ref 0), (1, .int a1), (3, .long l3), (5, .int a5)]) (S' := [.int 536, .ref 1, .int a5]) (by decide +kernel) rfl ?_
    refine sm_ald 2244 C (ltM (krM11_0 (by decide +kernel : kdM 0 = 11)) (by decide)) (krM11_0 (by decide +kernel : kdM 0 = 11)) (nrM11_0 (by decide +kernel : kdM 0 = 11)) (by decide +kernel) (fun v7 => ?_)
    refine sm_icmpgt 107 (off := 54) C (by decide +kernel) (by decide) (fun _ => ?_) (fun _ => ?_)
    · refine sm_seg C [(.lload_n 3, 0), (.l2i, 0)] (pc' := 109) (L' := [(0, .ref 0), (1, .int a1), (3, .long l3), (5, .int a5)]) (S' := [.int (l3.toInt32)]) (by decide +kernel) rfl ?_
      exact sm_iret C hr rfl (by decide +kernel)
    · refine sm_seg C [(.lload_n 3, 0), (.aload_n 0, 0)] (pc' := 58) (L' := [(0, .ref 0), (1, .int a1), (3, .long l3), (5, .int a5)]) (S' := [.ref 0, .long l3]) (by decide +kernel) rfl ?_
      refine sm_getR 11 0 1 cls11 C (ltM (by decide +kernel : kdM 0 = 11) (by decide)) (by decide +kernel : kdM 0 = 11) (obM11 (by decide +kernel : kdM 0 = 11)) (by decide) (frM11_0 (by decide +kernel : kdM 0 = 11)) fl11_7 (by decide +kernel) ?_
      refine sm_seg C [(.sipush 536, 536), (.iload 5, 0), (.iadd, 0)] (pc' := 67) (L' := [(0, .ref 0), (1, .int a1), (3, .long l3), (5, .int a5)]) (S' := [.int (536 + a5), .ref 1, .long l3]) (by decide +kernel) rfl ?_
      refine sm_ald 2244 C (ltM (krM11_0 (by decide +kernel : kdM 0 = 11)) (by decide)) (krM11_0 (by decide +kernel : kdM 0 = 11)) (nrM11_0 (by decide +kernel : kdM 0 = 11)) (by decide +kernel) (fun v8 => ?_)
      refine sm_seg C [(.bipush (-2), (-2))] (pc' := 70) (L' := [(0, .ref 0), (1, .int a1), (3, .long l3), (5, .int a5)]) (S' := [.int (-2), .int v8, .long l3]) (by decide +kernel) rfl ?_
      refine sm_icmpne 78 (off := 8) C (by decide +kernel) (by decide) (fun _ => ?_) (fun _ => ?_)
      · refine sm_seg C [(.bipush 12, 12), (.goto 19, 0)] (pc' := 94) (L' := [(0, .ref 0), (1, .int a1), (3, .long l3), (5, .int a5)]) (S' := [.int 12, .long l3]) (by decide +kernel) rfl ?_
        exact sm_sub [0, 1, 3] rfl (s_X11_heard_j94 F C hr (X11_heard_L43 F n) ih a1 a5 12 l3 τ)
      · refine sm_seg C [(.aload_n 0, 0), (.iload_n 1, 0), (.aload_n 0, 0)] (pc' := 81) (L' := [(0, .ref 0), (1, .int a1), (3, .long l3), (5, .int a5)]) (S' := [.ref 0, .int a1, .ref 0, .long l3]) (by decide +kernel) rfl ?_
        refine sm_getR 11 0 1 cls11 C (ltM (by decide +kernel : kdM 0 = 11) (by decide)) (by decide +kernel : kdM 0 = 11) (obM11 (by decide +kernel : kdM 0 = 11)) (by decide) (frM11_0 (by decide +kernel : kdM 0 = 11)) fl11_7 (by decide +kernel) ?_
        refine sm_seg C [(.sipush 536, 536), (.iload 5, 0), (.iadd, 0)] (pc' := 90) (L' := [(0, .ref 0), (1, .int a1), (3, .long l3), (5, .int a5)]) (S' := [.int (536 + a5), .ref 1, .int a1, .ref 0, .long l3]) (by decide +kernel) rfl ?_
        refine sm_ald 2244 C (ltM (krM11_0 (by decide +kernel : kdM 0 = 11)) (by decide)) (krM11_0 (by decide +kernel : kdM 0 = 11)) (nrM11_0 (by decide +kernel : kdM 0 = 11)) (by decide +kernel) (fun v9 => ?_)
        refine sm_vcal [.int a1, .int v9] [.long l3] rfl C mw_X11_sayingSo ml_11_401 rfl (ci := 11) rfl (ltM (by decide +kernel : kdM 0 = 11) (by decide)) (by decide +kernel : kdM 0 = 11) (by decide) ⟨by decide, by decide⟩ (Nat.le_of_ble_eq_true rfl) (by decide +kernel) (c_X11_sayingSo F a1 v9 τ) (fun r10 τ11 => ?_)
        exact sm_sub [0, 1, 3] rfl (s_X11_heard_j94 F C hr (X11_heard_L43 F n) ih a1 a5 r10 l3 τ11)
def X11_heard (F : Nat) (a1 : Int32) (a2 : Int32) (τ : Tau) : Option (Int32 × Tau) :=
  cal (X11_isPower F a1 τ) fun r1 τ2 => if r1 = 0 then (some ((-1), τ2)) else (cal (X11_isIn F a2 0 1 τ2) fun r3 τ4 => if r3 = 0 then (some ((-1), τ4)) else (if a2 = 1 then (cal (X11_isReadSo F a1 τ4) fun r5 τ6 => if r5 = 0 then (some (0, τ6)) else (some (1, τ6))) else (X11_heard_L43 F F a1 (1 : Int64) 1 τ4)))
set_option maxRecDepth 20000 in
set_option maxHeartbeats 4000000 in
theorem c_X11_heard (F : Nat) (a1 : Int32) (a2 : Int32) (τ : Tau) (r : Int32) (τ' : Tau) (h : X11_heard F a1 a2 τ = some (r, τ')) : MCi sysM yX11_heard cX11_heard 6 (some .int) 3 [.ref 0, .int a1, .int a2] τ r τ' :=
  mci_of (by decide +kernel) (Nat.le_of_ble_eq_true rfl) (fun K C hr => by
    show Sm K sysM 6 (Qi K sysM) (X11_heard F a1 a2 τ) 0 [(0, .ref 0), (1, .int a1), (2, .int a2)] [] τ
    unfold X11_heard
    refine sm_seg C [(.aload_n 0, 0), (.iload_n 1, 0)] (pc' := 2) (L' := [(0, .ref 0), (1, .int a1), (2, .int a2)]) (S' := [.int a1, .ref 0]) (by decide +kernel) rfl ?_
    refine sm_vcal [.int a1] [] rfl C mw_X11_isPower ml_11_90 rfl (ci := 11) rfl (ltM (by decide +kernel : kdM 0 = 11) (by decide)) (by decide +kernel : kdM 0 = 11) (by decide) ⟨by decide, by decide⟩ (Nat.le_of_ble_eq_true rfl) (by decide +kernel) (c_X11_isPower F a1 τ) (fun r1 τ2 => ?_)
    refine sm_ifeq 17 (off := 12) C (by decide +kernel) (by decide) (fun _ => ?_) (fun _ => ?_)
    · refine sm_seg C [(.iconst (-1), (-1))] (pc' := 18) (L' := [(0, .ref 0), (1, .int a1), (2, .int a2)]) (S' := [.int (-1)]) (by decide +kernel) rfl ?_
      exact sm_iret C hr rfl (by decide +kernel)
    · refine sm_seg C [(.iload_n 2, 0), (.iconst 0, 0), (.iconst 1, 1)] (pc' := 11) (L' := [(0, .ref 0), (1, .int a1), (2, .int a2)]) (S' := [.int 1, .int 0, .int a2]) (by decide +kernel) rfl ?_
      refine sm_scal [.int a2, .int 0, .int 1] [] rfl C mw_X11_isIn ml_11_78 rfl ⟨by decide, by decide⟩ (Nat.le_of_ble_eq_true rfl) (by decide +kernel) (c_X11_isIn F a2 0 1 τ2) (fun r3 τ4 => ?_)
      refine sm_ifne 19 (off := 5) C (by decide +kernel) (by decide) (fun _ => ?_) (fun _ => ?_)
      · refine sm_seg C [(.iconst (-1), (-1))] (pc' := 18) (L' := [(0, .ref 0), (1, .int a1), (2, .int a2)]) (S' := [.int (-1)]) (by decide +kernel) rfl ?_
        exact sm_iret C hr rfl (by decide +kernel)
      · refine sm_seg C [(.iload_n 2, 0), (.iconst 1, 1)] (pc' := 21) (L' := [(0, .ref 0), (1, .int a1), (2, .int a2)]) (S' := [.int 1, .int a2]) (by decide +kernel) rfl ?_
        refine sm_icmpne 38 (off := 17) C (by decide +kernel) (by decide) (fun _ => ?_) (fun _ => ?_)
        · refine sm_seg C [(.aload_n 0, 0), (.iload_n 1, 0)] (pc' := 26) (L' := [(0, .ref 0), (1, .int a1), (2, .int a2)]) (S' := [.int a1, .ref 0]) (by decide +kernel) rfl ?_
          refine sm_vcal [.int a1] [] rfl C mw_X11_isReadSo ml_11_406 rfl (ci := 11) rfl (ltM (by decide +kernel : kdM 0 = 11) (by decide)) (by decide +kernel : kdM 0 = 11) (by decide) ⟨by decide, by decide⟩ (Nat.le_of_ble_eq_true rfl) (by decide +kernel) (c_X11_isReadSo F a1 τ4) (fun r5 τ6 => ?_)
          refine sm_ifeq 36 (off := 7) C (by decide +kernel) (by decide) (fun _ => ?_) (fun _ => ?_)
          · refine sm_seg C [(.iconst 0, 0)] (pc' := 37) (L' := [(0, .ref 0), (1, .int a1), (2, .int a2)]) (S' := [.int 0]) (by decide +kernel) rfl ?_
            exact sm_iret C hr rfl (by decide +kernel)
          · refine sm_seg C [(.iconst 1, 1), (.goto 4, 0)] (pc' := 37) (L' := [(0, .ref 0), (1, .int a1), (2, .int a2)]) (S' := [.int 1]) (by decide +kernel) rfl ?_
            exact sm_iret C hr rfl (by decide +kernel)
        · refine sm_seg C [(.lconst 1, 0), (.lstore_n 3, 0), (.iconst 1, 1), (.istore 5, 0)] (pc' := 43) (L' := [(5, .int 1), (3, .long (1 : Int64)), (0, .ref 0), (1, .int a1), (2, .int a2)]) (S' := []) (by decide +kernel) rfl ?_
          exact sm_sub [2, 3, 1, 0] rfl (s_X11_heard_L43 F C hr F a1 (1 : Int64) 1 τ4)) h
/-! BasketEnvoysModel.hears -/
def X11_hears (F : Nat) (a1 : Int32) (τ : Tau) : Option (Int32 × Tau) :=
  if a1 = (-1) then (cal (X11_endsRow F 536 τ) fun r1 τ2 => some (r1, τ2)) else (cal (X11_isIn F a1 (-2) 15 τ) fun r3 τ4 => if r3 = 0 then (some ((-1), τ4)) else (cal (X11_tellsOne F 536 8 a1 τ4) fun r5 τ6 => some (r5, τ6)))
set_option maxRecDepth 20000 in
set_option maxHeartbeats 4000000 in
theorem c_X11_hears (F : Nat) (a1 : Int32) (τ : Tau) (r : Int32) (τ' : Tau) (h : X11_hears F a1 τ = some (r, τ')) : MCi sysM yX11_hears cX11_hears 2 (some .int) 2 [.ref 0, .int a1] τ r τ' :=
  mci_of (by decide +kernel) (Nat.le_of_ble_eq_true rfl) (fun K C hr => by
    show Sm K sysM 2 (Qi K sysM) (X11_hears F a1 τ) 0 [(0, .ref 0), (1, .int a1)] [] τ
    unfold X11_hears
    refine sm_seg C [(.iload_n 1, 0), (.iconst (-1), (-1))] (pc' := 2) (L' := [(0, .ref 0), (1, .int a1)]) (S' := [.int (-1), .int a1]) (by decide +kernel) rfl ?_
    refine sm_icmpne 15 (off := 13) C (by decide +kernel) (by decide) (fun _ => ?_) (fun _ => ?_)
    · refine sm_seg C [(.aload_n 0, 0), (.sipush 536, 536)] (pc' := 9) (L' := [(0, .ref 0), (1, .int a1)]) (S' := [.int 536, .ref 0]) (by decide +kernel) rfl ?_
      refine sm_vcal [.int 536] [] rfl C mw_X11_endsRow ml_11_388 rfl (ci := 11) rfl (ltM (by decide +kernel : kdM 0 = 11) (by decide)) (by decide +kernel : kdM 0 = 11) (by decide) ⟨by decide, by decide⟩ (Nat.le_of_ble_eq_true rfl) (by decide +kernel) (c_X11_endsRow F 536 τ) (fun r1 τ2 => ?_)
      refine sm_seg C [(.goto 28, 0)] (pc' := 40) (L' := [(0, .ref 0), (1, .int a1)]) (S' := [.int r1]) (by decide +kernel) rfl ?_
      exact sm_iret C hr rfl (by decide +kernel)
    · refine sm_seg C [(.iload_n 1, 0), (.bipush (-2), (-2)), (.bipush 15, 15)] (pc' := 20) (L' := [(0, .ref 0), (1, .int a1)]) (S' := [.int 15, .int (-2), .int a1]) (by decide +kernel) rfl ?_
      refine sm_scal [.int a1, .int (-2), .int 15] [] rfl C mw_X11_isIn ml_11_78 rfl ⟨by decide, by decide⟩ (Nat.le_of_ble_eq_true rfl) (by decide +kernel) (c_X11_isIn F a1 (-2) 15 τ) (fun r3 τ4 => ?_)
      refine sm_ifeq 39 (off := 16) C (by decide +kernel) (by decide) (fun _ => ?_) (fun _ => ?_)
      · refine sm_seg C [(.iconst (-1), (-1))] (pc' := 40) (L' := [(0, .ref 0), (1, .int a1)]) (S' := [.int (-1)]) (by decide +kernel) rfl ?_
        exact sm_iret C hr rfl (by decide +kernel)
      · refine sm_seg C [(.aload_n 0, 0), (.sipush 536, 536), (.bipush 8, 8), (.iload_n 1, 0)] (pc' := 33) (L' := [(0, .ref 0), (1, .int a1)]) (S' := [.int a1, .int 8, .int 536, .ref 0]) (by decide +kernel) rfl ?_
        refine sm_vcal [.int 536, .int 8, .int a1] [] rfl C mw_X11_tellsOne ml_11_391 rfl (ci := 11) rfl (ltM (by decide +kernel : kdM 0 = 11) (by decide)) (by decide +kernel : kdM 0 = 11) (by decide) ⟨by decide, by decide⟩ (Nat.le_of_ble_eq_true rfl) (by decide +kernel) (c_X11_tellsOne F 536 8 a1 τ4) (fun r5 τ6 => ?_)
        refine sm_seg C [(.goto 4, 0)] (pc' := 40) (L' := [(0, .ref 0), (1, .int a1)]) (S' := [.int r5]) (by decide +kernel) rfl ?_
        exact sm_iret C hr rfl (by decide +kernel)) h
/-! BasketEnvoysModel.image -/
def X11_image_j69 (F : Nat) (τ : Tau) : Option (Int32 × Tau) :=
  pst τ 0 5 1 fun τ3 => some (1, τ3)
theorem s_X11_image_j69 (F : Nat) {K : Ctx} (C : Cx K sysM RX11 cX11_image 3 2) (hr : Rt K (some .boolean)) (τ : Tau) : Sm K sysM 3 (Qi K sysM) (X11_image_j69 F τ) 69 [(0, .ref 0)] [] τ := by
  unfold X11_image_j69
  refine sm_seg C [(.aload_n 0, 0), (.iconst 1, 1)] (pc' := 71) (L' := [(0, .ref 0)]) (S' := [.int 1, .ref 0]) (by decide +kernel) rfl ?_
  refine sm_pst 11 5 cls11 C (ltM (by decide +kernel : kdM 0 = 11) (by decide)) (by decide +kernel : kdM 0 = 11) (obM11 (by decide +kernel : kdM 0 = 11)) (by decide) (fiM11_5 (by decide +kernel : kdM 0 = 11)) rfl rfl rfl fl11_470 (by decide +kernel) (fun τ3 => ?_)
  refine sm_seg C [(.iconst 1, 1)] (pc' := 75) (L' := [(0, .ref 0)]) (S' := [.int 1]) (by decide +kernel) rfl ?_
  exact sm_iret C hr rfl (by decide +kernel)
def X11_image_j55 (F : Nat) (self15 : Int32 → Int32 → Tau → Option (Int32 × Tau)) (a1 : Int32) (a2 : Int32) (τ : Tau) : Option (Int32 × Tau) :=
  self15 a1 (a2 + 1) τ
theorem s_X11_image_j55 (F : Nat) {K : Ctx} (C : Cx K sysM RX11 cX11_image 3 2) (hr : Rt K (some .boolean)) (self15 : Int32 → Int32 → Tau → Option (Int32 × Tau)) (ih15 : ∀ (a1 : Int32) (a2 : Int32) (τ : Tau), Sm K sysM 3 (Qi K sysM) (self15 a1 a2 τ) 15 [(0, .ref 0), (1, .int a1), (2, .int a2)] [] τ) (a1 : Int32) (a2 : Int32) (τ : Tau) : Sm K sysM 3 (Qi K sysM) (X11_image_j55 F self15 a1 a2 τ) 55 [(0, .ref 0), (1, .int a1), (2, .int a2)] [] τ := by
  unfold X11_image_j55
  refine sm_seg C [(.iinc 2 1, 1), (.goto (-43), 0)] (pc' := 15) (L' := [(2, .int (a2 + 1)), (0, .ref 0), (1, .int a1)]) (S' := []) (by decide +kernel) rfl ?_
  exact sm_sub [1, 2, 0] rfl (ih15 a1 (a2 + 1) τ)
def X11_image_L15 (F : Nat) : Nat → Int32 → Int32 → Tau → Option (Int32 × Tau)
  | 0, _, _, _ => none
  | n + 1, a1, a2, τ =>
    if 2244 ≤ a2 then (if a1 = 0 then (cal (X11_forgets F τ) fun r1 τ2 => X11_image_j69 F τ2) else (X11_image_j69 F τ)) else (if a1 = 0 then (ald τ 2 2244 a2 fun v4 => ast τ 1 2244 a2 v4 fun τ5 => X11_image_j55 F (X11_image_L15 F n) a1 a2 τ5) else (ald τ 1 2244 a2 fun v6 => ast τ 2 2244 a2 v6 fun τ7 => X11_image_j55 F (X11_image_L15 F n) a1 a2 τ7))
theorem s_X11_image_L15 (F : Nat) {K : Ctx} (C : Cx K sysM RX11 cX11_image 3 2) (hr : Rt K (some .boolean)) : ∀ (n : Nat) (a1 : Int32) (a2 : Int32) (τ : Tau), Sm K sysM 3 (Qi K sysM) (X11_image_L15 F n a1 a2 τ) 15 [(0, .ref 0), (1, .int a1), (2, .int a2)] [] τ := by
  intro n
  induction n with
  | zero => intro a1 a2 τ; exact sm_none
  | succ n ih =>
    intro a1 a2 τ
    rw [X11_image_L15]
    refine sm_seg C [(.iload_n 2, 0), (.aload_n 0, 0)] (pc' := 17) (L' := [(0, .ref 0), (1, .int a1), (2, .int a2)]) (S' := [.ref 0, .int a2]) (by decide +kernel) rfl ?_
    refine sm_getR 11 0 1 cls11 C (ltM (by decide +kernel : kdM 0 = 11) (by decide)) (by decide +kernel : kdM 0 = 11) (obM11 (by decide +kernel : kdM 0 = 11)) (by decide) (frM11_0 (by decide +kernel : kdM 0 = 11)) fl11_7 (by decide +kernel) ?_
    refine sm_alen 20 0 2244 (fun _ => rfl) C (ltM (krM11_0 (by decide +kernel : kdM 0 = 11)) (by decide)) (krM11_0 (by decide +kernel : kdM 0 = 11)) (by decide) (by decide) (nrM11_0 (by decide +kernel : kdM 0 = 11)) rfl (by decide +kernel) ?_
    refine sm_icmpge 61 (off := 40) C (by decide +kernel) (by decide) (fun _ => ?_) (fun _ => ?_)
    · refine sm_seg C [(.iload_n 1, 0)] (pc' := 62) (L' := [(0, .ref 0), (1, .int a1), (2, .int a2)]) (S' := [.int a1]) (by decide +kernel) rfl ?_
      refine sm_ifne 69 (off := 7) C (by decide +kernel) (by decide) (fun _ => ?_) (fun _ => ?_)
      · refine sm_seg C [(.aload_n 0, 0)] (pc' := 66) (L' := [(0, .ref 0), (1, .int a1), (2, .int a2)]) (S' := [.ref 0]) (by decide +kernel) rfl ?_
        refine sm_vcalv [] [] rfl C mw_X11_forgets ml_11_85 rfl (ci := 11) rfl (ltM (by decide +kernel : kdM 0 = 11) (by decide)) (by decide +kernel : kdM 0 = 11) (by decide) ⟨by decide, by decide⟩ (Nat.le_of_ble_eq_true rfl) (by decide +kernel) (c_X11_forgets F τ) (fun r1 τ2 => ?_)
        exact sm_sub [0] rfl (s_X11_image_j69 F C hr τ2)
      · exact sm_sub [0] rfl (s_X11_image_j69 F C hr τ)
    · refine sm_seg C [(.iload_n 1, 0)] (pc' := 25) (L' := [(0, .ref 0), (1, .int a1), (2, .int a2)]) (S' := [.int a1]) (by decide +kernel) rfl ?_
      refine sm_ifeq 43 (off := 18) C (by decide +kernel) (by decide) (fun _ => ?_) (fun _ => ?_)
      · refine sm_seg C [(.aload_n 0, 0)] (pc' := 44) (L' := [(0, .ref 0), (1, .int a1), (2, .int a2)]) (S' := [.ref 0]) (by decide +kernel) rfl ?_
        refine sm_getR 11 0 1 cls11 C (ltM (by decide +kernel : kdM 0 = 11) (by decide)) (by decide +kernel : kdM 0 = 11) (obM11 (by decide +kernel : kdM 0 = 11)) (by decide) (frM11_0 (by decide +kernel : kdM 0 = 11)) fl11_7 (by decide +kernel) ?_
        refine sm_seg C [(.iload_n 2, 0), (.aload_n 0, 0)] (pc' := 49) (L' := [(0, .ref 0), (1, .int a1), (2, .int a2)]) (S' := [.ref 0, .int a2, .ref 1]) (by decide +kernel) rfl ?_
        refine sm_getR 11 1 2 cls11 C (ltM (by decide +kernel : kdM 0 = 11) (by decide)) (by decide +kernel : kdM 0 = 11) (obM11 (by decide +kernel : kdM 0 = 11)) (by decide) (frM11_1 (by decide +kernel : kdM 0 = 11)) fl11_13 (by decide +kernel) ?_
        refine sm_seg C [(.iload_n 2, 0)] (pc' := 53) (L' := [(0, .ref 0), (1, .int a1), (2, .int a2)]) (S' := [.int a2, .ref 2, .int a2, .ref 1]) (by decide +kernel) rfl ?_
        refine sm_ald 2244 C (ltM (krM11_1 (by decide +kernel : kdM 0 = 11)) (by decide)) (krM11_1 (by decide +kernel : kdM 0 = 11)) (nrM11_1 (by decide +kernel : kdM 0 = 11)) (by decide +kernel) (fun v4 => ?_)
        refine sm_ast 2244 C (ltM (krM11_0 (by decide +kernel : kdM 0 = 11)) (by decide)) (krM11_0 (by decide +kernel : kdM 0 = 11)) (nrM11_0 (by decide +kernel : kdM 0 = 11)) (by decide +kernel) (fun τ5 => ?_)
        exact sm_sub [0, 1, 2] rfl (s_X11_image_j55 F C hr (X11_image_L15 F n) ih a1 a2 τ5)
      · refine sm_seg C [(.aload_n 0, 0)] (pc' := 29) (L' := [(0, .ref 0), (1, .int a1), (2, .int a2)]) (S' := [.ref 0]) (by decide +kernel) rfl ?_
        refine sm_getR 11 1 2 cls11 C (ltM (by decide +kernel : kdM 0 = 11) (by decide)) (by decide +kernel : kdM 0 = 11) (obM11 (by decide +kernel : kdM 0 = 11)) (by decide) (frM11_1 (by decide +kernel : kdM 0 = 11)) fl11_13 (by decide +kernel) ?_
        refine sm_seg C [(.iload_n 2, 0), (.aload_n 0, 0)] (pc' := 34) (L' := [(0, .ref 0), (1, .int a1), (2, .int a2)]) (S' := [.ref 0, .int a2, .ref 2]) (by decide +kernel) rfl ?_
        refine sm_getR 11 0 1 cls11 C (ltM (by decide +kernel : kdM 0 = 11) (by decide)) (by decide +kernel : kdM 0 = 11) (obM11 (by decide +kernel : kdM 0 = 11)) (by decide) (frM11_0 (by decide +kernel : kdM 0 = 11)) fl11_7 (by decide +kernel) ?_
        refine sm_seg C [(.iload_n 2, 0)] (pc' := 38) (L' := [(0, .ref 0), (1, .int a1), (2, .int a2)]) (S' := [.int a2, .ref 1, .int a2, .ref 2]) (by decide +kernel) rfl ?_
        refine sm_ald 2244 C (ltM (krM11_0 (by decide +kernel : kdM 0 = 11)) (by decide)) (krM11_0 (by decide +kernel : kdM 0 = 11)) (nrM11_0 (by decide +kernel : kdM 0 = 11)) (by decide +kernel) (fun v6 => ?_)
        refine sm_ast 2244 C (ltM (krM11_1 (by decide +kernel : kdM 0 = 11)) (by decide)) (krM11_1 (by decide +kernel : kdM 0 = 11)) (nrM11_1 (by decide +kernel : kdM 0 = 11)) (by decide +kernel) (fun τ7 => ?_)
        refine sm_seg C [(.goto 15, 0)] (pc' := 55) (L' := [(0, .ref 0), (1, .int a1), (2, .int a2)]) (S' := []) (by decide +kernel) rfl ?_
        exact sm_sub [0, 1, 2] rfl (s_X11_image_j55 F C hr (X11_image_L15 F n) ih a1 a2 τ7)
def X11_image_j13 (F : Nat) (a1 : Int32) (τ : Tau) : Option (Int32 × Tau) :=
  X11_image_L15 F F a1 0 τ
theorem s_X11_image_j13 (F : Nat) {K : Ctx} (C : Cx K sysM RX11 cX11_image 3 2) (hr : Rt K (some .boolean)) (a1 : Int32) (τ : Tau) : Sm K sysM 3 (Qi K sysM) (X11_image_j13 F a1 τ) 13 [(0, .ref 0), (1, .int a1)] [] τ := by
  unfold X11_image_j13
  refine sm_seg C [(.iconst 0, 0), (.istore_n 2, 0)] (pc' := 15) (L' := [(2, .int 0), (0, .ref 0), (1, .int a1)]) (S' := []) (by decide +kernel) rfl ?_
  exact sm_sub [1, 2, 0] rfl (s_X11_image_L15 F C hr F a1 0 τ)
def X11_image (F : Nat) (a1 : Int32) (τ : Tau) : Option (Int32 × Tau) :=
  if a1 = 0 then (if (τ 0 5) = 0 then (some (0, τ)) else (X11_image_j13 F a1 τ)) else (X11_image_j13 F a1 τ)
set_option maxRecDepth 20000 in
set_option maxHeartbeats 4000000 in
theorem c_X11_image (F : Nat) (a1 : Int32) (τ : Tau) (r : Int32) (τ' : Tau) (h : X11_image F a1 τ = some (r, τ')) : MCi sysM yX11_image cX11_image 3 (some .boolean) 2 [.ref 0, .int a1] τ r τ' :=
  mci_of (by decide +kernel) (Nat.le_of_ble_eq_true rfl) (fun K C hr => by
    show Sm K sysM 3 (Qi K sysM) (X11_image F a1 τ) 0 [(0, .ref 0), (1, .int a1)] [] τ
    unfold X11_image
    refine sm_seg C [(.iload_n 1, 0)] (pc' := 1) (L' := [(0, .ref 0), (1, .int a1)]) (S' := [.int a1]) (by decide +kernel) rfl ?_
    refine sm_ifne 13 (off := 12) C (by decide +kernel) (by decide) (fun _ => ?_) (fun _ => ?_)
    · refine sm_seg C [(.aload_n 0, 0)] (pc' := 5) (L' := [(0, .ref 0), (1, .int a1)]) (S' := [.ref 0]) (by decide +kernel) rfl ?_
      refine sm_getI 11 5 cls11 C (ltM (by decide +kernel : kdM 0 = 11) (by decide)) (by decide +kernel : kdM 0 = 11) (obM11 (by decide +kernel : kdM 0 = 11)) (by decide) (fiM11_5 (by decide +kernel : kdM 0 = 11)) fl11_470 (by decide +kernel) ?_
      refine sm_ifne 13 (off := 5) C (by decide +kernel) (by decide) (fun _ => ?_) (fun _ => ?_)
      · refine sm_seg C [(.iconst 0, 0)] (pc' := 12) (L' := [(0, .ref 0), (1, .int a1)]) (S' := [.int 0]) (by decide +kernel) rfl ?_
        exact sm_iret C hr rfl (by decide +kernel)
      · exact sm_sub [0, 1] rfl (s_X11_image_j13 F C hr a1 τ)
    · exact sm_sub [0, 1] rfl (s_X11_image_j13 F C hr a1 τ)) h
/-! BasketEnvoysModel.interpreter -/
def X11_interpreter_L42 (F : Nat) : Nat → Int32 → Tau → Option (Int32 × Tau)
  | 0, _, _ => none
  | n + 1, a2, τ =>
    if 5 ≤ a2 then (ald τ 1 2244 729 fun v6 => ast τ 1 2244 729 (v6 + 1) fun τ7 => ald τ7 1 2244 729 fun v8 => some (v8, τ7)) else (ald τ 1 2244 729 fun v9 => ald τ 19 5 a2 fun v10 => ast τ 1 2244 ((730 + (5 * v9)) + a2) v10 fun τ11 => X11_interpreter_L42 F n (a2 + 1) τ11)
theorem s_X11_interpreter_L42 (F : Nat) {K : Ctx} (C : Cx K sysM RX11 cX11_interpreter 3 2) (hr : Rt K (some .int)) : ∀ (n : Nat) (a2 : Int32) (τ : Tau), Sm K sysM 3 (Qi K sysM) (X11_interpreter_L42 F n a2 τ) 42 [(0, .ref 0), (2, .int a2)] [] τ := by
  intro n
  induction n with
  | zero => intro a2 τ; exact sm_none
  | succ n ih =>
    intro a2 τ
    rw [X11_interpreter_L42]
    refine sm_seg C [(.iload_n 2, 0), (.iconst 5, 5)] (pc' := 44) (L' := [(0, .ref 0), (2, .int a2)]) (S' := [.int 5, .int a2]) (by decide +kernel) rfl ?_
    refine sm_icmpge 80 (off := 36) C (by decide +kernel) (by decide) (fun _ => ?_) (fun _ => ?_)
    · refine sm_seg C [(.aload_n 0, 0)] (pc' := 81) (L' := [(0, .ref 0), (2, .int a2)]) (S' := [.ref 0]) (by decide +kernel) rfl ?_
      refine sm_getR 11 0 1 cls11 C (ltM (by decide +kernel : kdM 0 = 11) (by decide)) (by decide +kernel : kdM 0 = 11) (obM11 (by decide +kernel : kdM 0 = 11)) (by decide) (frM11_0 (by decide +kernel : kdM 0 = 11)) fl11_7 (by decide +kernel) ?_
      refine sm_seg C [(.sipush 729, 729), (.dup2, 0)] (pc' := 88) (L' := [(0, .ref 0), (2, .int a2)]) (S' := [.int 729, .ref 1, .int 729, .ref 1]) (by decide +kernel) rfl ?_
      refine sm_ald 2244 C (ltM (krM11_0 (by decide +kernel : kdM 0 = 11)) (by decide)) (krM11_0 (by decide +kernel : kdM 0 = 11)) (nrM11_0 (by decide +kernel : kdM 0 = 11)) (by decide +kernel) (fun v6 => ?_)
      refine sm_seg C [(.iconst 1, 1), (.iadd, 0)] (pc' := 91) (L' := [(0, .ref 0), (2, .int a2)]) (S' := [.int (v6 + 1), .int 729, .ref 1]) (by decide +kernel) rfl ?_
      refine sm_ast 2244 C (ltM (krM11_0 (by decide +kernel : kdM 0 = 11)) (by decide)) (krM11_0 (by decide +kernel : kdM 0 = 11)) (nrM11_0 (by decide +kernel : kdM 0 = 11)) (by decide +kernel) (fun τ7 => ?_)
      refine sm_seg C [(.aload_n 0, 0)] (pc' := 93) (L' := [(0, .ref 0), (2, .int a2)]) (S' := [.ref 0]) (by decide +kernel) rfl ?_
      refine sm_getR 11 0 1 cls11 C (ltM (by decide +kernel : kdM 0 = 11) (by decide)) (by decide +kernel : kdM 0 = 11) (obM11 (by decide +kernel : kdM 0 = 11)) (by decide) (frM11_0 (by decide +kernel : kdM 0 = 11)) fl11_7 (by decide +kernel) ?_
      refine sm_seg C [(.sipush 729, 729)] (pc' := 99) (L' := [(0, .ref 0), (2, .int a2)]) (S' := [.int 729, .ref 1]) (by decide +kernel) rfl ?_
      refine sm_ald 2244 C (ltM (krM11_0 (by decide +kernel : kdM 0 = 11)) (by decide)) (krM11_0 (by decide +kernel : kdM 0 = 11)) (nrM11_0 (by decide +kernel : kdM 0 = 11)) (by decide +kernel) (fun v8 => ?_)
      exact sm_iret C hr rfl (by decide +kernel)
    · refine sm_seg C [(.aload_n 0, 0)] (pc' := 48) (L' := [(0, .ref 0), (2, .int a2)]) (S' := [.ref 0]) (by decide +kernel) rfl ?_
      refine sm_getR 11 0 1 cls11 C (ltM (by decide +kernel : kdM 0 = 11) (by decide)) (by decide +kernel : kdM 0 = 11) (obM11 (by decide +kernel : kdM 0 = 11)) (by decide) (frM11_0 (by decide +kernel : kdM 0 = 11)) fl11_7 (by decide +kernel) ?_
      refine sm_seg C [(.sipush 730, 730), (.iconst 5, 5), (.aload_n 0, 0)] (pc' := 56) (L' := [(0, .ref 0), (2, .int a2)]) (S' := [.ref 0, .int 5, .int 730, .ref 1]) (by decide +kernel) rfl ?_
      refine sm_getR 11 0 1 cls11 C (ltM (by decide +kernel : kdM 0 = 11) (by decide)) (by decide +kernel : kdM 0 = 11) (obM11 (by decide +kernel : kdM 0 = 11)) (by decide) (frM11_0 (by decide +kernel : kdM 0 = 11)) fl11_7 (by decide +kernel) ?_
      refine sm_seg C [(.sipush 729, 729)] (pc' := 62) (L' := [(0, .ref 0), (2, .int a2)]) (S' := [.int 729, .ref 1, .int 5, .int 730, .ref 1]) (by decide +kernel) rfl ?_
      refine sm_ald 2244 C (ltM (krM11_0 (by decide +kernel : kdM 0 = 11)) (by decide)) (krM11_0 (by decide +kernel : kdM 0 = 11)) (nrM11_0 (by decide +kernel : kdM 0 = 11)) (by decide +kernel) (fun v9 => ?_)
      refine sm_seg C [(.imul, 0), (.iadd, 0), (.iload_n 2, 0), (.iadd, 0), (.aload_n 0, 0)] (pc' := 68) (L' := [(0, .ref 0), (2, .int a2)]) (S' := [.ref 0, .int ((730 + (5 * v9)) + a2), .ref 1]) (by decide +kernel) rfl ?_
      refine sm_getR 11 35 19 cls11 C (ltM (by decide +kernel : kdM 0 = 11) (by decide)) (by decide +kernel : kdM 0 = 11) (obM11 (by decide +kernel : kdM 0 = 11)) (by decide) (frM11_35 (by decide +kernel : kdM 0 = 11)) fl11_69 (by decide +kernel) ?_
      refine sm_seg C [(.iload_n 2, 0)] (pc' := 72) (L' := [(0, .ref 0), (2, .int a2)]) (S' := [.int a2, .ref 19, .int ((730 + (5 * v9)) + a2), .ref 1]) (by decide +kernel) rfl ?_
      refine sm_ald 5 C (ltM (krM11_35 (by decide +kernel : kdM 0 = 11)) (by decide)) (krM11_35 (by decide +kernel : kdM 0 = 11)) (nrM11_35 (by decide +kernel : kdM 0 = 11)) (by decide +kernel) (fun v10 => ?_)
      refine sm_ast 2244 C (ltM (krM11_0 (by decide +kernel : kdM 0 = 11)) (by decide)) (krM11_0 (by decide +kernel : kdM 0 = 11)) (nrM11_0 (by decide +kernel : kdM 0 = 11)) (by decide +kernel) (fun τ11 => ?_)
      refine sm_seg C [(.iinc 2 1, 1), (.goto (-35), 0)] (pc' := 42) (L' := [(2, .int (a2 + 1)), (0, .ref 0)]) (S' := []) (by decide +kernel) rfl ?_
      exact sm_sub [1, 0] rfl (ih (a2 + 1) τ11)
def X11_interpreter (F : Nat) (a1 : Int32) (τ : Tau) : Option (Int32 × Tau) :=
  if a1 = (-1) then (cal (X11_endsRow F 729 τ) fun r1 τ2 => some (r1, τ2)) else (if a1 < 0 then (some ((-1), τ)) else (cal (X11_areFive F a1 τ) fun r3 τ4 => if r3 = 0 then (some ((-1), τ4)) else (ald τ4 1 2244 729 fun v5 => if v5 = 6 then (some ((-1), τ4)) else (X11_interpreter_L42 F F 0 τ4))))
set_option maxRecDepth 20000 in
set_option maxHeartbeats 4000000 in
theorem c_X11_interpreter (F : Nat) (a1 : Int32) (τ : Tau) (r : Int32) (τ' : Tau) (h : X11_interpreter F a1 τ = some (r, τ')) : MCi sysM yX11_interpreter cX11_interpreter 3 (some .int) 2 [.ref 0, .int a1] τ r τ' :=
  mci_of (by decide +kernel) (Nat.le_of_ble_eq_true rfl) (fun K C hr => by
    show Sm K sysM 3 (Qi K sysM) (X11_interpreter F a1 τ) 0 [(0, .ref 0), (1, .int a1)] [] τ
    unfold X11_interpreter
    refine sm_seg C [(.iload_n 1, 0), (.iconst (-1), (-1))] (pc' := 2) (L' := [(0, .ref 0), (1, .int a1)]) (S' := [.int (-1), .int a1]) (by decide +kernel) rfl ?_
    refine sm_icmpne 13 (off := 11) C (by decide +kernel) (by decide) (fun _ => ?_) (fun _ => ?_)
    · refine sm_seg C [(.aload_n 0, 0), (.sipush 729, 729)] (pc' := 9) (L' := [(0, .ref 0), (1, .int a1)]) (S' := [.int 729, .ref 0]) (by decide +kernel) rfl ?_
      refine sm_vcal [.int 729] [] rfl C mw_X11_endsRow ml_11_388 rfl (ci := 11) rfl (ltM (by decide +kernel : kdM 0 = 11) (by decide)) (by decide +kernel : kdM 0 = 11) (by decide) ⟨by decide, by decide⟩ (Nat.le_of_ble_eq_true rfl) (by decide +kernel) (c_X11_endsRow F 729 τ) (fun r1 τ2 => ?_)
      exact sm_iret C hr rfl (by decide +kernel)
    · refine sm_seg C [(.iload_n 1, 0)] (pc' := 14) (L' := [(0, .ref 0), (1, .int a1)]) (S' := [.int a1]) (by decide +kernel) rfl ?_
      refine sm_iflt 38 (off := 24) C (by decide +kernel) (by decide) (fun _ => ?_) (fun _ => ?_)
      · refine sm_seg C [(.iconst (-1), (-1))] (pc' := 39) (L' := [(0, .ref 0), (1, .int a1)]) (S' := [.int (-1)]) (by decide +kernel) rfl ?_
        exact sm_iret C hr rfl (by decide +kernel)
      · refine sm_seg C [(.aload_n 0, 0), (.iload_n 1, 0)] (pc' := 19) (L' := [(0, .ref 0), (1, .int a1)]) (S' := [.int a1, .ref 0]) (by decide +kernel) rfl ?_
        refine sm_vcal [.int a1] [] rfl C mw_X11_areFive ml_11_454 rfl (ci := 11) rfl (ltM (by decide +kernel : kdM 0 = 11) (by decide)) (by decide +kernel : kdM 0 = 11) (by decide) ⟨by decide, by decide⟩ (Nat.le_of_ble_eq_true rfl) (by decide +kernel) (c_X11_areFive F a1 τ) (fun r3 τ4 => ?_)
        refine sm_ifeq 38 (off := 16) C (by decide +kernel) (by decide) (fun _ => ?_) (fun _ => ?_)
        · refine sm_seg C [(.iconst (-1), (-1))] (pc' := 39) (L' := [(0, .ref 0), (1, .int a1)]) (S' := [.int (-1)]) (by decide +kernel) rfl ?_
          exact sm_iret C hr rfl (by decide +kernel)
        · refine sm_seg C [(.aload_n 0, 0)] (pc' := 26) (L' := [(0, .ref 0), (1, .int a1)]) (S' := [.ref 0]) (by decide +kernel) rfl ?_
          refine sm_getR 11 0 1 cls11 C (ltM (by decide +kernel : kdM 0 = 11) (by decide)) (by decide +kernel : kdM 0 = 11) (obM11 (by decide +kernel : kdM 0 = 11)) (by decide) (frM11_0 (by decide +kernel : kdM 0 = 11)) fl11_7 (by decide +kernel) ?_
          refine sm_seg C [(.sipush 729, 729)] (pc' := 32) (L' := [(0, .ref 0), (1, .int a1)]) (S' := [.int 729, .ref 1]) (by decide +kernel) rfl ?_
          refine sm_ald 2244 C (ltM (krM11_0 (by decide +kernel : kdM 0 = 11)) (by decide)) (krM11_0 (by decide +kernel : kdM 0 = 11)) (nrM11_0 (by decide +kernel : kdM 0 = 11)) (by decide +kernel) (fun v5 => ?_)
          refine sm_seg C [(.bipush 6, 6)] (pc' := 35) (L' := [(0, .ref 0), (1, .int a1)]) (S' := [.int 6, .int v5]) (by decide +kernel) rfl ?_
          refine sm_icmpne 40 (off := 5) C (by decide +kernel) (by decide) (fun _ => ?_) (fun _ => ?_)
          · refine sm_seg C [(.iconst (-1), (-1))] (pc' := 39) (L' := [(0, .ref 0), (1, .int a1)]) (S' := [.int (-1)]) (by decide +kernel) rfl ?_
            exact sm_iret C hr rfl (by decide +kernel)
          · refine sm_seg C [(.iconst 0, 0), (.istore_n 2, 0)] (pc' := 42) (L' := [(2, .int 0), (0, .ref 0), (1, .int a1)]) (S' := []) (by decide +kernel) rfl ?_
            exact sm_sub [1, 0] rfl (s_X11_interpreter_L42 F C hr F 0 τ4)) h
/-! BasketEnvoysModel.kept -/
def X11_kept_j55 (F : Nat) (self25 : Int32 → Int32 → Int32 → Int32 → Int32 → Tau → Option (Int32 × Tau)) (a1 : Int32) (a2 : Int32) (a3 : Int32) (a4 : Int32) (a5 : Int32) (τ : Tau) : Option (Int32 × Tau) :=
  self25 a1 a2 a3 a4 (a5 + (-1)) τ
theorem s_X11_kept_j55 (F : Nat) {K : Ctx} (C : Cx K sysM RX11 cX11_kept 6 2) (hr : Rt K (some .int)) (self25 : Int32 → Int32 → Int32 → Int32 → Int32 → Tau → Option (Int32 × Tau)) (ih25 : ∀ (a1 : Int32) (a2 : Int32) (a3 : Int32) (a4 : Int32) (a5 : Int32) (τ : Tau), Sm K sysM 6 (Qi K sysM) (self25 a1 a2 a3 a4 a5 τ) 25 [(0, .ref 0), (1, .int a1), (2, .int a2), (3, .int a3), (4, .int a4), (5, .int a5)] [] τ) (a1 : Int32) (a2 : Int32) (a3 : Int32) (a4 : Int32) (a5 : Int32) (τ : Tau) : Sm K sysM 6 (Qi K sysM) (X11_kept_j55 F self25 a1 a2 a3 a4 a5 τ) 55 [(0, .ref 0), (1, .int a1), (2, .int a2), (3, .int a3), (4, .int a4), (5, .int a5)] [] τ := by
  unfold X11_kept_j55
  refine sm_seg C [(.iinc 5 (-1), (-1)), (.goto (-33), 0)] (pc' := 25) (L' := [(5, .int (a5 + (-1))), (0, .ref 0), (1, .int a1), (2, .int a2), (3, .int a3), (4, .int a4)]) (S' := []) (by decide +kernel) rfl ?_
  exact sm_sub [1, 2, 3, 4, 5, 0] rfl (ih25 a1 a2 a3 a4 (a5 + (-1)) τ)
def X11_kept_L25 (F : Nat) : Nat → Int32 → Int32 → Int32 → Int32 → Int32 → Tau → Option (Int32 × Tau)
  | 0, _, _, _, _, _, _ => none
  | n + 1, a1, a2, a3, a4, a5, τ =>
    if a5 < 0 then (if a1 = 0 then (some (a2, τ)) else (if a1 = 1 then (some (a3, τ)) else (if a2 = 0 then (some (0, τ)) else (some (a4, τ))))) else (cal (X11_allHold F a5 τ) fun r3 τ4 => if r3 = 0 then (X11_kept_j55 F (X11_kept_L25 F n) a1 a2 a3 a4 a5 τ4) else (X11_kept_j55 F (X11_kept_L25 F n) a1 (a2 + 1) a5 (a4 &&& a5) a5 τ4))
theorem s_X11_kept_L25 (F : Nat) {K : Ctx} (C : Cx K sysM RX11 cX11_kept 6 2) (hr : Rt K (some .int)) : ∀ (n : Nat) (a1 : Int32) (a2 : Int32) (a3 : Int32) (a4 : Int32) (a5 : Int32) (τ : Tau), Sm K sysM 6 (Qi K sysM) (X11_kept_L25 F n a1 a2 a3 a4 a5 τ) 25 [(0, .ref 0), (1, .int a1), (2, .int a2), (3, .int a3), (4, .int a4), (5, .int a5)] [] τ := by
  intro n
  induction n with
  | zero => intro a1 a2 a3 a4 a5 τ; exact sm_none
  | succ n ih =>
    intro a1 a2 a3 a4 a5 τ
    rw [X11_kept_L25]
    refine sm_seg C [(.iload 5, 0)] (pc' := 27) (L' := [(0, .ref 0), (1, .int a1), (2, .int a2), (3, .int a3), (4, .int a4), (5, .int a5)]) (S' := [.int a5]) (by decide +kernel) rfl ?_
    refine sm_iflt 61 (off := 34) C (by decide +kernel) (by decide) (fun _ => ?_) (fun _ => ?_)
    · refine sm_seg C [(.iload_n 1, 0)] (pc' := 62) (L' := [(0, .ref 0), (1, .int a1), (2, .int a2), (3, .int a3), (4, .int a4), (5, .int a5)]) (S' := [.int a1]) (by decide +kernel) rfl ?_
      refine sm_ifne 69 (off := 7) C (by decide +kernel) (by decide) (fun _ => ?_) (fun _ => ?_)
      · refine sm_seg C [(.iload_n 2, 0), (.goto 22, 0)] (pc' := 88) (L' := [(0, .ref 0), (1, .int a1), (2, .int a2), (3, .int a3), (4, .int a4), (5, .int a5)]) (S' := [.int a2]) (by decide +kernel) rfl ?_
        exact sm_iret C hr rfl (by decide +kernel)
      · refine sm_seg C [(.iload_n 1, 0), (.iconst 1, 1)] (pc' := 71) (L' := [(0, .ref 0), (1, .int a1), (2, .int a2), (3, .int a3), (4, .int a4), (5, .int a5)]) (S' := [.int 1, .int a1]) (by decide +kernel) rfl ?_
        refine sm_icmpne 78 (off := 7) C (by decide +kernel) (by decide) (fun _ => ?_) (fun _ => ?_)
        · refine sm_seg C [(.iload_n 3, 0), (.goto 13, 0)] (pc' := 88) (L' := [(0, .ref 0), (1, .int a1), (2, .int a2), (3, .int a3), (4, .int a4), (5, .int a5)]) (S' := [.int a3]) (by decide +kernel) rfl ?_
          exact sm_iret C hr rfl (by decide +kernel)
        · refine sm_seg C [(.iload_n 2, 0)] (pc' := 79) (L' := [(0, .ref 0), (1, .int a1), (2, .int a2), (3, .int a3), (4, .int a4), (5, .int a5)]) (S' := [.int a2]) (by decide +kernel) rfl ?_
          refine sm_ifne 86 (off := 7) C (by decide +kernel) (by decide) (fun _ => ?_) (fun _ => ?_)
          · refine sm_seg C [(.iconst 0, 0), (.goto 5, 0)] (pc' := 88) (L' := [(0, .ref 0), (1, .int a1), (2, .int a2), (3, .int a3), (4, .int a4), (5, .int a5)]) (S' := [.int 0]) (by decide +kernel) rfl ?_
            exact sm_iret C hr rfl (by decide +kernel)
          · refine sm_seg C [(.iload 4, 0)] (pc' := 88) (L' := [(0, .ref 0), (1, .int a1), (2, .int a2), (3, .int a3), (4, .int a4), (5, .int a5)]) (S' := [.int a4]) (by decide +kernel) rfl ?_
            exact sm_iret C hr rfl (by decide +kernel)
    · refine sm_seg C [(.aload_n 0, 0), (.iload 5, 0)] (pc' := 33) (L' := [(0, .ref 0), (1, .int a1), (2, .int a2), (3, .int a3), (4, .int a4), (5, .int a5)]) (S' := [.int a5, .ref 0]) (by decide +kernel) rfl ?_
      refine sm_vcal [.int a5] [] rfl C mw_X11_allHold ml_11_442 rfl (ci := 11) rfl (ltM (by decide +kernel : kdM 0 = 11) (by decide)) (by decide +kernel : kdM 0 = 11) (by decide) ⟨by decide, by decide⟩ (Nat.le_of_ble_eq_true rfl) (by decide +kernel) (c_X11_allHold F a5 τ) (fun r3 τ4 => ?_)
      refine sm_ifne 42 (off := 6) C (by decide +kernel) (by decide) (fun _ => ?_) (fun _ => ?_)
      · refine sm_seg C [(.goto 16, 0)] (pc' := 55) (L' := [(0, .ref 0), (1, .int a1), (2, .int a2), (3, .int a3), (4, .int a4), (5, .int a5)]) (S' := []) (by decide +kernel) rfl ?_
        exact sm_sub [0, 1, 2, 3, 4, 5] rfl (s_X11_kept_j55 F C hr (X11_kept_L25 F n) ih a1 a2 a3 a4 a5 τ4)
      · refine sm_seg C [(.iinc 2 1, 1), (.iload 5, 0), (.istore_n 3, 0), (.iload 4, 0), (.iload 5, 0), (.iand, 0), (.istore 4, 0)] (pc' := 55) (L' := [(4, .int (a4 &&& a5)), (3, .int a5), (2, .int (a2 + 1)), (0, .ref 0), (1, .int a1), (5, .int a5)]) (S' := []) (by decide +kernel) rfl ?_
        exact sm_sub [3, 4, 2, 1, 0, 5] rfl (s_X11_kept_j55 F C hr (X11_kept_L25 F n) ih a1 (a2 + 1) a5 (a4 &&& a5) a5 τ4)
def X11_kept (F : Nat) (a1 : Int32) (τ : Tau) : Option (Int32 × Tau) :=
  cal (X11_isIn F a1 0 2 τ) fun r1 τ2 => if r1 = 0 then (some ((-1), τ2)) else (X11_kept_L25 F F a1 0 (-1) 255 255 τ2)
set_option maxRecDepth 20000 in
set_option maxHeartbeats 4000000 in
theorem c_X11_kept (F : Nat) (a1 : Int32) (τ : Tau) (r : Int32) (τ' : Tau) (h : X11_kept F a1 τ = some (r, τ')) : MCi sysM yX11_kept cX11_kept 6 (some .int) 2 [.ref 0, .int a1] τ r τ' :=
  mci_of (by decide +kernel) (Nat.le_of_ble_eq_true rfl) (fun K C hr => by
    show Sm K sysM 6 (Qi K sysM) (X11_kept F a1 τ) 0 [(0, .ref 0), (1, .int a1)] [] τ
    unfold X11_kept
    refine sm_seg C [(.iload_n 1, 0), (.iconst 0, 0), (.iconst 2, 2)] (pc' := 3) (L' := [(0, .ref 0), (1, .int a1)]) (S' := [.int 2, .int 0, .int a1]) (by decide +kernel) rfl ?_
    refine sm_scal [.int a1, .int 0, .int 2] [] rfl C mw_X11_isIn ml_11_78 rfl ⟨by decide, by decide⟩ (Nat.le_of_ble_eq_true rfl) (by decide +kernel) (c_X11_isIn F a1 0 2 τ) (fun r1 τ2 => ?_)
    refine sm_ifne 11 (off := 5) C (by decide +kernel) (by decide) (fun _ => ?_) (fun _ => ?_)
    · refine sm_seg C [(.iconst (-1), (-1))] (pc' := 10) (L' := [(0, .ref 0), (1, .int a1)]) (S' := [.int (-1)]) (by decide +kernel) rfl ?_
      exact sm_iret C hr rfl (by decide +kernel)
    · refine sm_seg C [(.iconst 0, 0), (.istore_n 2, 0), (.iconst (-1), (-1)), (.istore_n 3, 0), (.sipush 255, 255), (.istore 4, 0), (.sipush 255, 255), (.istore 5, 0)] (pc' := 25) (L' := [(5, .int 255), (4, .int 255), (3, .int (-1)), (2, .int 0), (0, .ref 0), (1, .int a1)]) (S' := []) (by decide +kernel) rfl ?_
      exact sm_sub [4, 5, 3, 2, 1, 0] rfl (s_X11_kept_L25 F C hr F a1 0 (-1) 255 255 τ2)) h
/-! BasketEnvoysModel.layMostFor -/
def X11_layMostFor_j95 (F : Nat) (self2 : Int32 → Int32 → Tau → Option (Int32 × Tau)) (self34 : Int32 → Int32 → Int32 → Int32 → Tau → Option (Int32 × Tau)) (a1 : Int32) (a2 : Int32) (a3 : Int32) (a4 : Int32) (τ : Tau) : Option (Int32 × Tau) :=
  self34 a1 a2 a3 (a4 + 1) τ
theorem s_X11_layMostFor_j95 (F : Nat) {K : Ctx} (C : Cx K sysM RX11 cX11_layMostFor 5 2) (hr : Rt K none) (self2 : Int32 → Int32 → Tau → Option (Int32 × Tau)) (self34 : Int32 → Int32 → Int32 → Int32 → Tau → Option (Int32 × Tau)) (ih2 : ∀ (a1 : Int32) (a2 : Int32) (τ : Tau), Sm K sysM 5 (Qv K sysM) (self2 a1 a2 τ) 2 [(0, .ref 0), (1, .int a1), (2, .int a2)] [] τ) (ih34 : ∀ (a1 : Int32) (a2 : Int32) (a3 : Int32) (a4 : Int32) (τ : Tau), Sm K sysM 5 (Qv K sysM) (self34 a1 a2 a3 a4 τ) 34 [(0, .ref 0), (1, .int a1), (2, .int a2), (3, .int a3), (4, .int a4)] [] τ) (a1 : Int32) (a2 : Int32) (a3 : Int32) (a4 : Int32) (τ : Tau) : Sm K sysM 5 (Qv K sysM) (X11_layMostFor_j95 F self2 self34 a1 a2 a3 a4 τ) 95 [(0, .ref 0), (1, .int a1), (2, .int a2), (3, .int a3), (4, .int a4)] [] τ := by
  unfold X11_layMostFor_j95
  refine sm_seg C [(.iinc 4 1, 1), (.goto (-64), 0)] (pc' := 34) (L' := [(4, .int (a4 + 1)), (0, .ref 0), (1, .int a1), (2, .int a2), (3, .int a3)]) (S' := []) (by decide +kernel) rfl ?_
  exact sm_sub [1, 2, 3, 4, 0] rfl (ih34 a1 a2 a3 (a4 + 1) τ)
def X11_layMostFor_L34 (F : Nat) (self2 : Int32 → Int32 → Tau → Option (Int32 × Tau)) : Nat → Int32 → Int32 → Int32 → Int32 → Tau → Option (Int32 × Tau)
  | 0, _, _, _, _, _ => none
  | n + 1, a1, a2, a3, a4, τ =>
    if a1 ≤ a4 then (self2 a1 (a2 + 1) τ) else (if ((shr a2 a4) &&& 1) = 1 then (ald τ 14 64 a2 fun v4 => ald τ 14 64 (a2 &&& ((shl 1 a4) ^^^ (-1))) fun v5 => ald τ 1 2244 ((572 + (6 * a3)) + a4) fun v6 => cal (X11_greater F v4 (v5 + v6) τ) fun r7 τ8 => ast τ8 14 64 a2 r7 fun τ9 => X11_layMostFor_j95 F self2 (X11_layMostFor_L34 F self2 n) a1 a2 a3 a4 τ9) else (X11_layMostFor_j95 F self2 (X11_layMostFor_L34 F self2 n) a1 a2 a3 a4 τ))
theorem s_X11_layMostFor_L34 (F : Nat) {K : Ctx} (C : Cx K sysM RX11 cX11_layMostFor 5 2) (hr : Rt K none) (self2 : Int32 → Int32 → Tau → Option (Int32 × Tau)) (ih2 : ∀ (a1 : Int32) (a2 : Int32) (τ : Tau), Sm K sysM 5 (Qv K sysM) (self2 a1 a2 τ) 2 [(0, .ref 0), (1, .int a1), (2, .int a2)] [] τ) : ∀ (n : Nat) (a1 : Int32) (a2 : Int32) (a3 : Int32) (a4 : Int32) (τ : Tau), Sm K sysM 5 (Qv K sysM) (X11_layMostFor_L34 F self2 n a1 a2 a3 a4 τ) 34 [(0, .ref 0), (1, .int a1), (2, .int a2), (3, .int a3), (4, .int a4)] [] τ := by
  intro n
  induction n with
  | zero => intro a1 a2 a3 a4 τ; exact sm_none
  | succ n ih =>
    intro a1 a2 a3 a4 τ
    rw [X11_layMostFor_L34]
    refine sm_seg C [(.iload 4, 0), (.iload_n 1, 0)] (pc' := 37) (L' := [(0, .ref 0), (1, .int a1), (2, .int a2), (3, .int a3), (4, .int a4)]) (S' := [.int a1, .int a4]) (by decide +kernel) rfl ?_
    refine sm_icmpge 101 (off := 64) C (by decide +kernel) (by decide) (fun _ => ?_) (fun _ => ?_)
    · refine sm_seg C [(.iinc 2 1, 1), (.goto (-102), 0)] (pc' := 2) (L' := [(2, .int (a2 + 1)), (0, .ref 0), (1, .int a1), (3, .int a3), (4, .int a4)]) (S' := []) (by decide +kernel) rfl ?_
      exact sm_sub [1, 2, 0] rfl (ih2 a1 (a2 + 1) τ)
    · refine sm_seg C [(.iload_n 2, 0), (.iload 4, 0), (.ishr, 0), (.iconst 1, 1), (.iand, 0), (.iconst 1, 1)] (pc' := 47) (L' := [(0, .ref 0), (1, .int a1), (2, .int a2), (3, .int a3), (4, .int a4)]) (S' := [.int 1, .int ((shr a2 a4) &&& 1)]) (by decide +kernel) rfl ?_
      refine sm_icmpne 95 (off := 48) C (by decide +kernel) (by decide) (fun _ => ?_) (fun _ => ?_)
      · refine sm_seg C [(.aload_n 0, 0)] (pc' := 51) (L' := [(0, .ref 0), (1, .int a1), (2, .int a2), (3, .int a3), (4, .int a4)]) (S' := [.ref 0]) (by decide +kernel) rfl ?_
        refine sm_getR 11 30 14 cls11 C (ltM (by decide +kernel : kdM 0 = 11) (by decide)) (by decide +kernel : kdM 0 = 11) (obM11 (by decide +kernel : kdM 0 = 11)) (by decide) (frM11_30 (by decide +kernel : kdM 0 = 11)) fl11_54 (by decide +kernel) ?_
        refine sm_seg C [(.iload_n 2, 0), (.aload_n 0, 0)] (pc' := 56) (L' := [(0, .ref 0), (1, .int a1), (2, .int a2), (3, .int a3), (4, .int a4)]) (S' := [.ref 0, .int a2, .ref 14]) (by decide +kernel) rfl ?_
        refine sm_getR 11 30 14 cls11 C (ltM (by decide +kernel : kdM 0 = 11) (by decide)) (by decide +kernel : kdM 0 = 11) (obM11 (by decide +kernel : kdM 0 = 11)) (by decide) (frM11_30 (by decide +kernel : kdM 0 = 11)) fl11_54 (by decide +kernel) ?_
        refine sm_seg C [(.iload_n 2, 0)] (pc' := 60) (L' := [(0, .ref 0), (1, .int a1), (2, .int a2), (3, .int a3), (4, .int a4)]) (S' := [.int a2, .ref 14, .int a2, .ref 14]) (by decide +kernel) rfl ?_
        refine sm_ald 64 C (ltM (krM11_30 (by decide +kernel : kdM 0 = 11)) (by decide)) (krM11_30 (by decide +kernel : kdM 0 = 11)) (nrM11_30 (by decide +kernel : kdM 0 = 11)) (by decide +kernel) (fun v4 => ?_)
        refine sm_seg C [(.aload_n 0, 0)] (pc' := 62) (L' := [(0, .ref 0), (1, .int a1), (2, .int a2), (3, .int a3), (4, .int a4)]) (S' := [.ref 0, .int v4, .int a2, .ref 14]) (by decide +kernel) rfl ?_
        refine sm_getR 11 30 14 cls11 C (ltM (by decide +kernel : kdM 0 = 11) (by decide)) (by decide +kernel : kdM 0 = 11) (obM11 (by decide +kernel : kdM 0 = 11)) (by decide) (frM11_30 (by decide +kernel : kdM 0 = 11)) fl11_54 (by decide +kernel) ?_
        refine sm_seg C [(.iload_n 2, 0), (.iconst 1, 1), (.iload 4, 0), (.ishl, 0), (.iconst (-1), (-1)), (.ixor, 0), (.iand, 0)] (pc' := 73) (L' := [(0, .ref 0), (1, .int a1), (2, .int a2), (3, .int a3), (4, .int a4)]) (S' := [.int (a2 &&& ((shl 1 a4) ^^^ (-1))), .ref 14, .int v4, .int a2, .ref 14]) (by decide +kernel) rfl ?_
        refine sm_ald 64 C (ltM (krM11_30 (by decide +kernel : kdM 0 = 11)) (by decide)) (krM11_30 (by decide +kernel : kdM 0 = 11)) (nrM11_30 (by decide +kernel : kdM 0 = 11)) (by decide +kernel) (fun v5 => ?_)
        refine sm_seg C [(.aload_n 0, 0)] (pc' := 75) (L' := [(0, .ref 0), (1, .int a1), (2, .int a2), (3, .int a3), (4, .int a4)]) (S' := [.ref 0, .int v5, .int v4, .int a2, .ref 14]) (by decide +kernel) rfl ?_
        refine sm_getR 11 0 1 cls11 C (ltM (by decide +kernel : kdM 0 = 11) (by decide)) (by decide +kernel : kdM 0 = 11) (obM11 (by decide +kernel : kdM 0 = 11)) (by decide) (frM11_0 (by decide +kernel : kdM 0 = 11)) fl11_7 (by decide +kernel) ?_
        refine sm_seg C [(.sipush 572, 572), (.bipush 6, 6), (.iload_n 3, 0), (.imul, 0), (.iadd, 0), (.iload 4, 0), (.iadd, 0)] (pc' := 89) (L' := [(0, .ref 0), (1, .int a1), (2, .int a2), (3, .int a3), (4, .int a4)]) (S' := [.int ((572 + (6 * a3)) + a4), .ref 1, .int v5, .int v4, .int a2, .ref 14]) (by decide +kernel) rfl ?_
        refine sm_ald 2244 C (ltM (krM11_0 (by decide +kernel : kdM 0 = 11)) (by decide)) (krM11_0 (by decide +kernel : kdM 0 = 11)) (nrM11_0 (by decide +kernel : kdM 0 = 11)) (by decide +kernel) (fun v6 => ?_)
        refine sm_seg C [(.iadd, 0)] (pc' := 91) (L' := [(0, .ref 0), (1, .int a1), (2, .int a2), (3, .int a3), (4, .int a4)]) (S' := [.int (v5 + v6), .int v4, .int a2, .ref 14]) (by decide +kernel) rfl ?_
        refine sm_scal [.int v4, .int (v5 + v6)] [.int a2, .ref 14] rfl C mw_X11_greater ml_11_306 rfl ⟨by decide, by decide⟩ (Nat.le_of_ble_eq_true rfl) (by decide +kernel) (c_X11_greater F v4 (v5 + v6) τ) (fun r7 τ8 => ?_)
        refine sm_ast 64 C (ltM (krM11_30 (by decide +kernel : kdM 0 = 11)) (by decide)) (krM11_30 (by decide +kernel : kdM 0 = 11)) (nrM11_30 (by decide +kernel : kdM 0 = 11)) (by decide +kernel) (fun τ9 => ?_)
        exact sm_sub [0, 1, 2, 3, 4] rfl (s_X11_layMostFor_j95 F C hr self2 (X11_layMostFor_L34 F self2 n) ih2 ih a1 a2 a3 a4 τ9)
      · exact sm_sub [0, 1, 2, 3, 4] rfl (s_X11_layMostFor_j95 F C hr self2 (X11_layMostFor_L34 F self2 n) ih2 ih a1 a2 a3 a4 τ)
def X11_layMostFor_j30 (F : Nat) (self2 : Int32 → Int32 → Tau → Option (Int32 × Tau)) (a1 : Int32) (a2 : Int32) (a3 : Int32) (z0 : Int32) (z1 : Int32) (τ : Tau) : Option (Int32 × Tau) :=
  ast τ 14 64 z1 z0 fun τ3 => X11_layMostFor_L34 F self2 F a1 a2 a3 0 τ3
theorem s_X11_layMostFor_j30 (F : Nat) {K : Ctx} (C : Cx K sysM RX11 cX11_layMostFor 5 2) (hr : Rt K none) (self2 : Int32 → Int32 → Tau → Option (Int32 × Tau)) (ih2 : ∀ (a1 : Int32) (a2 : Int32) (τ : Tau), Sm K sysM 5 (Qv K sysM) (self2 a1 a2 τ) 2 [(0, .ref 0), (1, .int a1), (2, .int a2)] [] τ) (a1 : Int32) (a2 : Int32) (a3 : Int32) (z0 : Int32) (z1 : Int32) (τ : Tau) : Sm K sysM 5 (Qv K sysM) (X11_layMostFor_j30 F self2 a1 a2 a3 z0 z1 τ) 30 [(0, .ref 0), (1, .int a1), (2, .int a2), (3, .int a3)] [.int z0, .int z1, .ref 14] τ := by
  unfold X11_layMostFor_j30
  refine sm_ast 64 C (ltM (krM11_30 (by decide +kernel : kdM 0 = 11)) (by decide)) (krM11_30 (by decide +kernel : kdM 0 = 11)) (nrM11_30 (by decide +kernel : kdM 0 = 11)) (by decide +kernel) (fun τ3 => ?_)
  refine sm_seg C [(.iconst 0, 0), (.istore 4, 0)] (pc' := 34) (L' := [(4, .int 0), (0, .ref 0), (1, .int a1), (2, .int a2), (3, .int a3)]) (S' := []) (by decide +kernel) rfl ?_
  exact sm_sub [1, 2, 3, 4, 0] rfl (s_X11_layMostFor_L34 F C hr self2 ih2 F a1 a2 a3 0 τ3)
def X11_layMostFor_L2 (F : Nat) : Nat → Int32 → Int32 → Tau → Option (Int32 × Tau)
  | 0, _, _, _ => none
  | n + 1, a1, a2, τ =>
    if (shl 1 a1) ≤ a2 then (some (0, τ)) else (cal (X11_bitsOf F a2 τ) fun r1 τ2 => if a2 = 0 then (X11_layMostFor_j30 F (X11_layMostFor_L2 F n) a1 a2 (a1 - r1) 0 a2 τ2) else (X11_layMostFor_j30 F (X11_layMostFor_L2 F n) a1 a2 (a1 - r1) (-1) a2 τ2))
theorem s_X11_layMostFor_L2 (F : Nat) {K : Ctx} (C : Cx K sysM RX11 cX11_layMostFor 5 2) (hr : Rt K none) : ∀ (n : Nat) (a1 : Int32) (a2 : Int32) (τ : Tau), Sm K sysM 5 (Qv K sysM) (X11_layMostFor_L2 F n a1 a2 τ) 2 [(0, .ref 0), (1, .int a1), (2, .int a2)] [] τ := by
  intro n
  induction n with
  | zero => intro a1 a2 τ; exact sm_none
  | succ n ih =>
    intro a1 a2 τ
    rw [X11_layMostFor_L2]
    refine sm_seg C [(.iload_n 2, 0), (.iconst 1, 1), (.iload_n 1, 0), (.ishl, 0)] (pc' := 6) (L' := [(0, .ref 0), (1, .int a1), (2, .int a2)]) (S' := [.int (shl 1 a1), .int a2]) (by decide +kernel) rfl ?_
    refine sm_icmpge 107 (off := 101) C (by decide +kernel) (by decide) (fun _ => ?_) (fun _ => ?_)
    · exact sm_vret C hr (by decide +kernel)
    · refine sm_seg C [(.iload_n 1, 0), (.iload_n 2, 0)] (pc' := 11) (L' := [(0, .ref 0), (1, .int a1), (2, .int a2)]) (S' := [.int a2, .int a1]) (by decide +kernel) rfl ?_
      refine sm_scal [.int a2] [.int a1] rfl C mw_X11_bitsOf ml_11_433 rfl ⟨by decide, by decide⟩ (Nat.le_of_ble_eq_true rfl) (by decide +kernel) (c_X11_bitsOf F a2 τ) (fun r1 τ2 => ?_)
      refine sm_seg C [(.isub, 0), (.istore_n 3, 0), (.aload_n 0, 0)] (pc' := 17) (L' := [(3, .int (a1 - r1)), (0, .ref 0), (1, .int a1), (2, .int a2)]) (S' := [.ref 0]) (by decide +kernel) rfl ?_
      refine sm_getR 11 30 14 cls11 C (ltM (by decide +kernel : kdM 0 = 11) (by decide)) (by decide +kernel : kdM 0 = 11) (obM11 (by decide +kernel : kdM 0 = 11)) (by decide) (frM11_30 (by decide +kernel : kdM 0 = 11)) fl11_54 (by decide +kernel) ?_
      refine sm_seg C [(.iload_n 2, 0), (.iload_n 2, 0)] (pc' := 22) (L' := [(3, .int (a1 - r1)), (0, .ref 0), (1, .int a1), (2, .int a2)]) (S' := [.int a2, .int a2, .ref 14]) (by decide +kernel) rfl ?_
      refine sm_ifne 29 (off := 7) C (by decide +kernel) (by decide) (fun _ => ?_) (fun _ => ?_)
      · refine sm_seg C [(.iconst 0, 0), (.goto 4, 0)] (pc' := 30) (L' := [(3, .int (a1 - r1)), (0, .ref 0), (1, .int a1), (2, .int a2)]) (S' := [.int 0, .int a2, .ref 14]) (by decide +kernel) rfl ?_
        exact sm_sub [1, 2, 3, 0] rfl (s_X11_layMostFor_j30 F C hr (X11_layMostFor_L2 F n) ih a1 a2 (a1 - r1) 0 a2 τ2)
      · refine sm_seg C [(.iconst (-1), (-1))] (pc' := 30) (L' := [(3, .int (a1 - r1)), (0, .ref 0), (1, .int a1), (2, .int a2)]) (S' := [.int (-1), .int a2, .ref 14]) (by decide +kernel) rfl ?_
        exact sm_sub [1, 2, 3, 0] rfl (s_X11_layMostFor_j30 F C hr (X11_layMostFor_L2 F n) ih a1 a2 (a1 - r1) (-1) a2 τ2)
def X11_layMostFor (F : Nat) (a1 : Int32) (τ : Tau) : Option (Int32 × Tau) :=
  X11_layMostFor_L2 F F a1 0 τ
set_option maxRecDepth 20000 in
set_option maxHeartbeats 4000000 in
theorem c_X11_layMostFor (F : Nat) (a1 : Int32) (τ : Tau) (r : Int32) (τ' : Tau) (h : X11_layMostFor F a1 τ = some (r, τ')) : MCv sysM yX11_layMostFor cX11_layMostFor 5 2 [.ref 0, .int a1] τ τ' :=
  mcv_of (by decide +kernel) (Nat.le_of_ble_eq_true rfl) (fun K C hr => by
    show Sm K sysM 5 (Qv K sysM) (X11_layMostFor F a1 τ) 0 [(0, .ref 0), (1, .int a1)] [] τ
    unfold X11_layMostFor
    refine sm_seg C [(.iconst 0, 0), (.istore_n 2, 0)] (pc' := 2) (L' := [(2, .int 0), (0, .ref 0), (1, .int a1)]) (S' := []) (by decide +kernel) rfl ?_
    exact sm_sub [1, 2, 0] rfl (s_X11_layMostFor_L2 F C hr F a1 0 τ)) h
/-! BasketEnvoysModel.layNone -/
def X11_layNone_L10 (F : Nat) : Nat → Int32 → Tau → Option (Int32 × Tau)
  | 0, _, _ => none
  | n + 1, a1, τ =>
    if 120 ≤ a1 then (some (0, τ)) else (ast τ 1 2244 (261 + a1) (rmd a1 12) fun τ2 => X11_layNone_L10 F n (a1 + 1) τ2)
theorem s_X11_layNone_L10 (F : Nat) {K : Ctx} (C : Cx K sysM RX11 cX11_layNone 2 1) (hr : Rt K none) : ∀ (n : Nat) (a1 : Int32) (τ : Tau), Sm K sysM 2 (Qv K sysM) (X11_layNone_L10 F n a1 τ) 10 [(0, .ref 0), (1, .int a1)] [] τ := by
  intro n
  induction n with
  | zero => intro a1 τ; exact sm_none
  | succ n ih =>
    intro a1 τ
    rw [X11_layNone_L10]
    refine sm_seg C [(.iload_n 1, 0), (.bipush 120, 120)] (pc' := 13) (L' := [(0, .ref 0), (1, .int a1)]) (S' := [.int 120, .int a1]) (by decide +kernel) rfl ?_
    refine sm_icmpge 36 (off := 23) C (by decide +kernel) (by decide) (fun _ => ?_) (fun _ => ?_)
    · exact sm_vret C hr (by decide +kernel)
    · refine sm_seg C [(.aload_n 0, 0)] (pc' := 17) (L' := [(0, .ref 0), (1, .int a1)]) (S' := [.ref 0]) (by decide +kernel) rfl ?_
      refine sm_getR 11 0 1 cls11 C (ltM (by decide +kernel : kdM 0 = 11) (by decide)) (by decide +kernel : kdM 0 = 11) (obM11 (by decide +kernel : kdM 0 = 11)) (by decide) (frM11_0 (by decide +kernel : kdM 0 = 11)) fl11_7 (by decide +kernel) ?_
      refine sm_seg C [(.sipush 261, 261), (.iload_n 1, 0), (.iadd, 0), (.iload_n 1, 0), (.bipush 12, 12)] (pc' := 28) (L' := [(0, .ref 0), (1, .int a1)]) (S' := [.int 12, .int a1, .int (261 + a1), .ref 1]) (by decide +kernel) rfl ?_
      refine sm_irem C (by decide +kernel) (by decide) ?_
      refine sm_ast 2244 C (ltM (krM11_0 (by decide +kernel : kdM 0 = 11)) (by decide)) (krM11_0 (by decide +kernel : kdM 0 = 11)) (nrM11_0 (by decide +kernel : kdM 0 = 11)) (by decide +kernel) (fun τ2 => ?_)
      refine sm_seg C [(.iinc 1 1, 1), (.goto (-23), 0)] (pc' := 10) (L' := [(1, .int (a1 + 1)), (0, .ref 0)]) (S' := []) (by decide +kernel) rfl ?_
      exact sm_sub [1, 0] rfl (ih (a1 + 1) τ2)
def X11_layNone (F : Nat) (τ : Tau) : Option (Int32 × Tau) :=
  ast τ 1 2244 0 10 fun τ1 => X11_layNone_L10 F F 0 τ1
set_option maxRecDepth 20000 in
set_option maxHeartbeats 4000000 in
theorem c_X11_layNone (F : Nat) (τ : Tau) (r : Int32) (τ' : Tau) (h : X11_layNone F τ = some (r, τ')) : MCv sysM yX11_layNone cX11_layNone 2 1 [.ref 0] τ τ' :=
  mcv_of (by decide +kernel) (Nat.le_of_ble_eq_true rfl) (fun K C hr => by
    show Sm K sysM 2 (Qv K sysM) (X11_layNone F τ) 0 [(0, .ref 0)] [] τ
    unfold X11_layNone
    refine sm_seg C [(.aload_n 0, 0)] (pc' := 1) (L' := [(0, .ref 0)]) (S' := [.ref 0]) (by decide +kernel) rfl ?_
    refine sm_getR 11 0 1 cls11 C (ltM (by decide +kernel : kdM 0 = 11) (by decide)) (by decide +kernel : kdM 0 = 11) (obM11 (by decide +kernel : kdM 0 = 11)) (by decide) (frM11_0 (by decide +kernel : kdM 0 = 11)) fl11_7 (by decide +kernel) ?_
    refine sm_seg C [(.iconst 0, 0), (.bipush 10, 10)] (pc' := 7) (L' := [(0, .ref 0)]) (S' := [.int 10, .int 0, .ref 1]) (by decide +kernel) rfl ?_
    refine sm_ast 2244 C (ltM (krM11_0 (by decide +kernel : kdM 0 = 11)) (by decide)) (krM11_0 (by decide +kernel : kdM 0 = 11)) (nrM11_0 (by decide +kernel : kdM 0 = 11)) (by decide +kernel) (fun τ1 => ?_)
    refine sm_seg C [(.iconst 0, 0), (.istore_n 1, 0)] (pc' := 10) (L' := [(1, .int 0), (0, .ref 0)]) (S' := []) (by decide +kernel) rfl ?_
    exact sm_sub [1, 0] rfl (s_X11_layNone_L10 F C hr F 0 τ1)) h
/-! BasketEnvoysModel.leastHeap -/
def X11_leastHeap_j41 (F : Nat) (self5 : Int32 → Int32 → Int32 → Int32 → Tau → Option (Int32 × Tau)) (a1 : Int32) (a2 : Int32) (a3 : Int32) (a4 : Int32) (τ : Tau) : Option (Int32 × Tau) :=
  self5 a1 a2 a3 (a4 + 1) τ
theorem s_X11_leastHeap_j41 (F : Nat) {K : Ctx} (C : Cx K sysM RX11 cX11_leastHeap 5 1) (hr : Rt K (some .int)) (self5 : Int32 → Int32 → Int32 → Int32 → Tau → Option (Int32 × Tau)) (ih5 : ∀ (a1 : Int32) (a2 : Int32) (a3 : Int32) (a4 : Int32) (τ : Tau), Sm K sysM 5 (Qi K sysM) (self5 a1 a2 a3 a4 τ) 5 [(0, .ref 0), (1, .int a1), (2, .int a2), (3, .int a3), (4, .int a4)] [] τ) (a1 : Int32) (a2 : Int32) (a3 : Int32) (a4 : Int32) (τ : Tau) : Sm K sysM 5 (Qi K sysM) (X11_leastHeap_j41 F self5 a1 a2 a3 a4 τ) 41 [(0, .ref 0), (1, .int a1), (2, .int a2), (3, .int a3), (4, .int a4)] [] τ := by
  unfold X11_leastHeap_j41
  refine sm_seg C [(.iinc 4 1, 1), (.goto (-39), 0)] (pc' := 5) (L' := [(4, .int (a4 + 1)), (0, .ref 0), (1, .int a1), (2, .int a2), (3, .int a3)]) (S' := []) (by decide +kernel) rfl ?_
  exact sm_sub [1, 2, 3, 4, 0] rfl (ih5 a1 a2 a3 (a4 + 1) τ)
def X11_leastHeap_j38 (F : Nat) (self5 : Int32 → Int32 → Int32 → Int32 → Tau → Option (Int32 × Tau)) (a1 : Int32) (a2 : Int32) (a4 : Int32) (τ : Tau) : Option (Int32 × Tau) :=
  X11_leastHeap_j41 F self5 a1 a2 a4 a4 τ
theorem s_X11_leastHeap_j38 (F : Nat) {K : Ctx} (C : Cx K sysM RX11 cX11_leastHeap 5 1) (hr : Rt K (some .int)) (self5 : Int32 → Int32 → Int32 → Int32 → Tau → Option (Int32 × Tau)) (ih5 : ∀ (a1 : Int32) (a2 : Int32) (a3 : Int32) (a4 : Int32) (τ : Tau), Sm K sysM 5 (Qi K sysM) (self5 a1 a2 a3 a4 τ) 5 [(0, .ref 0), (1, .int a1), (2, .int a2), (3, .int a3), (4, .int a4)] [] τ) (a1 : Int32) (a2 : Int32) (a4 : Int32) (τ : Tau) : Sm K sysM 5 (Qi K sysM) (X11_leastHeap_j38 F self5 a1 a2 a4 τ) 38 [(0, .ref 0), (1, .int a1), (2, .int a2), (4, .int a4)] [] τ := by
  unfold X11_leastHeap_j38
  refine sm_seg C [(.iload 4, 0), (.istore_n 3, 0)] (pc' := 41) (L' := [(3, .int a4), (0, .ref 0), (1, .int a1), (2, .int a2), (4, .int a4)]) (S' := []) (by decide +kernel) rfl ?_
  exact sm_sub [1, 2, 3, 0, 4] rfl (s_X11_leastHeap_j41 F C hr self5 ih5 a1 a2 a4 a4 τ)
def X11_leastHeap_L5 (F : Nat) : Nat → Int32 → Int32 → Int32 → Int32 → Tau → Option (Int32 × Tau)
  | 0, _, _, _, _, _ => none
  | n + 1, a1, a2, a3, a4, τ =>
    if a1 ≤ a4 then (some (a3, τ)) else (if a4 = a2 then (X11_leastHeap_j41 F (X11_leastHeap_L5 F n) a1 a2 a3 a4 τ) else (if a3 = (-1) then (X11_leastHeap_j38 F (X11_leastHeap_L5 F n) a1 a2 a4 τ) else (ald τ 11 8 a4 fun v1 => ald τ 11 8 a3 fun v2 => if v2 ≤ v1 then (X11_leastHeap_j41 F (X11_leastHeap_L5 F n) a1 a2 a3 a4 τ) else (X11_leastHeap_j38 F (X11_leastHeap_L5 F n) a1 a2 a4 τ))))
theorem s_X11_leastHeap_L5 (F : Nat) {K : Ctx} (C : Cx K sysM RX11 cX11_leastHeap 5 1) (hr : Rt K (some .int)) : ∀ (n : Nat) (a1 : Int32) (a2 : Int32) (a3 : Int32) (a4 : Int32) (τ : Tau), Sm K sysM 5 (Qi K sysM) (X11_leastHeap_L5 F n a1 a2 a3 a4 τ) 5 [(0, .ref 0), (1, .int a1), (2, .int a2), (3, .int a3), (4, .int a4)] [] τ := by
  intro n
  induction n with
  | zero => intro a1 a2 a3 a4 τ; exact sm_none
  | succ n ih =>
    intro a1 a2 a3 a4 τ
    rw [X11_leastHeap_L5]
    refine sm_seg C [(.iload 4, 0), (.iload_n 1, 0)] (pc' := 8) (L' := [(0, .ref 0), (1, .int a1), (2, .int a2), (3, .int a3), (4, .int a4)]) (S' := [.int a1, .int a4]) (by decide +kernel) rfl ?_
    refine sm_icmpge 47 (off := 39) C (by decide +kernel) (by decide) (fun _ => ?_) (fun _ => ?_)
    · refine sm_seg C [(.iload_n 3, 0)] (pc' := 48) (L' := [(0, .ref 0), (1, .int a1), (2, .int a2), (3, .int a3), (4, .int a4)]) (S' := [.int a3]) (by decide +kernel) rfl ?_
      exact sm_iret C hr rfl (by decide +kernel)
    · refine sm_seg C [(.iload 4, 0), (.iload_n 2, 0)] (pc' := 14) (L' := [(0, .ref 0), (1, .int a1), (2, .int a2), (3, .int a3), (4, .int a4)]) (S' := [.int a2, .int a4]) (by decide +kernel) rfl ?_
      refine sm_icmpeq 41 (off := 27) C (by decide +kernel) (by decide) (fun _ => ?_) (fun _ => ?_)
      · exact sm_sub [0, 1, 2, 3, 4] rfl (s_X11_leastHeap_j41 F C hr (X11_leastHeap_L5 F n) ih a1 a2 a3 a4 τ)
      · refine sm_seg C [(.iload_n 3, 0), (.iconst (-1), (-1))] (pc' := 19) (L' := [(0, .ref 0), (1, .int a1), (2, .int a2), (3, .int a3), (4, .int a4)]) (S' := [.int (-1), .int a3]) (by decide +kernel) rfl ?_
        refine sm_icmpeq 38 (off := 19) C (by decide +kernel) (by decide) (fun _ => ?_) (fun _ => ?_)
        · exact sm_sub [0, 1, 2, 4] rfl (s_X11_leastHeap_j38 F C hr (X11_leastHeap_L5 F n) ih a1 a2 a4 τ)
        · refine sm_seg C [(.aload_n 0, 0)] (pc' := 23) (L' := [(0, .ref 0), (1, .int a1), (2, .int a2), (3, .int a3), (4, .int a4)]) (S' := [.ref 0]) (by decide +kernel) rfl ?_
          refine sm_getR 11 27 11 cls11 C (ltM (by decide +kernel : kdM 0 = 11) (by decide)) (by decide +kernel : kdM 0 = 11) (obM11 (by decide +kernel : kdM 0 = 11)) (by decide) (frM11_27 (by decide +kernel : kdM 0 = 11)) fl11_44 (by decide +kernel) ?_
          refine sm_seg C [(.iload 4, 0)] (pc' := 28) (L' := [(0, .ref 0), (1, .int a1), (2, .int a2), (3, .int a3), (4, .int a4)]) (S' := [.int a4, .ref 11]) (by decide +kernel) rfl ?_
          refine sm_ald 8 C (ltM (krM11_27 (by decide +kernel : kdM 0 = 11)) (by decide)) (krM11_27 (by decide +kernel : kdM 0 = 11)) (nrM11_27 (by decide +kernel : kdM 0 = 11)) (by decide +kernel) (fun v1 => ?_)
          refine sm_seg C [(.aload_n 0, 0)] (pc' := 30) (L' := [(0, .ref 0), (1, .int a1), (2, .int a2), (3, .int a3), (4, .int a4)]) (S' := [.ref 0, .int v1]) (by decide +kernel) rfl ?_
          refine sm_getR 11 27 11 cls11 C (ltM (by decide +kernel : kdM 0 = 11) (by decide)) (by decide +kernel : kdM 0 = 11) (obM11 (by decide +kernel : kdM 0 = 11)) (by decide) (frM11_27 (by decide +kernel : kdM 0 = 11)) fl11_44 (by decide +kernel) ?_
          refine sm_seg C [(.iload_n 3, 0)] (pc' := 34) (L' := [(0, .ref 0), (1, .int a1), (2, .int a2), (3, .int a3), (4, .int a4)]) (S' := [.int a3, .ref 11, .int v1]) (by decide +kernel) rfl ?_
          refine sm_ald 8 C (ltM (krM11_27 (by decide +kernel : kdM 0 = 11)) (by decide)) (krM11_27 (by decide +kernel : kdM 0 = 11)) (nrM11_27 (by decide +kernel : kdM 0 = 11)) (by decide +kernel) (fun v2 => ?_)
          refine sm_icmpge 41 (off := 6) C (by decide +kernel) (by decide) (fun _ => ?_) (fun _ => ?_)
          · exact sm_sub [0, 1, 2, 3, 4] rfl (s_X11_leastHeap_j41 F C hr (X11_leastHeap_L5 F n) ih a1 a2 a3 a4 τ)
          · exact sm_sub [0, 1, 2, 4] rfl (s_X11_leastHeap_j38 F C hr (X11_leastHeap_L5 F n) ih a1 a2 a4 τ)
def X11_leastHeap (F : Nat) (a1 : Int32) (a2 : Int32) (τ : Tau) : Option (Int32 × Tau) :=
  X11_leastHeap_L5 F F a1 a2 (-1) 0 τ
set_option maxRecDepth 20000 in
set_option maxHeartbeats 4000000 in
theorem c_X11_leastHeap (F : Nat) (a1 : Int32) (a2 : Int32) (τ : Tau) (r : Int32) (τ' : Tau) (h : X11_leastHeap F a1 a2 τ = some (r, τ')) : MCi sysM yX11_leastHeap cX11_leastHeap 5 (some .int) 1 [.ref 0, .int a1, .int a2] τ r τ' :=
  mci_of (by decide +kernel) (Nat.le_of_ble_eq_true rfl) (fun K C hr => by
    show Sm K sysM 5 (Qi K sysM) (X11_leastHeap F a1 a2 τ) 0 [(0, .ref 0), (1, .int a1), (2, .int a2)] [] τ
    unfold X11_leastHeap
    refine sm_seg C [(.iconst (-1), (-1)), (.istore_n 3, 0), (.iconst 0, 0), (.istore 4, 0)] (pc' := 5) (L' := [(4, .int 0), (3, .int (-1)), (0, .ref 0), (1, .int a1), (2, .int a2)]) (S' := []) (by decide +kernel) rfl ?_
    exact sm_sub [2, 3, 4, 1, 0] rfl (s_X11_leastHeap_L5 F C hr F a1 a2 (-1) 0 τ)) h
/-! BasketEnvoysModel.led -/
def X11_led_j89 (F : Nat) (self4 : Int32 → Int32 → Int32 → Tau → Option (Int32 × Tau)) (a1 : Int32) (a3 : Int32) (z0 : Int32) (τ : Tau) : Option (Int32 × Tau) :=
  self4 a1 z0 (a3 + 1) τ
theorem s_X11_led_j89 (F : Nat) {K : Ctx} (C : Cx K sysM RX11 cX11_led 6 2) (hr : Rt K (some .int)) (self4 : Int32 → Int32 → Int32 → Tau → Option (Int32 × Tau)) (ih4 : ∀ (a1 : Int32) (a2 : Int32) (a3 : Int32) (τ : Tau), Sm K sysM 6 (Qi K sysM) (self4 a1 a2 a3 τ) 4 [(0, .ref 0), (1, .int a1), (2, .int a2), (3, .int a3)] [] τ) (a1 : Int32) (a3 : Int32) (z0 : Int32) (τ : Tau) : Sm K sysM 6 (Qi K sysM) (X11_led_j89 F self4 a1 a3 z0 τ) 89 [(0, .ref 0), (1, .int a1), (3, .int a3)] [.int z0] τ := by
  unfold X11_led_j89
  refine sm_seg C [(.istore_n 2, 0), (.iinc 3 1, 1), (.goto (-89), 0)] (pc' := 4) (L' := [(3, .int (a3 + 1)), (2, .int z0), (0, .ref 0), (1, .int a1)]) (S' := []) (by decide +kernel) rfl ?_
  exact sm_sub [2, 3, 1, 0] rfl (ih4 a1 z0 (a3 + 1) τ)
def X11_led_j84 (F : Nat) (self4 : Int32 → Int32 → Int32 → Tau → Option (Int32 × Tau)) (a1 : Int32) (a3 : Int32) (τ : Tau) : Option (Int32 × Tau) :=
  X11_led_j89 F self4 a1 a3 a3 τ
theorem s_X11_led_j84 (F : Nat) {K : Ctx} (C : Cx K sysM RX11 cX11_led 6 2) (hr : Rt K (some .int)) (self4 : Int32 → Int32 → Int32 → Tau → Option (Int32 × Tau)) (ih4 : ∀ (a1 : Int32) (a2 : Int32) (a3 : Int32) (τ : Tau), Sm K sysM 6 (Qi K sysM) (self4 a1 a2 a3 τ) 4 [(0, .ref 0), (1, .int a1), (2, .int a2), (3, .int a3)] [] τ) (a1 : Int32) (a3 : Int32) (τ : Tau) : Sm K sysM 6 (Qi K sysM) (X11_led_j84 F self4 a1 a3 τ) 84 [(0, .ref 0), (1, .int a1), (3, .int a3)] [] τ := by
  unfold X11_led_j84
  refine sm_seg C [(.iload_n 3, 0), (.goto 4, 0)] (pc' := 89) (L' := [(0, .ref 0), (1, .int a1), (3, .int a3)]) (S' := [.int a3]) (by decide +kernel) rfl ?_
  exact sm_sub [0, 1, 2] rfl (s_X11_led_j89 F C hr self4 ih4 a1 a3 a3 τ)
def X11_led_j72 (F : Nat) (self4 : Int32 → Int32 → Int32 → Tau → Option (Int32 × Tau)) (a1 : Int32) (a2 : Int32) (a3 : Int32) (a4 : Int32) (z0 : Int32) (τ : Tau) : Option (Int32 × Tau) :=
  if a4 = 0 then (if z0 = 0 then (X11_led_j89 F self4 a1 a3 a2 τ) else (X11_led_j84 F self4 a1 a3 τ)) else (X11_led_j84 F self4 a1 a3 τ)
theorem s_X11_led_j72 (F : Nat) {K : Ctx} (C : Cx K sysM RX11 cX11_led 6 2) (hr : Rt K (some .int)) (self4 : Int32 → Int32 → Int32 → Tau → Option (Int32 × Tau)) (ih4 : ∀ (a1 : Int32) (a2 : Int32) (a3 : Int32) (τ : Tau), Sm K sysM 6 (Qi K sysM) (self4 a1 a2 a3 τ) 4 [(0, .ref 0), (1, .int a1), (2, .int a2), (3, .int a3)] [] τ) (a1 : Int32) (a2 : Int32) (a3 : Int32) (a4 : Int32) (z0 : Int32) (τ : Tau) : Sm K sysM 6 (Qi K sysM) (X11_led_j72 F self4 a1 a2 a3 a4 z0 τ) 72 [(0, .ref 0), (1, .int a1), (2, .int a2), (3, .int a3), (4, .int a4)] [.int z0] τ := by
  unfold X11_led_j72
  refine sm_seg C [(.istore 5, 0), (.iload 4, 0)] (pc' := 76) (L' := [(5, .int z0), (0, .ref 0), (1, .int a1), (2, .int a2), (3, .int a3), (4, .int a4)]) (S' := [.int a4]) (by decide +kernel) rfl ?_
  refine sm_ifne 84 (off := 8) C (by decide +kernel) (by decide) (fun _ => ?_) (fun _ => ?_)
  · refine sm_seg C [(.iload 5, 0)] (pc' := 81) (L' := [(5, .int z0), (0, .ref 0), (1, .int a1), (2, .int a2), (3, .int a3), (4, .int a4)]) (S' := [.int z0]) (by decide +kernel) rfl ?_
    refine sm_ifeq 88 (off := 7) C (by decide +kernel) (by decide) (fun _ => ?_) (fun _ => ?_)
    · refine sm_seg C [(.iload_n 2, 0)] (pc' := 89) (L' := [(5, .int z0), (0, .ref 0), (1, .int a1), (2, .int a2), (3, .int a3), (4, .int a4)]) (S' := [.int a2]) (by decide +kernel) rfl ?_
      exact sm_sub [1, 2, 4] rfl (s_X11_led_j89 F C hr self4 ih4 a1 a3 a2 τ)
    · exact sm_sub [1, 2, 4] rfl (s_X11_led_j84 F C hr self4 ih4 a1 a3 τ)
  · exact sm_sub [1, 2, 4] rfl (s_X11_led_j84 F C hr self4 ih4 a1 a3 τ)
def X11_led_j71 (F : Nat) (self4 : Int32 → Int32 → Int32 → Tau → Option (Int32 × Tau)) (a1 : Int32) (a2 : Int32) (a3 : Int32) (a4 : Int32) (τ : Tau) : Option (Int32 × Tau) :=
  X11_led_j72 F self4 a1 a2 a3 a4 0 τ
theorem s_X11_led_j71 (F : Nat) {K : Ctx} (C : Cx K sysM RX11 cX11_led 6 2) (hr : Rt K (some .int)) (self4 : Int32 → Int32 → Int32 → Tau → Option (Int32 × Tau)) (ih4 : ∀ (a1 : Int32) (a2 : Int32) (a3 : Int32) (τ : Tau), Sm K sysM 6 (Qi K sysM) (self4 a1 a2 a3 τ) 4 [(0, .ref 0), (1, .int a1), (2, .int a2), (3, .int a3)] [] τ) (a1 : Int32) (a2 : Int32) (a3 : Int32) (a4 : Int32) (τ : Tau) : Sm K sysM 6 (Qi K sysM) (X11_led_j71 F self4 a1 a2 a3 a4 τ) 71 [(0, .ref 0), (1, .int a1), (2, .int a2), (3, .int a3), (4, .int a4)] [] τ := by
  unfold X11_led_j71
  refine sm_seg C [(.iconst 0, 0)] (pc' := 72) (L' := [(0, .ref 0), (1, .int a1), (2, .int a2), (3, .int a3), (4, .int a4)]) (S' := [.int 0]) (by decide +kernel) rfl ?_
  exact sm_sub [0, 1, 2, 3, 4] rfl (s_X11_led_j72 F C hr self4 ih4 a1 a2 a3 a4 0 τ)
def X11_led_j31 (F : Nat) (self4 : Int32 → Int32 → Int32 → Tau → Option (Int32 × Tau)) (a1 : Int32) (a2 : Int32) (a3 : Int32) (z0 : Int32) (τ : Tau) : Option (Int32 × Tau) :=
  cal (X11_gets F 1 a1 a3 τ) fun r7 τ8 => cal (X11_gets F 1 a1 a2 τ8) fun r9 τ10 => if r7 = r9 then (cal (X11_gets F 0 a1 a3 τ10) fun r11 τ12 => cal (X11_gets F 0 a1 a2 τ12) fun r13 τ14 => if r13 ≤ r11 then (X11_led_j71 F self4 a1 a2 a3 z0 τ14) else (X11_led_j72 F self4 a1 a2 a3 z0 1 τ14)) else (X11_led_j71 F self4 a1 a2 a3 z0 τ10)
theorem s_X11_led_j31 (F : Nat) {K : Ctx} (C : Cx K sysM RX11 cX11_led 6 2) (hr : Rt K (some .int)) (self4 : Int32 → Int32 → Int32 → Tau → Option (Int32 × Tau)) (ih4 : ∀ (a1 : Int32) (a2 : Int32) (a3 : Int32) (τ : Tau), Sm K sysM 6 (Qi K sysM) (self4 a1 a2 a3 τ) 4 [(0, .ref 0), (1, .int a1), (2, .int a2), (3, .int a3)] [] τ) (a1 : Int32) (a2 : Int32) (a3 : Int32) (z0 : Int32) (τ : Tau) : Sm K sysM 6 (Qi K sysM) (X11_led_j31 F self4 a1 a2 a3 z0 τ) 31 [(0, .ref 0), (1, .int a1), (2, .int a2), (3, .int a3)] [.int z0] τ := by
  unfold X11_led_j31
  refine sm_seg C [(.istore 4, 0), (.aload_n 0, 0), (.iconst 1, 1), (.iload_n 1, 0), (.iload_n 3, 0)] (pc' := 37) (L' := [(4, .int z0), (0, .ref 0), (1, .int a1), (2, .int a2), (3, .int a3)]) (S' := [.int a3, .int a1, .int 1, .ref 0]) (by decide +kernel) rfl ?_
  refine sm_vcal [.int 1, .int a1, .int a3] [] rfl C mw_X11_gets ml_11_418 rfl (ci := 11) rfl (ltM (by decide +kernel : kdM 0 = 11) (by decide)) (by decide +kernel : kdM 0 = 11) (by decide) ⟨by decide, by decide⟩ (Nat.le_of_ble_eq_true rfl) (by decide +kernel) (c_X11_gets F 1 a1 a3 τ) (fun r7 τ8 => ?_)
  refine sm_seg C [(.aload_n 0, 0), (.iconst 1, 1), (.iload_n 1, 0), (.iload_n 2, 0)] (pc' := 44) (L' := [(4, .int z0), (0, .ref 0), (1, .int a1), (2, .int a2), (3, .int a3)]) (S' := [.int a2, .int a1, .int 1, .ref 0, .int r7]) (by decide +kernel) rfl ?_
  refine sm_vcal [.int 1, .int a1, .int a2] [.int r7] rfl C mw_X11_gets ml_11_418 rfl (ci := 11) rfl (ltM (by decide +kernel : kdM 0 = 11) (by decide)) (by decide +kernel : kdM 0 = 11) (by decide) ⟨by decide, by decide⟩ (Nat.le_of_ble_eq_true rfl) (by decide +kernel) (c_X11_gets F 1 a1 a2 τ8) (fun r9 τ10 => ?_)
  refine sm_icmpne 71 (off := 24) C (by decide +kernel) (by decide) (fun _ => ?_) (fun _ => ?_)
  · refine sm_seg C [(.aload_n 0, 0), (.iconst 0, 0), (.iload_n 1, 0), (.iload_n 3, 0)] (pc' := 54) (L' := [(4, .int z0), (0, .ref 0), (1, .int a1), (2, .int a2), (3, .int a3)]) (S' := [.int a3, .int a1, .int 0, .ref 0]) (by decide +kernel) rfl ?_
    refine sm_vcal [.int 0, .int a1, .int a3] [] rfl C mw_X11_gets ml_11_418 rfl (ci := 11) rfl (ltM (by decide +kernel : kdM 0 = 11) (by decide)) (by decide +kernel : kdM 0 = 11) (by decide) ⟨by decide, by decide⟩ (Nat.le_of_ble_eq_true rfl) (by decide +kernel) (c_X11_gets F 0 a1 a3 τ10) (fun r11 τ12 => ?_)
    refine sm_seg C [(.aload_n 0, 0), (.iconst 0, 0), (.iload_n 1, 0), (.iload_n 2, 0)] (pc' := 61) (L' := [(4, .int z0), (0, .ref 0), (1, .int a1), (2, .int a2), (3, .int a3)]) (S' := [.int a2, .int a1, .int 0, .ref 0, .int r11]) (by decide +kernel) rfl ?_
    refine sm_vcal [.int 0, .int a1, .int a2] [.int r11] rfl C mw_X11_gets ml_11_418 rfl (ci := 11) rfl (ltM (by decide +kernel : kdM 0 = 11) (by decide)) (by decide +kernel : kdM 0 = 11) (by decide) ⟨by decide, by decide⟩ (Nat.le_of_ble_eq_true rfl) (by decide +kernel) (c_X11_gets F 0 a1 a2 τ12) (fun r13 τ14 => ?_)
    refine sm_icmpge 71 (off := 7) C (by decide +kernel) (by decide) (fun _ => ?_) (fun _ => ?_)
    · exact sm_sub [1, 2, 3, 4, 0] rfl (s_X11_led_j71 F C hr self4 ih4 a1 a2 a3 z0 τ14)
    · refine sm_seg C [(.iconst 1, 1), (.goto 4, 0)] (pc' := 72) (L' := [(4, .int z0), (0, .ref 0), (1, .int a1), (2, .int a2), (3, .int a3)]) (S' := [.int 1]) (by decide +kernel) rfl ?_
      exact sm_sub [1, 2, 3, 4, 0] rfl (s_X11_led_j72 F C hr self4 ih4 a1 a2 a3 z0 1 τ14)
  · exact sm_sub [1, 2, 3, 4, 0] rfl (s_X11_led_j71 F C hr self4 ih4 a1 a2 a3 z0 τ10)
def X11_led_L4 (F : Nat) : Nat → Int32 → Int32 → Int32 → Tau → Option (Int32 × Tau)
  | 0, _, _, _, _ => none
  | n + 1, a1, a2, a3, τ =>
    if 3 ≤ a3 then (cal (X11_gets F 0 a1 a2 τ) fun r1 τ2 => some (r1, τ2)) else (cal (X11_gets F 1 a1 a3 τ) fun r3 τ4 => cal (X11_gets F 1 a1 a2 τ4) fun r5 τ6 => if r3 ≤ r5 then (X11_led_j31 F (X11_led_L4 F n) a1 a2 a3 0 τ6) else (X11_led_j31 F (X11_led_L4 F n) a1 a2 a3 1 τ6))
theorem s_X11_led_L4 (F : Nat) {K : Ctx} (C : Cx K sysM RX11 cX11_led 6 2) (hr : Rt K (some .int)) : ∀ (n : Nat) (a1 : Int32) (a2 : Int32) (a3 : Int32) (τ : Tau), Sm K sysM 6 (Qi K sysM) (X11_led_L4 F n a1 a2 a3 τ) 4 [(0, .ref 0), (1, .int a1), (2, .int a2), (3, .int a3)] [] τ := by
  intro n
  induction n with
  | zero => intro a1 a2 a3 τ; exact sm_none
  | succ n ih =>
    intro a1 a2 a3 τ
    rw [X11_led_L4]
    refine sm_seg C [(.iload_n 3, 0), (.iconst 3, 3)] (pc' := 6) (L' := [(0, .ref 0), (1, .int a1), (2, .int a2), (3, .int a3)]) (S' := [.int 3, .int a3]) (by decide +kernel) rfl ?_
    refine sm_icmpge 96 (off := 90) C (by decide +kernel) (by decide) (fun _ => ?_) (fun _ => ?_)
    · refine sm_seg C [(.aload_n 0, 0), (.iconst 0, 0), (.iload_n 1, 0), (.iload_n 2, 0)] (pc' := 100) (L' := [(0, .ref 0), (1, .int a1), (2, .int a2), (3, .int a3)]) (S' := [.int a2, .int a1, .int 0, .ref 0]) (by decide +kernel) rfl ?_
      refine sm_vcal [.int 0, .int a1, .int a2] [] rfl C mw_X11_gets ml_11_418 rfl (ci := 11) rfl (ltM (by decide +kernel : kdM 0 = 11) (by decide)) (by decide +kernel : kdM 0 = 11) (by decide) ⟨by decide, by decide⟩ (Nat.le_of_ble_eq_true rfl) (by decide +kernel) (c_X11_gets F 0 a1 a2 τ) (fun r1 τ2 => ?_)
      exact sm_iret C hr rfl (by decide +kernel)
    · refine sm_seg C [(.aload_n 0, 0), (.iconst 1, 1), (.iload_n 1, 0), (.iload_n 3, 0)] (pc' := 13) (L' := [(0, .ref 0), (1, .int a1), (2, .int a2), (3, .int a3)]) (S' := [.int a3, .int a1, .int 1, .ref 0]) (by decide +kernel) rfl ?_
      refine sm_vcal [.int 1, .int a1, .int a3] [] rfl C mw_X11_gets ml_11_418 rfl (ci := 11) rfl (ltM (by decide +kernel : kdM 0 = 11) (by decide)) (by decide +kernel : kdM 0 = 11) (by decide) ⟨by decide, by decide⟩ (Nat.le_of_ble_eq_true rfl) (by decide +kernel) (c_X11_gets F 1 a1 a3 τ) (fun r3 τ4 => ?_)
      refine sm_seg C [(.aload_n 0, 0), (.iconst 1, 1), (.iload_n 1, 0), (.iload_n 2, 0)] (pc' := 20) (L' := [(0, .ref 0), (1, .int a1), (2, .int a2), (3, .int a3)]) (S' := [.int a2, .int a1, .int 1, .ref 0, .int r3]) (by decide +kernel) rfl ?_
      refine sm_vcal [.int 1, .int a1, .int a2] [.int r3] rfl C mw_X11_gets ml_11_418 rfl (ci := 11) rfl (ltM (by decide +kernel : kdM 0 = 11) (by decide)) (by decide +kernel : kdM 0 = 11) (by decide) ⟨by decide, by decide⟩ (Nat.le_of_ble_eq_true rfl) (by decide +kernel) (c_X11_gets F 1 a1 a2 τ4) (fun r5 τ6 => ?_)
      refine sm_icmple 30 (off := 7) C (by decide +kernel) (by decide) (fun _ => ?_) (fun _ => ?_)
      · refine sm_seg C [(.iconst 0, 0)] (pc' := 31) (L' := [(0, .ref 0), (1, .int a1), (2, .int a2), (3, .int a3)]) (S' := [.int 0]) (by decide +kernel) rfl ?_
        exact sm_sub [0, 1, 2, 3] rfl (s_X11_led_j31 F C hr (X11_led_L4 F n) ih a1 a2 a3 0 τ6)
      · refine sm_seg C [(.iconst 1, 1), (.goto 4, 0)] (pc' := 31) (L' := [(0, .ref 0), (1, .int a1), (2, .int a2), (3, .int a3)]) (S' := [.int 1]) (by decide +kernel) rfl ?_
        exact sm_sub [0, 1, 2, 3] rfl (s_X11_led_j31 F C hr (X11_led_L4 F n) ih a1 a2 a3 1 τ6)
def X11_led (F : Nat) (a1 : Int32) (τ : Tau) : Option (Int32 × Tau) :=
  X11_led_L4 F F a1 0 1 τ
set_option maxRecDepth 20000 in
set_option maxHeartbeats 4000000 in
theorem c_X11_led (F : Nat) (a1 : Int32) (τ : Tau) (r : Int32) (τ' : Tau) (h : X11_led F a1 τ = some (r, τ')) : MCi sysM yX11_led cX11_led 6 (some .int) 2 [.ref 0, .int a1] τ r τ' :=
  mci_of (by decide +kernel) (Nat.le_of_ble_eq_true rfl) (fun K C hr => by
    show Sm K sysM 6 (Qi K sysM) (X11_led F a1 τ) 0 [(0, .ref 0), (1, .int a1)] [] τ
    unfold X11_led
    refine sm_seg C [(.iconst 0, 0), (.istore_n 2, 0), (.iconst 1, 1), (.istore_n 3, 0)] (pc' := 4) (L' := [(3, .int 1), (2, .int 0), (0, .ref 0), (1, .int a1)]) (S' := []) (by decide +kernel) rfl ?_
    exact sm_sub [2, 3, 1, 0] rfl (s_X11_led_L4 F C hr F a1 0 1 τ)) h
/-! BasketEnvoysModel.lies -/
def X11_lies (F : Nat) (a0 : Int32) (a1 : Int32) (a2 : Int32) (a3 : Int32) (τ : Tau) : Option (Int32 × Tau) :=
  some (((((512 * a3) + (64 * a0)) + (8 * a1)) + a2), τ)
set_option maxRecDepth 20000 in
set_option maxHeartbeats 4000000 in
theorem c_X11_lies (F : Nat) (a0 : Int32) (a1 : Int32) (a2 : Int32) (a3 : Int32) (τ : Tau) (r : Int32) (τ' : Tau) (h : X11_lies F a0 a1 a2 a3 τ = some (r, τ')) : MCi sysM yX11_lies cX11_lies 4 (some .int) 1 [.int a0, .int a1, .int a2, .int a3] τ r τ' :=
  mci_of (by decide +kernel) (Nat.le_of_ble_eq_true rfl) (fun K C hr => by
    show Sm K sysM 4 (Qi K sysM) (X11_lies F a0 a1 a2 a3 τ) 0 [(0, .int a0), (1, .int a1), (2, .int a2), (3, .int a3)] [] τ
    unfold X11_lies
    refine sm_seg C [(.sipush 512, 512), (.iload_n 3, 0), (.imul, 0), (.bipush 64, 64), (.iload_n 0, 0), (.imul, 0), (.iadd, 0), (.bipush 8, 8), (.iload_n 1, 0), (.imul, 0), (.iadd, 0), (.iload_n 2, 0), (.iadd, 0)] (pc' := 17) (L' := [(0, .int a0), (1, .int a1), (2, .int a2), (3, .int a3)]) (S' := [.int ((((512 * a3) + (64 * a0)) + (8 * a1)) + a2)]) (by decide +kernel) rfl ?_
    exact sm_iret C hr rfl (by decide +kernel)) h
/-! BasketEnvoysModel.lightestSaying -/
def X11_lightestSaying_j41 (F : Nat) (self7 : Int32 → Int32 → Int32 → Int32 → Tau → Option (Int32 × Tau)) (a1 : Int32) (a2 : Int32) (a3 : Int32) (a4 : Int32) (τ : Tau) : Option (Int32 × Tau) :=
  self7 a1 a2 a3 (a4 + 1) τ
theorem s_X11_lightestSaying_j41 (F : Nat) {K : Ctx} (C : Cx K sysM RX11 cX11_lightestSaying 5 2) (hr : Rt K (some .int)) (self7 : Int32 → Int32 → Int32 → Int32 → Tau → Option (Int32 × Tau)) (ih7 : ∀ (a1 : Int32) (a2 : Int32) (a3 : Int32) (a4 : Int32) (τ : Tau), Sm K sysM 5 (Qi K sysM) (self7 a1 a2 a3 a4 τ) 7 [(0, .ref 0), (1, .int a1), (2, .int a2), (3, .int a3), (4, .int a4)] [] τ) (a1 : Int32) (a2 : Int32) (a3 : Int32) (a4 : Int32) (τ : Tau) : Sm K sysM 5 (Qi K sysM) (X11_lightestSaying_j41 F self7 a1 a2 a3 a4 τ) 41 [(0, .ref 0), (1, .int a1), (2, .int a2), (3, .int a3), (4, .int a4)] [] τ := by
  unfold X11_lightestSaying_j41
  refine sm_seg C [(.iinc 4 1, 1), (.goto (-37), 0)] (pc' := 7) (L' := [(4, .int (a4 + 1)), (0, .ref 0), (1, .int a1), (2, .int a2), (3, .int a3)]) (S' := []) (by decide +kernel) rfl ?_
  exact sm_sub [1, 2, 3, 4, 0] rfl (ih7 a1 a2 a3 (a4 + 1) τ)
def X11_lightestSaying_L7 (F : Nat) : Nat → Int32 → Int32 → Int32 → Int32 → Tau → Option (Int32 × Tau)
  | 0, _, _, _, _, _ => none
  | n + 1, a1, a2, a3, a4, τ =>
    if 12 ≤ a4 then (some (a3, τ)) else (cal (X11_meaning F a1 a4 τ) fun r1 τ2 => if r1 = a2 then (ald τ2 1 2244 (524 + a4) fun v3 => cal (X11_lesser F a3 v3 τ2) fun r4 τ5 => X11_lightestSaying_j41 F (X11_lightestSaying_L7 F n) a1 a2 r4 a4 τ5) else (X11_lightestSaying_j41 F (X11_lightestSaying_L7 F n) a1 a2 a3 a4 τ2))
theorem s_X11_lightestSaying_L7 (F : Nat) {K : Ctx} (C : Cx K sysM RX11 cX11_lightestSaying 5 2) (hr : Rt K (some .int)) : ∀ (n : Nat) (a1 : Int32) (a2 : Int32) (a3 : Int32) (a4 : Int32) (τ : Tau), Sm K sysM 5 (Qi K sysM) (X11_lightestSaying_L7 F n a1 a2 a3 a4 τ) 7 [(0, .ref 0), (1, .int a1), (2, .int a2), (3, .int a3), (4, .int a4)] [] τ := by
  intro n
  induction n with
  | zero => intro a1 a2 a3 a4 τ; exact sm_none
  | succ n ih =>
    intro a1 a2 a3 a4 τ
    rw [X11_lightestSaying_L7]
    refine sm_seg C [(.iload 4, 0), (.bipush 12, 12)] (pc' := 11) (L' := [(0, .ref 0), (1, .int a1), (2, .int a2), (3, .int a3), (4, .int a4)]) (S' := [.int 12, .int a4]) (by decide +kernel) rfl ?_
    refine sm_icmpge 47 (off := 36) C (by decide +kernel) (by decide) (fun _ => ?_) (fun _ => ?_)
    · refine sm_seg C [(.iload_n 3, 0)] (pc' := 48) (L' := [(0, .ref 0), (1, .int a1), (2, .int a2), (3, .int a3), (4, .int a4)]) (S' := [.int a3]) (by decide +kernel) rfl ?_
      exact sm_iret C hr rfl (by decide +kernel)
    · refine sm_seg C [(.aload_n 0, 0), (.iload_n 1, 0), (.iload 4, 0)] (pc' := 18) (L' := [(0, .ref 0), (1, .int a1), (2, .int a2), (3, .int a3), (4, .int a4)]) (S' := [.int a4, .int a1, .ref 0]) (by decide +kernel) rfl ?_
      refine sm_vcal [.int a1, .int a4] [] rfl C mw_X11_meaning ml_11_309 rfl (ci := 11) rfl (ltM (by decide +kernel : kdM 0 = 11) (by decide)) (by decide +kernel : kdM 0 = 11) (by decide) ⟨by decide, by decide⟩ (Nat.le_of_ble_eq_true rfl) (by decide +kernel) (c_X11_meaning F a1 a4 τ) (fun r1 τ2 => ?_)
      refine sm_seg C [(.iload_n 2, 0)] (pc' := 22) (L' := [(0, .ref 0), (1, .int a1), (2, .int a2), (3, .int a3), (4, .int a4)]) (S' := [.int a2, .int r1]) (by decide +kernel) rfl ?_
      refine sm_icmpne 41 (off := 19) C (by decide +kernel) (by decide) (fun _ => ?_) (fun _ => ?_)
      · refine sm_seg C [(.iload_n 3, 0), (.aload_n 0, 0)] (pc' := 27) (L' := [(0, .ref 0), (1, .int a1), (2, .int a2), (3, .int a3), (4, .int a4)]) (S' := [.ref 0, .int a3]) (by decide +kernel) rfl ?_
        refine sm_getR 11 0 1 cls11 C (ltM (by decide +kernel : kdM 0 = 11) (by decide)) (by decide +kernel : kdM 0 = 11) (obM11 (by decide +kernel : kdM 0 = 11)) (by decide) (frM11_0 (by decide +kernel : kdM 0 = 11)) fl11_7 (by decide +kernel) ?_
        refine sm_seg C [(.sipush 524, 524), (.iload 4, 0), (.iadd, 0)] (pc' := 36) (L' := [(0, .ref 0), (1, .int a1), (2, .int a2), (3, .int a3), (4, .int a4)]) (S' := [.int (524 + a4), .ref 1, .int a3]) (by decide +kernel) rfl ?_
        refine sm_ald 2244 C (ltM (krM11_0 (by decide +kernel : kdM 0 = 11)) (by decide)) (krM11_0 (by decide +kernel : kdM 0 = 11)) (nrM11_0 (by decide +kernel : kdM 0 = 11)) (by decide +kernel) (fun v3 => ?_)
        refine sm_scal [.int a3, .int v3] [] rfl C mw_X11_lesser ml_11_303 rfl ⟨by decide, by decide⟩ (Nat.le_of_ble_eq_true rfl) (by decide +kernel) (c_X11_lesser F a3 v3 τ2) (fun r4 τ5 => ?_)
        refine sm_seg C [(.istore_n 3, 0)] (pc' := 41) (L' := [(3, .int r4), (0, .ref 0), (1, .int a1), (2, .int a2), (4, .int a4)]) (S' := []) (by decide +kernel) rfl ?_
        exact sm_sub [1, 2, 3, 0, 4] rfl (s_X11_lightestSaying_j41 F C hr (X11_lightestSaying_L7 F n) ih a1 a2 r4 a4 τ5)
      · exact sm_sub [0, 1, 2, 3, 4] rfl (s_X11_lightestSaying_j41 F C hr (X11_lightestSaying_L7 F n) ih a1 a2 a3 a4 τ2)
def X11_lightestSaying (F : Nat) (a1 : Int32) (a2 : Int32) (τ : Tau) : Option (Int32 × Tau) :=
  X11_lightestSaying_L7 F F a1 a2 100000000 0 τ
set_option maxRecDepth 20000 in
set_option maxHeartbeats 4000000 in
theorem c_X11_lightestSaying (F : Nat) (a1 : Int32) (a2 : Int32) (τ : Tau) (r : Int32) (τ' : Tau) (h : X11_lightestSaying F a1 a2 τ = some (r, τ')) : MCi sysM yX11_lightestSaying cX11_lightestSaying 5 (some .int) 2 [.ref 0, .int a1, .int a2] τ r τ' :=
  mci_of (by decide +kernel) (Nat.le_of_ble_eq_true rfl) (fun K C hr => by
    show Sm K sysM 5 (Qi K sysM) (X11_lightestSaying F a1 a2 τ) 0 [(0, .ref 0), (1, .int a1), (2, .int a2)] [] τ
    unfold X11_lightestSaying
    refine sm_ldcw C cn_11_397 (by decide +kernel) ?_
    refine sm_seg C [(.istore_n 3, 0), (.iconst 0, 0), (.istore 4, 0)] (pc' := 7) (L' := [(4, .int 0), (3, .int 100000000), (0, .ref 0), (1, .int a1), (2, .int a2)]) (S' := []) (by decide +kernel) rfl ?_
    exact sm_sub [2, 3, 4, 1, 0] rfl (s_X11_lightestSaying_L7 F C hr F a1 a2 100000000 0 τ)) h
/-! BasketEnvoysModel.lightest -/
def X11_lightest_L27 (F : Nat) : Nat → Int32 → Int32 → Int32 → Int64 → Int32 → Tau → Option (Int32 × Tau)
  | 0, _, _, _, _, _, _ => none
  | n + 1, a1, a2, a3, l4, a6, τ =>
    ald τ 1 2244 (445 + (7 * a1)) fun v5 => if v5 ≤ a6 then (if a2 = 1 then (some ((l4.toInt32), τ)) else (if a3 < 100000000 then (some (a3, τ)) else (some ((-1), τ)))) else (ald τ 1 2244 (((445 + (7 * a1)) + 1) + a6) fun v6 => cal (X11_lightestSaying F a1 v6 τ) fun r7 τ8 => cal (X11_lesser F 100000000 (a3 + r7) τ8) fun r9 τ10 => cal (X11_sayingSo F a1 v6 τ10) fun r11 τ12 => X11_lightest_L27 F n a1 a2 r9 (lrmd (l4 * ((r11).toInt64)) (1000000007 : Int64)) (a6 + 1) τ12)
theorem s_X11_lightest_L27 (F : Nat) {K : Ctx} (C : Cx K sysM RX11 cX11_lightest 8 3) (hr : Rt K (some .int)) : ∀ (n : Nat) (a1 : Int32) (a2 : Int32) (a3 : Int32) (l4 : Int64) (a6 : Int32) (τ : Tau), Sm K sysM 8 (Qi K sysM) (X11_lightest_L27 F n a1 a2 a3 l4 a6 τ) 27 [(0, .ref 0), (1, .int a1), (2, .int a2), (3, .int a3), (4, .long l4), (6, .int a6)] [] τ := by
  intro n
  induction n with
  | zero => intro a1 a2 a3 l4 a6 τ; exact sm_none
  | succ n ih =>
    intro a1 a2 a3 l4 a6 τ
    rw [X11_lightest_L27]
    refine sm_seg C [(.iload 6, 0), (.aload_n 0, 0)] (pc' := 30) (L' := [(0, .ref 0), (1, .int a1), (2, .int a2), (3, .int a3), (4, .long l4), (6, .int a6)]) (S' := [.ref 0, .int a6]) (by decide +kernel) rfl ?_
    refine sm_getR 11 0 1 cls11 C (ltM (by decide +kernel : kdM 0 = 11) (by decide)) (by decide +kernel : kdM 0 = 11) (obM11 (by decide +kernel : kdM 0 = 11)) (by decide) (frM11_0 (by decide +kernel : kdM 0 = 11)) fl11_7 (by decide +kernel) ?_
    refine sm_seg C [(.sipush 445, 445), (.bipush 7, 7), (.iload_n 1, 0), (.imul, 0), (.iadd, 0)] (pc' := 41) (L' := [(0, .ref 0), (1, .int a1), (2, .int a2), (3, .int a3), (4, .long l4), (6, .int a6)]) (S' := [.int (445 + (7 * a1)), .ref 1, .int a6]) (by decide +kernel) rfl ?_
    refine sm_ald 2244 C (ltM (krM11_0 (by decide +kernel : kdM 0 = 11)) (by decide)) (krM11_0 (by decide +kernel : kdM 0 = 11)) (nrM11_0 (by decide +kernel : kdM 0 = 11)) (by decide +kernel) (fun v5 => ?_)
    refine sm_icmpge 104 (off := 62) C (by decide +kernel) (by decide) (fun _ => ?_) (fun _ => ?_)
    · refine sm_seg C [(.iload_n 2, 0), (.iconst 1, 1)] (pc' := 106) (L' := [(0, .ref 0), (1, .int a1), (2, .int a2), (3, .int a3), (4, .long l4), (6, .int a6)]) (S' := [.int 1, .int a2]) (by decide +kernel) rfl ?_
      refine sm_icmpne 115 (off := 9) C (by decide +kernel) (by decide) (fun _ => ?_) (fun _ => ?_)
      · refine sm_seg C [(.lload 4, 0), (.l2i, 0), (.goto 15, 0)] (pc' := 127) (L' := [(0, .ref 0), (1, .int a1), (2, .int a2), (3, .int a3), (4, .long l4), (6, .int a6)]) (S' := [.int (l4.toInt32)]) (by decide +kernel) rfl ?_
        exact sm_iret C hr rfl (by decide +kernel)
      · refine sm_seg C [(.iload_n 3, 0)] (pc' := 116) (L' := [(0, .ref 0), (1, .int a1), (2, .int a2), (3, .int a3), (4, .long l4), (6, .int a6)]) (S' := [.int a3]) (by decide +kernel) rfl ?_
        refine sm_ldcw C cn_11_397 (by decide +kernel) ?_
        refine sm_icmplt 126 (off := 7) C (by decide +kernel) (by decide) (fun _ => ?_) (fun _ => ?_)
        · refine sm_seg C [(.iload_n 3, 0)] (pc' := 127) (L' := [(0, .ref 0), (1, .int a1), (2, .int a2), (3, .int a3), (4, .long l4), (6, .int a6)]) (S' := [.int a3]) (by decide +kernel) rfl ?_
          exact sm_iret C hr rfl (by decide +kernel)
        · refine sm_seg C [(.iconst (-1), (-1)), (.goto 4, 0)] (pc' := 127) (L' := [(0, .ref 0), (1, .int a1), (2, .int a2), (3, .int a3), (4, .long l4), (6, .int a6)]) (S' := [.int (-1)]) (by decide +kernel) rfl ?_
          exact sm_iret C hr rfl (by decide +kernel)
    · refine sm_seg C [(.aload_n 0, 0)] (pc' := 46) (L' := [(0, .ref 0), (1, .int a1), (2, .int a2), (3, .int a3), (4, .long l4), (6, .int a6)]) (S' := [.ref 0]) (by decide +kernel) rfl ?_
      refine sm_getR 11 0 1 cls11 C (ltM (by decide +kernel : kdM 0 = 11) (by decide)) (by decide +kernel : kdM 0 = 11) (obM11 (by decide +kernel : kdM 0 = 11)) (by decide) (frM11_0 (by decide +kernel : kdM 0 = 11)) fl11_7 (by decide +kernel) ?_
      refine sm_seg C [(.sipush 445, 445), (.bipush 7, 7), (.iload_n 1, 0), (.imul, 0), (.iadd, 0), (.iconst 1, 1), (.iadd, 0), (.iload 6, 0), (.iadd, 0)] (pc' := 62) (L' := [(0, .ref 0), (1, .int a1), (2, .int a2), (3, .int a3), (4, .long l4), (6, .int a6)]) (S' := [.int (((445 + (7 * a1)) + 1) + a6), .ref 1]) (by decide +kernel) rfl ?_
      refine sm_ald 2244 C (ltM (krM11_0 (by decide +kernel : kdM 0 = 11)) (by decide)) (krM11_0 (by decide +kernel : kdM 0 = 11)) (nrM11_0 (by decide +kernel : kdM 0 = 11)) (by decide +kernel) (fun v6 => ?_)
      refine sm_seg C [(.istore 7, 0)] (pc' := 65) (L' := [(7, .int v6), (0, .ref 0), (1, .int a1), (2, .int a2), (3, .int a3), (4, .long l4), (6, .int a6)]) (S' := []) (by decide +kernel) rfl ?_
      refine sm_ldcw C cn_11_397 (by decide +kernel) ?_
      refine sm_seg C [(.iload_n 3, 0), (.aload_n 0, 0), (.iload_n 1, 0), (.iload 7, 0)] (pc' := 73) (L' := [(7, .int v6), (0, .ref 0), (1, .int a1), (2, .int a2), (3, .int a3), (4, .long l4), (6, .int a6)]) (S' := [.int v6, .int a1, .ref 0, .int a3, .int 100000000]) (by decide +kernel) rfl ?_
      refine sm_vcal [.int a1, .int v6] [.int a3, .int 100000000] rfl C mw_X11_lightestSaying ml_11_398 rfl (ci := 11) rfl (ltM (by decide +kernel : kdM 0 = 11) (by decide)) (by decide +kernel : kdM 0 = 11) (by decide) ⟨by decide, by decide⟩ (Nat.le_of_ble_eq_true rfl) (by decide +kernel) (c_X11_lightestSaying F a1 v6 τ) (fun r7 τ8 => ?_)
      refine sm_seg C [(.iadd, 0)] (pc' := 77) (L' := [(7, .int v6), (0, .ref 0), (1, .int a1), (2, .int a2), (3, .int a3), (4, .long l4), (6, .int a6)]) (S' := [.int (a3 + r7), .int 100000000]) (by decide +kernel) rfl ?_
      refine sm_scal [.int 100000000, .int (a3 + r7)] [] rfl C mw_X11_lesser ml_11_303 rfl ⟨by decide, by decide⟩ (Nat.le_of_ble_eq_true rfl) (by decide +kernel) (c_X11_lesser F 100000000 (a3 + r7) τ8) (fun r9 τ10 => ?_)
      refine sm_seg C [(.istore_n 3, 0), (.lload 4, 0), (.aload_n 0, 0), (.iload_n 1, 0), (.iload 7, 0)] (pc' := 87) (L' := [(3, .int r9), (7, .int v6), (0, .ref 0), (1, .int a1), (2, .int a2), (4, .long l4), (6, .int a6)]) (S' := [.int v6, .int a1, .ref 0, .long l4]) (by decide +kernel) rfl ?_
      refine sm_vcal [.int a1, .int v6] [.long l4] rfl C mw_X11_sayingSo ml_11_401 rfl (ci := 11) rfl (ltM (by decide +kernel : kdM 0 = 11) (by decide)) (by decide +kernel : kdM 0 = 11) (by decide) ⟨by decide, by decide⟩ (Nat.le_of_ble_eq_true rfl) (by decide +kernel) (c_X11_sayingSo F a1 v6 τ10) (fun r11 τ12 => ?_)
      refine sm_seg C [(.i2l, 0), (.lmul, 0)] (pc' := 92) (L' := [(3, .int r9), (7, .int v6), (0, .ref 0), (1, .int a1), (2, .int a2), (4, .long l4), (6, .int a6)]) (S' := [.long (l4 * ((r11).toInt64))]) (by decide +kernel) rfl ?_
      refine sm_ldc2 C cn_11_404 (by decide +kernel) ?_
      refine sm_lrem C (by decide +kernel) (by decide) ?_
      refine sm_seg C [(.lstore 4, 0), (.iinc 6 1, 1), (.goto (-74), 0)] (pc' := 27) (L' := [(6, .int (a6 + 1)), (4, .long (lrmd (l4 * ((r11).toInt64)) (1000000007 : Int64))), (3, .int r9), (7, .int v6), (0, .ref 0), (1, .int a1), (2, .int a2)]) (S' := []) (by decide +kernel) rfl ?_
      exact sm_sub [4, 5, 6, 2, 1, 0] rfl (ih a1 a2 r9 (lrmd (l4 * ((r11).toInt64)) (1000000007 : Int64)) (a6 + 1) τ12)
def X11_lightest (F : Nat) (a1 : Int32) (a2 : Int32) (τ : Tau) : Option (Int32 × Tau) :=
  cal (X11_isPower F a1 τ) fun r1 τ2 => if r1 = 0 then (some ((-1), τ2)) else (cal (X11_isIn F a2 0 1 τ2) fun r3 τ4 => if r3 = 0 then (some ((-1), τ4)) else (X11_lightest_L27 F F a1 a2 0 (1 : Int64) 0 τ4))
set_option maxRecDepth 20000 in
set_option maxHeartbeats 4000000 in
theorem c_X11_lightest (F : Nat) (a1 : Int32) (a2 : Int32) (τ : Tau) (r : Int32) (τ' : Tau) (h : X11_lightest F a1 a2 τ = some (r, τ')) : MCi sysM yX11_lightest cX11_lightest 8 (some .int) 3 [.ref 0, .int a1, .int a2] τ r τ' :=
  mci_of (by decide +kernel) (Nat.le_of_ble_eq_true rfl) (fun K C hr => by
    show Sm K sysM 8 (Qi K sysM) (X11_lightest F a1 a2 τ) 0 [(0, .ref 0), (1, .int a1), (2, .int a2)] [] τ
    unfold X11_lightest
    refine sm_seg C [(.aload_n 0, 0), (.iload_n 1, 0)] (pc' := 2) (L' := [(0, .ref 0), (1, .int a1), (2, .int a2)]) (S' := [.int a1, .ref 0]) (by decide +kernel) rfl ?_
    refine sm_vcal [.int a1] [] rfl C mw_X11_isPower ml_11_90 rfl (ci := 11) rfl (ltM (by decide +kernel : kdM 0 = 11) (by decide)) (by decide +kernel : kdM 0 = 11) (by decide) ⟨by decide, by decide⟩ (Nat.le_of_ble_eq_true rfl) (by decide +kernel) (c_X11_isPower F a1 τ) (fun r1 τ2 => ?_)
    refine sm_ifeq 17 (off := 12) C (by decide +kernel) (by decide) (fun _ => ?_) (fun _ => ?_)
    · refine sm_seg C [(.iconst (-1), (-1))] (pc' := 18) (L' := [(0, .ref 0), (1, .int a1), (2, .int a2)]) (S' := [.int (-1)]) (by decide +kernel) rfl ?_
      exact sm_iret C hr rfl (by decide +kernel)
    · refine sm_seg C [(.iload_n 2, 0), (.iconst 0, 0), (.iconst 1, 1)] (pc' := 11) (L' := [(0, .ref 0), (1, .int a1), (2, .int a2)]) (S' := [.int 1, .int 0, .int a2]) (by decide +kernel) rfl ?_
      refine sm_scal [.int a2, .int 0, .int 1] [] rfl C mw_X11_isIn ml_11_78 rfl ⟨by decide, by decide⟩ (Nat.le_of_ble_eq_true rfl) (by decide +kernel) (c_X11_isIn F a2 0 1 τ2) (fun r3 τ4 => ?_)
      refine sm_ifne 19 (off := 5) C (by decide +kernel) (by decide) (fun _ => ?_) (fun _ => ?_)
      · refine sm_seg C [(.iconst (-1), (-1))] (pc' := 18) (L' := [(0, .ref 0), (1, .int a1), (2, .int a2)]) (S' := [.int (-1)]) (by decide +kernel) rfl ?_
        exact sm_iret C hr rfl (by decide +kernel)
      · refine sm_seg C [(.iconst 0, 0), (.istore_n 3, 0), (.lconst 1, 0), (.lstore 4, 0), (.iconst 0, 0), (.istore 6, 0)] (pc' := 27) (L' := [(6, .int 0), (4, .long (1 : Int64)), (3, .int 0), (0, .ref 0), (1, .int a1), (2, .int a2)]) (S' := []) (by decide +kernel) rfl ?_
        exact sm_sub [3, 4, 5, 2, 1, 0] rfl (s_X11_lightest_L27 F C hr F a1 a2 0 (1 : Int64) 0 τ4)) h
/-! BasketEnvoysModel.load -/
def X11_load (F : Nat) (a1 : Int32) (a2 : Int32) (τ : Tau) : Option (Int32 × Tau) :=
  if a1 = (-1) then (cal (X11_endsRow F 608 τ) fun r1 τ2 => some (r1, τ2)) else (cal (X11_isIn F a1 1 30 τ) fun r3 τ4 => if r3 = 0 then (some ((-1), τ4)) else (cal (X11_isIn F a2 0 99 τ4) fun r5 τ6 => if r5 = 0 then (some ((-1), τ6)) else (ald τ6 1 2244 608 fun v7 => if v7 = 10 then (some ((-1), τ6)) else (ald τ6 1 2244 608 fun v8 => ast τ6 1 2244 (609 + (2 * v8)) a1 fun τ9 => ald τ9 1 2244 608 fun v10 => ast τ9 1 2244 (610 + (2 * v10)) a2 fun τ11 => ald τ11 1 2244 608 fun v12 => ast τ11 1 2244 608 (v12 + 1) fun τ13 => ald τ13 1 2244 608 fun v14 => some (v14, τ13)))))
set_option maxRecDepth 20000 in
set_option maxHeartbeats 4000000 in
theorem c_X11_load (F : Nat) (a1 : Int32) (a2 : Int32) (τ : Tau) (r : Int32) (τ' : Tau) (h : X11_load F a1 a2 τ = some (r, τ')) : MCi sysM yX11_load cX11_load 3 (some .int) 2 [.ref 0, .int a1, .int a2] τ r τ' :=
  mci_of (by decide +kernel) (Nat.le_of_ble_eq_true rfl) (fun K C hr => by
    show Sm K sysM 3 (Qi K sysM) (X11_load F a1 a2 τ) 0 [(0, .ref 0), (1, .int a1), (2, .int a2)] [] τ
    unfold X11_load
    refine sm_seg C [(.iload_n 1, 0), (.iconst (-1), (-1))] (pc' := 2) (L' := [(0, .ref 0), (1, .int a1), (2, .int a2)]) (S' := [.int (-1), .int a1]) (by decide +kernel) rfl ?_
    refine sm_icmpne 13 (off := 11) C (by decide +kernel) (by decide) (fun _ => ?_) (fun _ => ?_)
    · refine sm_seg C [(.aload_n 0, 0), (.sipush 608, 608)] (pc' := 9) (L' := [(0, .ref 0), (1, .int a1), (2, .int a2)]) (S' := [.int 608, .ref 0]) (by decide +kernel) rfl ?_
      refine sm_vcal [.int 608] [] rfl C mw_X11_endsRow ml_11_388 rfl (ci := 11) rfl (ltM (by decide +kernel : kdM 0 = 11) (by decide)) (by decide +kernel : kdM 0 = 11) (by decide) ⟨by decide, by decide⟩ (Nat.le_of_ble_eq_true rfl) (by decide +kernel) (c_X11_endsRow F 608 τ) (fun r1 τ2 => ?_)
      exact sm_iret C hr rfl (by decide +kernel)
    · refine sm_seg C [(.iload_n 1, 0), (.iconst 1, 1), (.bipush 30, 30)] (pc' := 17) (L' := [(0, .ref 0), (1, .int a1), (2, .int a2)]) (S' := [.int 30, .int 1, .int a1]) (by decide +kernel) rfl ?_
      refine sm_scal [.int a1, .int 1, .int 30] [] rfl C mw_X11_isIn ml_11_78 rfl ⟨by decide, by decide⟩ (Nat.le_of_ble_eq_true rfl) (by decide +kernel) (c_X11_isIn F a1 1 30 τ) (fun r3 τ4 => ?_)
      refine sm_ifeq 46 (off := 26) C (by decide +kernel) (by decide) (fun _ => ?_) (fun _ => ?_)
      · refine sm_seg C [(.iconst (-1), (-1))] (pc' := 47) (L' := [(0, .ref 0), (1, .int a1), (2, .int a2)]) (S' := [.int (-1)]) (by decide +kernel) rfl ?_
        exact sm_iret C hr rfl (by decide +kernel)
      · refine sm_seg C [(.iload_n 2, 0), (.iconst 0, 0), (.bipush 99, 99)] (pc' := 27) (L' := [(0, .ref 0), (1, .int a1), (2, .int a2)]) (S' := [.int 99, .int 0, .int a2]) (by decide +kernel) rfl ?_
        refine sm_scal [.int a2, .int 0, .int 99] [] rfl C mw_X11_isIn ml_11_78 rfl ⟨by decide, by decide⟩ (Nat.le_of_ble_eq_true rfl) (by decide +kernel) (c_X11_isIn F a2 0 99 τ4) (fun r5 τ6 => ?_)
        refine sm_ifeq 46 (off := 16) C (by decide +kernel) (by decide) (fun _ => ?_) (fun _ => ?_)
        · refine sm_seg C [(.iconst (-1), (-1))] (pc' := 47) (L' := [(0, .ref 0), (1, .int a1), (2, .int a2)]) (S' := [.int (-1)]) (by decide +kernel) rfl ?_
          exact sm_iret C hr rfl (by decide +kernel)
        · refine sm_seg C [(.aload_n 0, 0)] (pc' := 34) (L' := [(0, .ref 0), (1, .int a1), (2, .int a2)]) (S' := [.ref 0]) (by decide +kernel) rfl ?_
          refine sm_getR 11 0 1 cls11 C (ltM (by decide +kernel : kdM 0 = 11) (by decide)) (by decide +kernel : kdM 0 = 11) (obM11 (by decide +kernel : kdM 0 = 11)) (by decide) (frM11_0 (by decide +kernel : kdM 0 = 11)) fl11_7 (by decide +kernel) ?_
          refine sm_seg C [(.sipush 608, 608)] (pc' := 40) (L' := [(0, .ref 0), (1, .int a1), (2, .int a2)]) (S' := [.int 608, .ref 1]) (by decide +kernel) rfl ?_
          refine sm_ald 2244 C (ltM (krM11_0 (by decide +kernel : kdM 0 = 11)) (by decide)) (krM11_0 (by decide +kernel : kdM 0 = 11)) (nrM11_0 (by decide +kernel : kdM 0 = 11)) (by decide +kernel) (fun v7 => ?_)
          refine sm_seg C [(.bipush 10, 10)] (pc' := 43) (L' := [(0, .ref 0), (1, .int a1), (2, .int a2)]) (S' := [.int 10, .int v7]) (by decide +kernel) rfl ?_
          refine sm_icmpne 48 (off := 5) C (by decide +kernel) (by decide) (fun _ => ?_) (fun _ => ?_)
          · refine sm_seg C [(.iconst (-1), (-1))] (pc' := 47) (L' := [(0, .ref 0), (1, .int a1), (2, .int a2)]) (S' := [.int (-1)]) (by decide +kernel) rfl ?_
            exact sm_iret C hr rfl (by decide +kernel)
          · refine sm_seg C [(.aload_n 0, 0)] (pc' := 49) (L' := [(0, .ref 0), (1, .int a1), (2, .int a2)]) (S' := [.ref 0]) (by decide +kernel) rfl ?_
            refine sm_getR 11 0 1 cls11 C (ltM (by decide +kernel : kdM 0 = 11) (by decide)) (by decide +kernel : kdM 0 = 11) (obM11 (by decide +kernel : kdM 0 = 11)) (by decide) (frM11_0 (by decide +kernel : kdM 0 = 11)) fl11_7 (by decide +kernel) ?_
            refine sm_seg C [(.sipush 609, 609), (.iconst 2, 2), (.aload_n 0, 0)] (pc' := 57) (L' := [(0, .ref 0), (1, .int a1), (2, .int a2)]) (S' := [.ref 0, .int 2, .int 609, .ref 1]) (by decide +kernel) rfl ?_
            refine sm_getR 11 0 1 cls11 C (ltM (by decide +kernel : kdM 0 = 11) (by decide)) (by decide +kernel : kdM 0 = 11) (obM11 (by decide +kernel : kdM 0 = 11)) (by decide) (frM11_0 (by decide +kernel : kdM 0 = 11)) fl11_7 (by decide +kernel) ?_
            refine sm_seg C [(.sipush 608, 608)] (pc' := 63) (L' := [(0, .ref 0), (1, .int a1), (2, .int a2)]) (S' := [.int 608, .ref 1, .int 2, .int 609, .ref 1]) (by decide +kernel) rfl ?_
            refine sm_ald 2244 C (ltM (krM11_0 (by decide +kernel : kdM 0 = 11)) (by decide)) (krM11_0 (by decide +kernel : kdM 0 = 11)) (nrM11_0 (by decide +kernel : kdM 0 = 11)) (by decide +kernel) (fun v8 => ?_)
            refine sm_seg C [(.imul, 0), (.iadd, 0), (.iload_n 1, 0)] (pc' := 67) (L' := [(0, .ref 0), (1, .int a1), (2, .int a2)]) (S' := [.int a1, .int (609 + (2 * v8)), .ref 1]) (by decide +kernel) rfl ?_
            refine sm_ast 2244 C (ltM (krM11_0 (by decide +kernel : kdM 0 = 11)) (by decide)) (krM11_0 (by decide +kernel : kdM 0 = 11)) (nrM11_0 (by decide +kernel : kdM 0 = 11)) (by decide +kernel) (fun τ9 => ?_)
            refine sm_seg C [(.aload_n 0, 0)] (pc' := 69) (L' := [(0, .ref 0), (1, .int a1), (2, .int a2)]) (S' := [.ref 0]) (by decide +kernel) rfl ?_
            refine sm_getR 11 0 1 cls11 C (ltM (by decide +kernel : kdM 0 = 11) (by decide)) (by decide +kernel : kdM 0 = 11) (obM11 (by decide +kernel : kdM 0 = 11)) (by decide) (frM11_0 (by decide +kernel : kdM 0 = 11)) fl11_7 (by decide +kernel) ?_
            refine sm_seg C [(.sipush 610, 610), (.iconst 2, 2), (.aload_n 0, 0)] (pc' := 77) (L' := [(0, .ref 0), (1, .int a1), (2, .int a2)]) (S' := [.ref 0, .int 2, .int 610, .ref 1]) (by decide +kernel) rfl ?_
            refine sm_getR 11 0 1 cls11 C (ltM (by decide +kernel : kdM 0 = 11) (by decide)) (by decide +kernel : kdM 0 = 11) (obM11 (by decide +kernel : kdM 0 = 11)) (by decide) (frM11_0 (by decide +kernel : kdM 0 = 11)) fl11_7 (by decide +kernel) ?_
            refine sm_seg C [(.sipush 608, 608)] (pc' := 83) (L' := [(0, .ref 0), (1, .int a1), (2, .int a2)]) (S' := [.int 608, .ref 1, .int 2, .int 610, .ref 1]) (by decide +kernel) rfl ?_
            refine sm_ald 2244 C (ltM (krM11_0 (by decide +kernel : kdM 0 = 11)) (by decide)) (krM11_0 (by decide +kernel : kdM 0 = 11)) (nrM11_0 (by decide +kernel : kdM 0 = 11)) (by decide +kernel) (fun v10 => ?_)
            refine sm_seg C [(.imul, 0), (.iadd, 0), (.iload_n 2, 0)] (pc' := 87) (L' := [(0, .ref 0), (1, .int a1), (2, .int a2)]) (S' := [.int a2, .int (610 + (2 * v10)), .ref 1]) (by decide +kernel) rfl ?_
            refine sm_ast 2244 C (ltM (krM11_0 (by decide +kernel : kdM 0 = 11)) (by decide)) (krM11_0 (by decide +kernel : kdM 0 = 11)) (nrM11_0 (by decide +kernel : kdM 0 = 11)) (by decide +kernel) (fun τ11 => ?_)
            refine sm_seg C [(.aload_n 0, 0)] (pc' := 89) (L' := [(0, .ref 0), (1, .int a1), (2, .int a2)]) (S' := [.ref 0]) (by decide +kernel) rfl ?_
            refine sm_getR 11 0 1 cls11 C (ltM (by decide +kernel : kdM 0 = 11) (by decide)) (by decide +kernel : kdM 0 = 11) (obM11 (by decide +kernel : kdM 0 = 11)) (by decide) (frM11_0 (by decide +kernel : kdM 0 = 11)) fl11_7 (by decide +kernel) ?_
            refine sm_seg C [(.sipush 608, 608), (.dup2, 0)] (pc' := 96) (L' := [(0, .ref 0), (1, .int a1), (2, .int a2)]) (S' := [.int 608, .ref 1, .int 608, .ref 1]) (by decide +kernel) rfl ?_
            refine sm_ald 2244 C (ltM (krM11_0 (by decide +kernel : kdM 0 = 11)) (by decide)) (krM11_0 (by decide +kernel : kdM 0 = 11)) (nrM11_0 (by decide +kernel : kdM 0 = 11)) (by decide +kernel) (fun v12 => ?_)
            refine sm_seg C [(.iconst 1, 1), (.iadd, 0)] (pc' := 99) (L' := [(0, .ref 0), (1, .int a1), (2, .int a2)]) (S' := [.int (v12 + 1), .int 608, .ref 1]) (by decide +kernel) rfl ?_
            refine sm_ast 2244 C (ltM (krM11_0 (by decide +kernel : kdM 0 = 11)) (by decide)) (krM11_0 (by decide +kernel : kdM 0 = 11)) (nrM11_0 (by decide +kernel : kdM 0 = 11)) (by decide +kernel) (fun τ13 => ?_)
            refine sm_seg C [(.aload_n 0, 0)] (pc' := 101) (L' := [(0, .ref 0), (1, .int a1), (2, .int a2)]) (S' := [.ref 0]) (by decide +kernel) rfl ?_
            refine sm_getR 11 0 1 cls11 C (ltM (by decide +kernel : kdM 0 = 11) (by decide)) (by decide +kernel : kdM 0 = 11) (obM11 (by decide +kernel : kdM 0 = 11)) (by decide) (frM11_0 (by decide +kernel : kdM 0 = 11)) fl11_7 (by decide +kernel) ?_
            refine sm_seg C [(.sipush 608, 608)] (pc' := 107) (L' := [(0, .ref 0), (1, .int a1), (2, .int a2)]) (S' := [.int 608, .ref 1]) (by decide +kernel) rfl ?_
            refine sm_ald 2244 C (ltM (krM11_0 (by decide +kernel : kdM 0 = 11)) (by decide)) (krM11_0 (by decide +kernel : kdM 0 = 11)) (nrM11_0 (by decide +kernel : kdM 0 = 11)) (by decide +kernel) (fun v14 => ?_)
            exact sm_iret C hr rfl (by decide +kernel)) h
/-! BasketEnvoysModel.those -/
def X11_those_j57 (F : Nat) (self4 : Int32 → Int32 → Int32 → Tau → Option (Int32 × Tau)) (a1 : Int32) (a3 : Int32) (z0 : Int32) (z1 : Int32) (τ : Tau) : Option (Int32 × Tau) :=
  self4 a1 (z1 ||| z0) (a3 + 1) τ
theorem s_X11_those_j57 (F : Nat) {K : Ctx} (C : Cx K sysM RX11 cX11_those 4 1) (hr : Rt K (some .int)) (self4 : Int32 → Int32 → Int32 → Tau → Option (Int32 × Tau)) (ih4 : ∀ (a1 : Int32) (a2 : Int32) (a3 : Int32) (τ : Tau), Sm K sysM 4 (Qi K sysM) (self4 a1 a2 a3 τ) 4 [(0, .ref 0), (1, .int a1), (2, .int a2), (3, .int a3)] [] τ) (a1 : Int32) (a3 : Int32) (z0 : Int32) (z1 : Int32) (τ : Tau) : Sm K sysM 4 (Qi K sysM) (X11_those_j57 F self4 a1 a3 z0 z1 τ) 57 [(0, .ref 0), (1, .int a1), (3, .int a3)] [.int z0, .int z1] τ := by
  unfold X11_those_j57
  refine sm_seg C [(.ior, 0), (.istore_n 2, 0), (.iinc 3 1, 1), (.goto (-58), 0)] (pc' := 4) (L' := [(3, .int (a3 + 1)), (2, .int (z1 ||| z0)), (0, .ref 0), (1, .int a1)]) (S' := []) (by decide +kernel) rfl ?_
  exact sm_sub [2, 3, 1, 0] rfl (ih4 a1 (z1 ||| z0) (a3 + 1) τ)
def X11_those_j56 (F : Nat) (self4 : Int32 → Int32 → Int32 → Tau → Option (Int32 × Tau)) (a1 : Int32) (a3 : Int32) (z0 : Int32) (τ : Tau) : Option (Int32 × Tau) :=
  X11_those_j57 F self4 a1 a3 0 z0 τ
theorem s_X11_those_j56 (F : Nat) {K : Ctx} (C : Cx K sysM RX11 cX11_those 4 1) (hr : Rt K (some .int)) (self4 : Int32 → Int32 → Int32 → Tau → Option (Int32 × Tau)) (ih4 : ∀ (a1 : Int32) (a2 : Int32) (a3 : Int32) (τ : Tau), Sm K sysM 4 (Qi K sysM) (self4 a1 a2 a3 τ) 4 [(0, .ref 0), (1, .int a1), (2, .int a2), (3, .int a3)] [] τ) (a1 : Int32) (a3 : Int32) (z0 : Int32) (τ : Tau) : Sm K sysM 4 (Qi K sysM) (X11_those_j56 F self4 a1 a3 z0 τ) 56 [(0, .ref 0), (1, .int a1), (3, .int a3)] [.int z0] τ := by
  unfold X11_those_j56
  refine sm_seg C [(.iconst 0, 0)] (pc' := 57) (L' := [(0, .ref 0), (1, .int a1), (3, .int a3)]) (S' := [.int 0, .int z0]) (by decide +kernel) rfl ?_
  exact sm_sub [0, 1, 2] rfl (s_X11_those_j57 F C hr self4 ih4 a1 a3 0 z0 τ)
def X11_those_j50 (F : Nat) (self4 : Int32 → Int32 → Int32 → Tau → Option (Int32 × Tau)) (a1 : Int32) (a3 : Int32) (z0 : Int32) (τ : Tau) : Option (Int32 × Tau) :=
  X11_those_j57 F self4 a1 a3 (shl 1 a3) z0 τ
theorem s_X11_those_j50 (F : Nat) {K : Ctx} (C : Cx K sysM RX11 cX11_those 4 1) (hr : Rt K (some .int)) (self4 : Int32 → Int32 → Int32 → Tau → Option (Int32 × Tau)) (ih4 : ∀ (a1 : Int32) (a2 : Int32) (a3 : Int32) (τ : Tau), Sm K sysM 4 (Qi K sysM) (self4 a1 a2 a3 τ) 4 [(0, .ref 0), (1, .int a1), (2, .int a2), (3, .int a3)] [] τ) (a1 : Int32) (a3 : Int32) (z0 : Int32) (τ : Tau) : Sm K sysM 4 (Qi K sysM) (X11_those_j50 F self4 a1 a3 z0 τ) 50 [(0, .ref 0), (1, .int a1), (3, .int a3)] [.int z0] τ := by
  unfold X11_those_j50
  refine sm_seg C [(.iconst 1, 1), (.iload_n 3, 0), (.ishl, 0), (.goto 4, 0)] (pc' := 57) (L' := [(0, .ref 0), (1, .int a1), (3, .int a3)]) (S' := [.int (shl 1 a3), .int z0]) (by decide +kernel) rfl ?_
  exact sm_sub [0, 1, 2] rfl (s_X11_those_j57 F C hr self4 ih4 a1 a3 (shl 1 a3) z0 τ)
def X11_those_L4 (F : Nat) : Nat → Int32 → Int32 → Int32 → Tau → Option (Int32 × Tau)
  | 0, _, _, _, _ => none
  | n + 1, a1, a2, a3, τ =>
    ald τ 1 2244 256 fun v1 => if v1 ≤ a3 then (some (a2, τ)) else (if a1 = 0 then (ald τ 1 2244 (87 + a3) fun v2 => if v2 = (-1) then (X11_those_j56 F (X11_those_L4 F n) a1 a3 a2 τ) else (X11_those_j50 F (X11_those_L4 F n) a1 a3 a2 τ)) else (ald τ 1 2244 (101 + a3) fun v3 => if v3 = 1 then (X11_those_j50 F (X11_those_L4 F n) a1 a3 a2 τ) else (X11_those_j56 F (X11_those_L4 F n) a1 a3 a2 τ)))
theorem s_X11_those_L4 (F : Nat) {K : Ctx} (C : Cx K sysM RX11 cX11_those 4 1) (hr : Rt K (some .int)) : ∀ (n : Nat) (a1 : Int32) (a2 : Int32) (a3 : Int32) (τ : Tau), Sm K sysM 4 (Qi K sysM) (X11_those_L4 F n a1 a2 a3 τ) 4 [(0, .ref 0), (1, .int a1), (2, .int a2), (3, .int a3)] [] τ := by
  intro n
  induction n with
  | zero => intro a1 a2 a3 τ; exact sm_none
  | succ n ih =>
    intro a1 a2 a3 τ
    rw [X11_those_L4]
    refine sm_seg C [(.iload_n 3, 0), (.aload_n 0, 0)] (pc' := 6) (L' := [(0, .ref 0), (1, .int a1), (2, .int a2), (3, .int a3)]) (S' := [.ref 0, .int a3]) (by decide +kernel) rfl ?_
    refine sm_getR 11 0 1 cls11 C (ltM (by decide +kernel : kdM 0 = 11) (by decide)) (by decide +kernel : kdM 0 = 11) (obM11 (by decide +kernel : kdM 0 = 11)) (by decide) (frM11_0 (by decide +kernel : kdM 0 = 11)) fl11_7 (by decide +kernel) ?_
    refine sm_seg C [(.sipush 256, 256)] (pc' := 12) (L' := [(0, .ref 0), (1, .int a1), (2, .int a2), (3, .int a3)]) (S' := [.int 256, .ref 1, .int a3]) (by decide +kernel) rfl ?_
    refine sm_ald 2244 C (ltM (krM11_0 (by decide +kernel : kdM 0 = 11)) (by decide)) (krM11_0 (by decide +kernel : kdM 0 = 11)) (nrM11_0 (by decide +kernel : kdM 0 = 11)) (by decide +kernel) (fun v1 => ?_)
    refine sm_icmpge 65 (off := 52) C (by decide +kernel) (by decide) (fun _ => ?_) (fun _ => ?_)
    · refine sm_seg C [(.iload_n 2, 0)] (pc' := 66) (L' := [(0, .ref 0), (1, .int a1), (2, .int a2), (3, .int a3)]) (S' := [.int a2]) (by decide +kernel) rfl ?_
      exact sm_iret C hr rfl (by decide +kernel)
    · refine sm_seg C [(.iload_n 2, 0), (.iload_n 1, 0)] (pc' := 18) (L' := [(0, .ref 0), (1, .int a1), (2, .int a2), (3, .int a3)]) (S' := [.int a1, .int a2]) (by decide +kernel) rfl ?_
      refine sm_ifeq 37 (off := 19) C (by decide +kernel) (by decide) (fun _ => ?_) (fun _ => ?_)
      · refine sm_seg C [(.aload_n 0, 0)] (pc' := 38) (L' := [(0, .ref 0), (1, .int a1), (2, .int a2), (3, .int a3)]) (S' := [.ref 0, .int a2]) (by decide +kernel) rfl ?_
        refine sm_getR 11 0 1 cls11 C (ltM (by decide +kernel : kdM 0 = 11) (by decide)) (by decide +kernel : kdM 0 = 11) (obM11 (by decide +kernel : kdM 0 = 11)) (by decide) (frM11_0 (by decide +kernel : kdM 0 = 11)) fl11_7 (by decide +kernel) ?_
        refine sm_seg C [(.bipush 87, 87), (.iload_n 3, 0), (.iadd, 0)] (pc' := 45) (L' := [(0, .ref 0), (1, .int a1), (2, .int a2), (3, .int a3)]) (S' := [.int (87 + a3), .ref 1, .int a2]) (by decide +kernel) rfl ?_
        refine sm_ald 2244 C (ltM (krM11_0 (by decide +kernel : kdM 0 = 11)) (by decide)) (krM11_0 (by decide +kernel : kdM 0 = 11)) (nrM11_0 (by decide +kernel : kdM 0 = 11)) (by decide +kernel) (fun v2 => ?_)
        refine sm_seg C [(.iconst (-1), (-1))] (pc' := 47) (L' := [(0, .ref 0), (1, .int a1), (2, .int a2), (3, .int a3)]) (S' := [.int (-1), .int v2, .int a2]) (by decide +kernel) rfl ?_
        refine sm_icmpeq 56 (off := 9) C (by decide +kernel) (by decide) (fun _ => ?_) (fun _ => ?_)
        · exact sm_sub [0, 1, 3] rfl (s_X11_those_j56 F C hr (X11_those_L4 F n) ih a1 a3 a2 τ)
        · exact sm_sub [0, 1, 3] rfl (s_X11_those_j50 F C hr (X11_those_L4 F n) ih a1 a3 a2 τ)
      · refine sm_seg C [(.aload_n 0, 0)] (pc' := 22) (L' := [(0, .ref 0), (1, .int a1), (2, .int a2), (3, .int a3)]) (S' := [.ref 0, .int a2]) (by decide +kernel) rfl ?_
        refine sm_getR 11 0 1 cls11 C (ltM (by decide +kernel : kdM 0 = 11) (by decide)) (by decide +kernel : kdM 0 = 11) (obM11 (by decide +kernel : kdM 0 = 11)) (by decide) (frM11_0 (by decide +kernel : kdM 0 = 11)) fl11_7 (by decide +kernel) ?_
        refine sm_seg C [(.bipush 101, 101), (.iload_n 3, 0), (.iadd, 0)] (pc' := 29) (L' := [(0, .ref 0), (1, .int a1), (2, .int a2), (3, .int a3)]) (S' := [.int (101 + a3), .ref 1, .int a2]) (by decide +kernel) rfl ?_
        refine sm_ald 2244 C (ltM (krM11_0 (by decide +kernel : kdM 0 = 11)) (by decide)) (krM11_0 (by decide +kernel : kdM 0 = 11)) (nrM11_0 (by decide +kernel : kdM 0 = 11)) (by decide +kernel) (fun v3 => ?_)
        refine sm_seg C [(.iconst 1, 1)] (pc' := 31) (L' := [(0, .ref 0), (1, .int a1), (2, .int a2), (3, .int a3)]) (S' := [.int 1, .int v3, .int a2]) (by decide +kernel) rfl ?_
        refine sm_icmpne 56 (off := 25) C (by decide +kernel) (by decide) (fun _ => ?_) (fun _ => ?_)
        · refine sm_seg C [(.goto 16, 0)] (pc' := 50) (L' := [(0, .ref 0), (1, .int a1), (2, .int a2), (3, .int a3)]) (S' := [.int a2]) (by decide +kernel) rfl ?_
          exact sm_sub [0, 1, 3] rfl (s_X11_those_j50 F C hr (X11_those_L4 F n) ih a1 a3 a2 τ)
        · exact sm_sub [0, 1, 3] rfl (s_X11_those_j56 F C hr (X11_those_L4 F n) ih a1 a3 a2 τ)
def X11_those (F : Nat) (a1 : Int32) (τ : Tau) : Option (Int32 × Tau) :=
  X11_those_L4 F F a1 0 0 τ
set_option maxRecDepth 20000 in
set_option maxHeartbeats 4000000 in
theorem c_X11_those (F : Nat) (a1 : Int32) (τ : Tau) (r : Int32) (τ' : Tau) (h : X11_those F a1 τ = some (r, τ')) : MCi sysM yX11_those cX11_those 4 (some .int) 1 [.ref 0, .int a1] τ r τ' :=
  mci_of (by decide +kernel) (Nat.le_of_ble_eq_true rfl) (fun K C hr => by
    show Sm K sysM 4 (Qi K sysM) (X11_those F a1 τ) 0 [(0, .ref 0), (1, .int a1)] [] τ
    unfold X11_those
    refine sm_seg C [(.iconst 0, 0), (.istore_n 2, 0), (.iconst 0, 0), (.istore_n 3, 0)] (pc' := 4) (L' := [(3, .int 0), (2, .int 0), (0, .ref 0), (1, .int a1)]) (S' := []) (by decide +kernel) rfl ?_
    exact sm_sub [2, 3, 1, 0] rfl (s_X11_those_L4 F C hr F a1 0 0 τ)) h
/-! BasketEnvoysModel.look -/
def X11_look (F : Nat) (a1 : Int32) (τ : Tau) : Option (Int32 × Tau) :=
  if a1 = 0 then (ald τ 1 2244 255 fun v1 => some (v1, τ)) else if a1 = 1 then (ald τ 1 2244 256 fun v2 => some (v2, τ)) else if a1 = 2 then (ald τ 1 2244 0 fun v3 => some (v3, τ)) else if a1 = 3 then (ald τ 1 2244 1 fun v4 => some (v4, τ)) else if a1 = 4 then (ald τ 1 2244 2 fun v5 => some (v5, τ)) else if a1 = 5 then (cal (X11_those F 0 τ) fun r6 τ7 => some (r6, τ7)) else if a1 = 6 then (cal (X11_those F 1 τ) fun r8 τ9 => some (r8, τ9)) else if a1 = 7 then (ald τ 1 2244 4 fun v10 => some (v10, τ)) else if a1 = 8 then (ald τ 1 2244 3 fun v11 => some (v11, τ)) else if a1 = 9 then (ald τ 1 2244 257 fun v12 => some (v12, τ)) else if a1 = 10 then (ald τ 1 2244 258 fun v13 => some (v13, τ)) else if a1 = 11 then (ald τ 1 2244 259 fun v14 => some (v14, τ)) else if a1 = 12 then (ald τ 1 2244 260 fun v15 => some (v15, τ)) else if a1 = 13 then (some ((τ 0 4), τ)) else (some ((-1), τ))
set_option maxRecDepth 20000 in
set_option maxHeartbeats 4000000 in
theorem c_X11_look (F : Nat) (a1 : Int32) (τ : Tau) (r : Int32) (τ' : Tau) (h : X11_look F a1 τ = some (r, τ')) : MCi sysM yX11_look cX11_look 2 (some .int) 2 [.ref 0, .int a1] τ r τ' :=
  mci_of (by decide +kernel) (Nat.le_of_ble_eq_true rfl) (fun K C hr => by
    show Sm K sysM 2 (Qi K sysM) (X11_look F a1 τ) 0 [(0, .ref 0), (1, .int a1)] [] τ
    unfold X11_look
    refine sm_seg C [(.iload_n 1, 0)] (pc' := 1) (L' := [(0, .ref 0), (1, .int a1)]) (S' := [.int a1]) (by decide +kernel) rfl ?_
    have hd1 : decode cX11_look 1 = .ok (.tableswitch 177 0 13 #[71, 80, 89, 96, 103, 110, 116, 122, 129, 136, 145, 154, 163, 172], 71) := by decide +kernel
    refine sm_ite (fun e => ?_) (fun n1_0 => ?_)
    · refine sm_tabIn (off := 71) 72 C hd1 (by rw [e]; decide) (by rw [e]; decide) (by rw [e]; decide) (by decide) ?_
      refine sm_seg C [(.aload_n 0, 0)] (pc' := 73) (L' := [(0, .ref 0), (1, .int a1)]) (S' := [.ref 0]) (by decide +kernel) rfl ?_
      refine sm_getR 11 0 1 cls11 C (ltM (by decide +kernel : kdM 0 = 11) (by decide)) (by decide +kernel : kdM 0 = 11) (obM11 (by decide +kernel : kdM 0 = 11)) (by decide) (frM11_0 (by decide +kernel : kdM 0 = 11)) fl11_7 (by decide +kernel) ?_
      refine sm_seg C [(.sipush 255, 255)] (pc' := 79) (L' := [(0, .ref 0), (1, .int a1)]) (S' := [.int 255, .ref 1]) (by decide +kernel) rfl ?_
      refine sm_ald 2244 C (ltM (krM11_0 (by decide +kernel : kdM 0 = 11)) (by decide)) (krM11_0 (by decide +kernel : kdM 0 = 11)) (nrM11_0 (by decide +kernel : kdM 0 = 11)) (by decide +kernel) (fun v1 => ?_)
      exact sm_iret C hr rfl (by decide +kernel)
    refine sm_ite (fun e => ?_) (fun n1_1 => ?_)
    · refine sm_tabIn (off := 80) 81 C hd1 (by rw [e]; decide) (by rw [e]; decide) (by rw [e]; decide) (by decide) ?_
      refine sm_seg C [(.aload_n 0, 0)] (pc' := 82) (L' := [(0, .ref 0), (1, .int a1)]) (S' := [.ref 0]) (by decide +kernel) rfl ?_
      refine sm_getR 11 0 1 cls11 C (ltM (by decide +kernel : kdM 0 = 11) (by decide)) (by decide +kernel : kdM 0 = 11) (obM11 (by decide +kernel : kdM 0 = 11)) (by decide) (frM11_0 (by decide +kernel : kdM 0 = 11)) fl11_7 (by decide +kernel) ?_
      refine sm_seg C [(.sipush 256, 256)] (pc' := 88) (L' := [(0, .ref 0), (1, .int a1)]) (S' := [.int 256, .ref 1]) (by decide +kernel) rfl ?_
      refine sm_ald 2244 C (ltM (krM11_0 (by decide +kernel : kdM 0 = 11)) (by decide)) (krM11_0 (by decide +kernel : kdM 0 = 11)) (nrM11_0 (by decide +kernel : kdM 0 = 11)) (by decide +kernel) (fun v2 => ?_)
      exact sm_iret C hr rfl (by decide +kernel)
    refine sm_ite (fun e => ?_) (fun n1_2 => ?_)
    · refine sm_tabIn (off := 89) 90 C hd1 (by rw [e]; decide) (by rw [e]; decide) (by rw [e]; decide) (by decide) ?_
      refine sm_seg C [(.aload_n 0, 0)] (pc' := 91) (L' := [(0, .ref 0), (1, .int a1)]) (S' := [.ref 0]) (by decide +kernel) rfl ?_
      refine sm_getR 11 0 1 cls11 C (ltM (by decide +kernel : kdM 0 = 11) (by decide)) (by decide +kernel : kdM 0 = 11) (obM11 (by decide +kernel : kdM 0 = 11)) (by decide) (frM11_0 (by decide +kernel : kdM 0 = 11)) fl11_7 (by decide +kernel) ?_
      refine sm_seg C [(.iconst 0, 0)] (pc' := 95) (L' := [(0, .ref 0), (1, .int a1)]) (S' := [.int 0, .ref 1]) (by decide +kernel) rfl ?_
      refine sm_ald 2244 C (ltM (krM11_0 (by decide +kernel : kdM 0 = 11)) (by decide)) (krM11_0 (by decide +kernel : kdM 0 = 11)) (nrM11_0 (by decide +kernel : kdM 0 = 11)) (by decide +kernel) (fun v3 => ?_)
      exact sm_iret C hr rfl (by decide +kernel)
    refine sm_ite (fun e => ?_) (fun n1_3 => ?_)
    · refine sm_tabIn (off := 96) 97 C hd1 (by rw [e]; decide) (by rw [e]; decide) (by rw [e]; decide) (by decide) ?_
      refine sm_seg C [(.aload_n 0, 0)] (pc' := 98) (L' := [(0, .ref 0), (1, .int a1)]) (S' := [.ref 0]) (by decide +kernel) rfl ?_
      refine sm_getR 11 0 1 cls11 C (ltM (by decide +kernel : kdM 0 = 11) (by decide)) (by decide +kernel : kdM 0 = 11) (obM11 (by decide +kernel : kdM 0 = 11)) (by decide) (frM11_0 (by decide +kernel : kdM 0 = 11)) fl11_7 (by decide +kernel) ?_
      refine sm_seg C [(.iconst 1, 1)] (pc' := 102) (L' := [(0, .ref 0), (1, .int a1)]) (S' := [.int 1, .ref 1]) (by decide +kernel) rfl ?_
      refine sm_ald 2244 C (ltM (krM11_0 (by decide +kernel : kdM 0 = 11)) (by decide)) (krM11_0 (by decide +kernel : kdM 0 = 11)) (nrM11_0 (by decide +kernel : kdM 0 = 11)) (by decide +kernel) (fun v4 => ?_)
      exact sm_iret C hr rfl (by decide +kernel)
    refine sm_ite (fun e => ?_) (fun n1_4 => ?_)
    · refine sm_tabIn (off := 103) 104 C hd1 (by rw [e]; decide) (by rw [e]; decide) (by rw [e]; decide) (by decide) ?_
      refine sm_seg C [(.aload_n 0, 0)] (pc' := 105) (L' := [(0, .ref 0), (1, .int a1)]) (S' := [.ref 0]) (by decide +kernel) rfl ?_
      refine sm_getR 11 0 1 cls11 C (ltM (by decide +kernel : kdM 0 = 11) (by decide)) (by decide +kernel : kdM 0 = 11) (obM11 (by decide +kernel : kdM 0 = 11)) (by decide) (frM11_0 (by decide +kernel : kdM 0 = 11)) fl11_7 (by decide +kernel) ?_
      refine sm_seg C [(.iconst 2, 2)] (pc' := 109) (L' := [(0, .ref 0), (1, .int a1)]) (S' := [.int 2, .ref 1]) (by decide +kernel) rfl ?_
      refine sm_ald 2244 C (ltM (krM11_0 (by decide +kernel : kdM 0 = 11)) (by decide)) (krM11_0 (by decide +kernel : kdM 0 = 11)) (nrM11_0 (by decide +kernel : kdM 0 = 11)) (by decide +kernel) (fun v5 => ?_)
      exact sm_iret C hr rfl (by decide +kernel)
    refine sm_ite (fun e => ?_) (fun n1_5 => ?_)
    · refine sm_tabIn (off := 110) 111 C hd1 (by rw [e]; decide) (by rw [e]; decide) (by rw [e]; decide) (by decide) ?_
      refine sm_seg C [(.aload_n 0, 0), (.iconst 0, 0)] (pc' := 113) (L' := [(0, .ref 0), (1, .int a1)]) (S' := [.int 0, .ref 0]) (by decide +kernel) rfl ?_
      refine sm_vcal [.int 0] [] rfl C mw_X11_those ml_11_473 rfl (ci := 11) rfl (ltM (by decide +kernel : kdM 0 = 11) (by decide)) (by decide +kernel : kdM 0 = 11) (by decide) ⟨by decide, by decide⟩ (Nat.le_of_ble_eq_true rfl) (by decide +kernel) (c_X11_those F 0 τ) (fun r6 τ7 => ?_)
      exact sm_iret C hr rfl (by decide +kernel)
    refine sm_ite (fun e => ?_) (fun n1_6 => ?_)
    · refine sm_tabIn (off := 116) 117 C hd1 (by rw [e]; decide) (by rw [e]; decide) (by rw [e]; decide) (by decide) ?_
      refine sm_seg C [(.aload_n 0, 0), (.iconst 1, 1)] (pc' := 119) (L' := [(0, .ref 0), (1, .int a1)]) (S' := [.int 1, .ref 0]) (by decide +kernel) rfl ?_
      refine sm_vcal [.int 1] [] rfl C mw_X11_those ml_11_473 rfl (ci := 11) rfl (ltM (by decide +kernel : kdM 0 = 11) (by decide)) (by decide +kernel : kdM 0 = 11) (by decide) ⟨by decide, by decide⟩ (Nat.le_of_ble_eq_true rfl) (by decide +kernel) (c_X11_those F 1 τ) (fun r8 τ9 => ?_)
      exact sm_iret C hr rfl (by decide +kernel)
    refine sm_ite (fun e => ?_) (fun n1_7 => ?_)
    · refine sm_tabIn (off := 122) 123 C hd1 (by rw [e]; decide) (by rw [e]; decide) (by rw [e]; decide) (by decide) ?_
      refine sm_seg C [(.aload_n 0, 0)] (pc' := 124) (L' := [(0, .ref 0), (1, .int a1)]) (S' := [.ref 0]) (by decide +kernel) rfl ?_
      refine sm_getR 11 0 1 cls11 C (ltM (by decide +kernel : kdM 0 = 11) (by decide)) (by decide +kernel : kdM 0 = 11) (obM11 (by decide +kernel : kdM 0 = 11)) (by decide) (frM11_0 (by decide +kernel : kdM 0 = 11)) fl11_7 (by decide +kernel) ?_
      refine sm_seg C [(.iconst 4, 4)] (pc' := 128) (L' := [(0, .ref 0), (1, .int a1)]) (S' := [.int 4, .ref 1]) (by decide +kernel) rfl ?_
      refine sm_ald 2244 C (ltM (krM11_0 (by decide +kernel : kdM 0 = 11)) (by decide)) (krM11_0 (by decide +kernel : kdM 0 = 11)) (nrM11_0 (by decide +kernel : kdM 0 = 11)) (by decide +kernel) (fun v10 => ?_)
      exact sm_iret C hr rfl (by decide +kernel)
    refine sm_ite (fun e => ?_) (fun n1_8 => ?_)
    · refine sm_tabIn (off := 129) 130 C hd1 (by rw [e]; decide) (by rw [e]; decide) (by rw [e]; decide) (by decide) ?_
      refine sm_seg C [(.aload_n 0, 0)] (pc' := 131) (L' := [(0, .ref 0), (1, .int a1)]) (S' := [.ref 0]) (by decide +kernel) rfl ?_
      refine sm_getR 11 0 1 cls11 C (ltM (by decide +kernel : kdM 0 = 11) (by decide)) (by decide +kernel : kdM 0 = 11) (obM11 (by decide +kernel : kdM 0 = 11)) (by decide) (frM11_0 (by decide +kernel : kdM 0 = 11)) fl11_7 (by decide +kernel) ?_
      refine sm_seg C [(.iconst 3, 3)] (pc' := 135) (L' := [(0, .ref 0), (1, .int a1)]) (S' := [.int 3, .ref 1]) (by decide +kernel) rfl ?_
      refine sm_ald 2244 C (ltM (krM11_0 (by decide +kernel : kdM 0 = 11)) (by decide)) (krM11_0 (by decide +kernel : kdM 0 = 11)) (nrM11_0 (by decide +kernel : kdM 0 = 11)) (by decide +kernel) (fun v11 => ?_)
      exact sm_iret C hr rfl (by decide +kernel)
    refine sm_ite (fun e => ?_) (fun n1_9 => ?_)
    · refine sm_tabIn (off := 136) 137 C hd1 (by rw [e]; decide) (by rw [e]; decide) (by rw [e]; decide) (by decide) ?_
      refine sm_seg C [(.aload_n 0, 0)] (pc' := 138) (L' := [(0, .ref 0), (1, .int a1)]) (S' := [.ref 0]) (by decide +kernel) rfl ?_
      refine sm_getR 11 0 1 cls11 C (ltM (by decide +kernel : kdM 0 = 11) (by decide)) (by decide +kernel : kdM 0 = 11) (obM11 (by decide +kernel : kdM 0 = 11)) (by decide) (frM11_0 (by decide +kernel : kdM 0 = 11)) fl11_7 (by decide +kernel) ?_
      refine sm_seg C [(.sipush 257, 257)] (pc' := 144) (L' := [(0, .ref 0), (1, .int a1)]) (S' := [.int 257, .ref 1]) (by decide +kernel) rfl ?_
      refine sm_ald 2244 C (ltM (krM11_0 (by decide +kernel : kdM 0 = 11)) (by decide)) (krM11_0 (by decide +kernel : kdM 0 = 11)) (nrM11_0 (by decide +kernel : kdM 0 = 11)) (by decide +kernel) (fun v12 => ?_)
      exact sm_iret C hr rfl (by decide +kernel)
    refine sm_ite (fun e => ?_) (fun n1_10 => ?_)
    · refine sm_tabIn (off := 145) 146 C hd1 (by rw [e]; decide) (by rw [e]; decide) (by rw [e]; decide) (by decide) ?_
      refine sm_seg C [(.aload_n 0, 0)] (pc' := 147) (L' := [(0, .ref 0), (1, .int a1)]) (S' := [.ref 0]) (by decide +kernel) rfl ?_
      refine sm_getR 11 0 1 cls11 C (ltM (by decide +kernel : kdM 0 = 11) (by decide)) (by decide +kernel : kdM 0 = 11) (obM11 (by decide +kernel : kdM 0 = 11)) (by decide) (frM11_0 (by decide +kernel : kdM 0 = 11)) fl11_7 (by decide +kernel) ?_
      refine sm_seg C [(.sipush 258, 258)] (pc' := 153) (L' := [(0, .ref 0), (1, .int a1)]) (S' := [.int 258, .ref 1]) (by decide +kernel) rfl ?_
      refine sm_ald 2244 C (ltM (krM11_0 (by decide +kernel : kdM 0 = 11)) (by decide)) (krM11_0 (by decide +kernel : kdM 0 = 11)) (nrM11_0 (by decide +kernel : kdM 0 = 11)) (by decide +kernel) (fun v13 => ?_)
      exact sm_iret C hr rfl (by decide +kernel)
    refine sm_ite (fun e => ?_) (fun n1_11 => ?_)
    · refine sm_tabIn (off := 154) 155 C hd1 (by rw [e]; decide) (by rw [e]; decide) (by rw [e]; decide) (by decide) ?_
      refine sm_seg C [(.aload_n 0, 0)] (pc' := 156) (L' := [(0, .ref 0), (1, .int a1)]) (S' := [.ref 0]) (by decide +kernel) rfl ?_
      refine sm_getR 11 0 1 cls11 C (ltM (by decide +kernel : kdM 0 = 11) (by decide)) (by decide +kernel : kdM 0 = 11) (obM11 (by decide +kernel : kdM 0 = 11)) (by decide) (frM11_0 (by decide +kernel : kdM 0 = 11)) fl11_7 (by decide +kernel) ?_
      refine sm_seg C [(.sipush 259, 259)] (pc' := 162) (L' := [(0, .ref 0), (1, .int a1)]) (S' := [.int 259, .ref 1]) (by decide +kernel) rfl ?_
      refine sm_ald 2244 C (ltM (krM11_0 (by decide +kernel : kdM 0 = 11)) (by decide)) (krM11_0 (by decide +kernel : kdM 0 = 11)) (nrM11_0 (by decide +kernel : kdM 0 = 11)) (by decide +kernel) (fun v14 => ?_)
      exact sm_iret C hr rfl (by decide +kernel)
    refine sm_ite (fun e => ?_) (fun n1_12 => ?_)
    · refine sm_tabIn (off := 163) 164 C hd1 (by rw [e]; decide) (by rw [e]; decide) (by rw [e]; decide) (by decide) ?_
      refine sm_seg C [(.aload_n 0, 0)] (pc' := 165) (L' := [(0, .ref 0), (1, .int a1)]) (S' := [.ref 0]) (by decide +kernel) rfl ?_
      refine sm_getR 11 0 1 cls11 C (ltM (by decide +kernel : kdM 0 = 11) (by decide)) (by decide +kernel : kdM 0 = 11) (obM11 (by decide +kernel : kdM 0 = 11)) (by decide) (frM11_0 (by decide +kernel : kdM 0 = 11)) fl11_7 (by decide +kernel) ?_
      refine sm_seg C [(.sipush 260, 260)] (pc' := 171) (L' := [(0, .ref 0), (1, .int a1)]) (S' := [.int 260, .ref 1]) (by decide +kernel) rfl ?_
      refine sm_ald 2244 C (ltM (krM11_0 (by decide +kernel : kdM 0 = 11)) (by decide)) (krM11_0 (by decide +kernel : kdM 0 = 11)) (nrM11_0 (by decide +kernel : kdM 0 = 11)) (by decide +kernel) (fun v15 => ?_)
      exact sm_iret C hr rfl (by decide +kernel)
    refine sm_ite (fun e => ?_) (fun n1_13 => ?_)
    · refine sm_tabIn (off := 172) 173 C hd1 (by rw [e]; decide) (by rw [e]; decide) (by rw [e]; decide) (by decide) ?_
      refine sm_seg C [(.aload_n 0, 0)] (pc' := 174) (L' := [(0, .ref 0), (1, .int a1)]) (S' := [.ref 0]) (by decide +kernel) rfl ?_
      refine sm_getI 11 4 cls11 C (ltM (by decide +kernel : kdM 0 = 11) (by decide)) (by decide +kernel : kdM 0 = 11) (obM11 (by decide +kernel : kdM 0 = 11)) (by decide) (fiM11_4 (by decide +kernel : kdM 0 = 11)) fl11_82 (by decide +kernel) ?_
      exact sm_iret C hr rfl (by decide +kernel)
    refine sm_tabOut 178 C hd1 (by have q0 := toInt_neZ (z := 0) n1_0 (by decide); have q1 := toInt_neZ (z := 1) n1_1 (by decide); have q2 := toInt_neZ (z := 2) n1_2 (by decide); have q3 := toInt_neZ (z := 3) n1_3 (by decide); have q4 := toInt_neZ (z := 4) n1_4 (by decide); have q5 := toInt_neZ (z := 5) n1_5 (by decide); have q6 := toInt_neZ (z := 6) n1_6 (by decide); have q7 := toInt_neZ (z := 7) n1_7 (by decide); have q8 := toInt_neZ (z := 8) n1_8 (by decide); have q9 := toInt_neZ (z := 9) n1_9 (by decide); have q10 := toInt_neZ (z := 10) n1_10 (by decide); have q11 := toInt_neZ (z := 11) n1_11 (by decide); have q12 := toInt_neZ (z := 12) n1_12 (by decide); have q13 := toInt_neZ (z := 13) n1_13 (by decide); omega) (by decide) ?_
    refine sm_seg C [(.iconst (-1), (-1))] (pc' := 179) (L' := [(0, .ref 0), (1, .int a1)]) (S' := [.int (-1)]) (by decide +kernel) rfl ?_
    exact sm_iret C hr rfl (by decide +kernel)) h
/-! BasketEnvoysModel.luck -/
def X11_luck_L12 (F : Nat) : Nat → Int32 → Int32 → Int32 → Int32 → Tau → Option (Int32 × Tau)
  | 0, _, _, _, _, _ => none
  | n + 1, a0, a1, a2, a3, τ =>
    if a1 ≤ a3 then (some ((a0 * a2), τ)) else (if a3 = 0 then none else (X11_luck_L12 F n a0 a1 (a2 + (27720 / a3)) (a3 + 1) τ))
theorem s_X11_luck_L12 (F : Nat) {K : Ctx} (C : Cx K sysM RX11 cX11_luck 4 1) (hr : Rt K (some .int)) : ∀ (n : Nat) (a0 : Int32) (a1 : Int32) (a2 : Int32) (a3 : Int32) (τ : Tau), Sm K sysM 4 (Qi K sysM) (X11_luck_L12 F n a0 a1 a2 a3 τ) 12 [(0, .int a0), (1, .int a1), (2, .int a2), (3, .int a3)] [] τ := by
  intro n
  induction n with
  | zero => intro a0 a1 a2 a3 τ; exact sm_none
  | succ n ih =>
    intro a0 a1 a2 a3 τ
    rw [X11_luck_L12]
    refine sm_seg C [(.iload_n 3, 0), (.iload_n 1, 0)] (pc' := 14) (L' := [(0, .int a0), (1, .int a1), (2, .int a2), (3, .int a3)]) (S' := [.int a1, .int a3]) (by decide +kernel) rfl ?_
    refine sm_icmpge 31 (off := 17) C (by decide +kernel) (by decide) (fun _ => ?_) (fun _ => ?_)
    · refine sm_seg C [(.iload_n 0, 0), (.iload_n 2, 0), (.imul, 0)] (pc' := 34) (L' := [(0, .int a0), (1, .int a1), (2, .int a2), (3, .int a3)]) (S' := [.int (a0 * a2)]) (by decide +kernel) rfl ?_
      exact sm_iret C hr rfl (by decide +kernel)
    · refine sm_seg C [(.iload_n 2, 0), (.sipush 27720, 27720), (.iload_n 3, 0)] (pc' := 22) (L' := [(0, .int a0), (1, .int a1), (2, .int a2), (3, .int a3)]) (S' := [.int a3, .int 27720, .int a2]) (by decide +kernel) rfl ?_
      refine sm_ite (fun _ => sm_none) (fun hz => ?_)
      refine sm_idiv C (by decide +kernel) hz ?_
      refine sm_seg C [(.iadd, 0), (.istore_n 2, 0), (.iinc 3 1, 1), (.goto (-16), 0)] (pc' := 12) (L' := [(3, .int (a3 + 1)), (2, .int (a2 + (27720 / a3))), (0, .int a0), (1, .int a1)]) (S' := []) (by decide +kernel) rfl ?_
      exact sm_sub [2, 3, 1, 0] rfl (ih a0 a1 (a2 + (27720 / a3)) (a3 + 1) τ)
def X11_luck (F : Nat) (a0 : Int32) (a1 : Int32) (τ : Tau) : Option (Int32 × Tau) :=
  if a0 = 0 then (some (27720, τ)) else (X11_luck_L12 F F a0 a1 0 a0 τ)
set_option maxRecDepth 20000 in
set_option maxHeartbeats 4000000 in
theorem c_X11_luck (F : Nat) (a0 : Int32) (a1 : Int32) (τ : Tau) (r : Int32) (τ' : Tau) (h : X11_luck F a0 a1 τ = some (r, τ')) : MCi sysM yX11_luck cX11_luck 4 (some .int) 1 [.int a0, .int a1] τ r τ' :=
  mci_of (by decide +kernel) (Nat.le_of_ble_eq_true rfl) (fun K C hr => by
    show Sm K sysM 4 (Qi K sysM) (X11_luck F a0 a1 τ) 0 [(0, .int a0), (1, .int a1)] [] τ
    unfold X11_luck
    refine sm_seg C [(.iload_n 0, 0)] (pc' := 1) (L' := [(0, .int a0), (1, .int a1)]) (S' := [.int a0]) (by decide +kernel) rfl ?_
    refine sm_ifne 8 (off := 7) C (by decide +kernel) (by decide) (fun _ => ?_) (fun _ => ?_)
    · refine sm_seg C [(.sipush 27720, 27720)] (pc' := 7) (L' := [(0, .int a0), (1, .int a1)]) (S' := [.int 27720]) (by decide +kernel) rfl ?_
      exact sm_iret C hr rfl (by decide +kernel)
    · refine sm_seg C [(.iconst 0, 0), (.istore_n 2, 0), (.iload_n 0, 0), (.istore_n 3, 0)] (pc' := 12) (L' := [(3, .int a0), (2, .int 0), (0, .int a0), (1, .int a1)]) (S' := []) (by decide +kernel) rfl ?_
      exact sm_sub [2, 3, 1, 0] rfl (s_X11_luck_L12 F C hr F a0 a1 0 a0 τ)) h
/-! BasketEnvoysModel.oneColourMore -/
def X11_oneColourMore_L72 (F : Nat) : Nat → Int32 → Tau → Option (Int32 × Tau)
  | 0, _, _ => none
  | n + 1, a1, τ =>
    if 256 ≤ a1 then (some (0, τ)) else (ald τ 16 256 a1 fun v1 => ast τ 15 256 a1 v1 fun τ2 => X11_oneColourMore_L72 F n (a1 + 1) τ2)
theorem s_X11_oneColourMore_L72 (F : Nat) {K : Ctx} (C : Cx K sysM RX11 cX11_oneColourMore 3 2) (hr : Rt K none) : ∀ (n : Nat) (a1 : Int32) (τ : Tau), Sm K sysM 3 (Qv K sysM) (X11_oneColourMore_L72 F n a1 τ) 72 [(0, .ref 0), (1, .int a1)] [] τ := by
  intro n
  induction n with
  | zero => intro a1 τ; exact sm_none
  | succ n ih =>
    intro a1 τ
    rw [X11_oneColourMore_L72]
    refine sm_seg C [(.iload_n 1, 0), (.sipush 256, 256)] (pc' := 76) (L' := [(0, .ref 0), (1, .int a1)]) (S' := [.int 256, .int a1]) (by decide +kernel) rfl ?_
    refine sm_icmpge 97 (off := 21) C (by decide +kernel) (by decide) (fun _ => ?_) (fun _ => ?_)
    · exact sm_vret C hr (by decide +kernel)
    · refine sm_seg C [(.aload_n 0, 0)] (pc' := 80) (L' := [(0, .ref 0), (1, .int a1)]) (S' := [.ref 0]) (by decide +kernel) rfl ?_
      refine sm_getR 11 31 15 cls11 C (ltM (by decide +kernel : kdM 0 = 11) (by decide)) (by decide +kernel : kdM 0 = 11) (obM11 (by decide +kernel : kdM 0 = 11)) (by decide) (frM11_31 (by decide +kernel : kdM 0 = 11)) fl11_57 (by decide +kernel) ?_
      refine sm_seg C [(.iload_n 1, 0), (.aload_n 0, 0)] (pc' := 85) (L' := [(0, .ref 0), (1, .int a1)]) (S' := [.ref 0, .int a1, .ref 15]) (by decide +kernel) rfl ?_
      refine sm_getR 11 32 16 cls11 C (ltM (by decide +kernel : kdM 0 = 11) (by decide)) (by decide +kernel : kdM 0 = 11) (obM11 (by decide +kernel : kdM 0 = 11)) (by decide) (frM11_32 (by decide +kernel : kdM 0 = 11)) fl11_60 (by decide +kernel) ?_
      refine sm_seg C [(.iload_n 1, 0)] (pc' := 89) (L' := [(0, .ref 0), (1, .int a1)]) (S' := [.int a1, .ref 16, .int a1, .ref 15]) (by decide +kernel) rfl ?_
      refine sm_ald 256 C (ltM (krM11_32 (by decide +kernel : kdM 0 = 11)) (by decide)) (krM11_32 (by decide +kernel : kdM 0 = 11)) (nrM11_32 (by decide +kernel : kdM 0 = 11)) (by decide +kernel) (fun v1 => ?_)
      refine sm_ast 256 C (ltM (krM11_31 (by decide +kernel : kdM 0 = 11)) (by decide)) (krM11_31 (by decide +kernel : kdM 0 = 11)) (nrM11_31 (by decide +kernel : kdM 0 = 11)) (by decide +kernel) (fun τ2 => ?_)
      refine sm_seg C [(.iinc 1 1, 1), (.goto (-22), 0)] (pc' := 72) (L' := [(1, .int (a1 + 1)), (0, .ref 0)]) (S' := []) (by decide +kernel) rfl ?_
      exact sm_sub [1, 0] rfl (ih (a1 + 1) τ2)
def X11_oneColourMore_j58 (F : Nat) (self2 : Int32 → Tau → Option (Int32 × Tau)) (self18 : Int32 → Int32 → Tau → Option (Int32 × Tau)) (a1 : Int32) (a2 : Int32) (τ : Tau) : Option (Int32 × Tau) :=
  self18 a1 (a2 + 1) τ
theorem s_X11_oneColourMore_j58 (F : Nat) {K : Ctx} (C : Cx K sysM RX11 cX11_oneColourMore 3 2) (hr : Rt K none) (self2 : Int32 → Tau → Option (Int32 × Tau)) (self18 : Int32 → Int32 → Tau → Option (Int32 × Tau)) (ih2 : ∀ (a1 : Int32) (τ : Tau), Sm K sysM 3 (Qv K sysM) (self2 a1 τ) 2 [(0, .ref 0), (1, .int a1)] [] τ) (ih18 : ∀ (a1 : Int32) (a2 : Int32) (τ : Tau), Sm K sysM 3 (Qv K sysM) (self18 a1 a2 τ) 18 [(0, .ref 0), (1, .int a1), (2, .int a2)] [] τ) (a1 : Int32) (a2 : Int32) (τ : Tau) : Sm K sysM 3 (Qv K sysM) (X11_oneColourMore_j58 F self2 self18 a1 a2 τ) 58 [(0, .ref 0), (1, .int a1), (2, .int a2)] [] τ := by
  unfold X11_oneColourMore_j58
  refine sm_seg C [(.iinc 2 1, 1), (.goto (-43), 0)] (pc' := 18) (L' := [(2, .int (a2 + 1)), (0, .ref 0), (1, .int a1)]) (S' := []) (by decide +kernel) rfl ?_
  exact sm_sub [1, 2, 0] rfl (ih18 a1 (a2 + 1) τ)
def X11_oneColourMore_L18 (F : Nat) (self2 : Int32 → Tau → Option (Int32 × Tau)) : Nat → Int32 → Int32 → Tau → Option (Int32 × Tau)
  | 0, _, _, _ => none
  | n + 1, a1, a2, τ =>
    if a1 < a2 then (self2 (a1 + 1) τ) else (if (a2 &&& (a1 ^^^ (-1))) = 0 then (cal (X11_canBeOne F a2 τ) fun r4 τ5 => if r4 = 0 then (X11_oneColourMore_j58 F self2 (X11_oneColourMore_L18 F self2 n) a1 a2 τ5) else (ald τ5 16 256 a1 fun v6 => ald τ5 15 256 (a1 &&& (a2 ^^^ (-1))) fun v7 => ast τ5 16 256 a1 (v6 + v7) fun τ8 => X11_oneColourMore_j58 F self2 (X11_oneColourMore_L18 F self2 n) a1 a2 τ8)) else (X11_oneColourMore_j58 F self2 (X11_oneColourMore_L18 F self2 n) a1 a2 τ))
theorem s_X11_oneColourMore_L18 (F : Nat) {K : Ctx} (C : Cx K sysM RX11 cX11_oneColourMore 3 2) (hr : Rt K none) (self2 : Int32 → Tau → Option (Int32 × Tau)) (ih2 : ∀ (a1 : Int32) (τ : Tau), Sm K sysM 3 (Qv K sysM) (self2 a1 τ) 2 [(0, .ref 0), (1, .int a1)] [] τ) : ∀ (n : Nat) (a1 : Int32) (a2 : Int32) (τ : Tau), Sm K sysM 3 (Qv K sysM) (X11_oneColourMore_L18 F self2 n a1 a2 τ) 18 [(0, .ref 0), (1, .int a1), (2, .int a2)] [] τ := by
  intro n
  induction n with
  | zero => intro a1 a2 τ; exact sm_none
  | succ n ih =>
    intro a1 a2 τ
    rw [X11_oneColourMore_L18]
    refine sm_seg C [(.iload_n 2, 0), (.iload_n 1, 0)] (pc' := 20) (L' := [(0, .ref 0), (1, .int a1), (2, .int a2)]) (S' := [.int a1, .int a2]) (by decide +kernel) rfl ?_
    refine sm_icmpgt 64 (off := 44) C (by decide +kernel) (by decide) (fun _ => ?_) (fun _ => ?_)
    · refine sm_seg C [(.iinc 1 1, 1), (.goto (-65), 0)] (pc' := 2) (L' := [(1, .int (a1 + 1)), (0, .ref 0), (2, .int a2)]) (S' := []) (by decide +kernel) rfl ?_
      exact sm_sub [1, 0] rfl (ih2 (a1 + 1) τ)
    · refine sm_seg C [(.iload_n 2, 0), (.iload_n 1, 0), (.iconst (-1), (-1)), (.ixor, 0), (.iand, 0)] (pc' := 28) (L' := [(0, .ref 0), (1, .int a1), (2, .int a2)]) (S' := [.int (a2 &&& (a1 ^^^ (-1)))]) (by decide +kernel) rfl ?_
      refine sm_ifne 58 (off := 30) C (by decide +kernel) (by decide) (fun _ => ?_) (fun _ => ?_)
      · refine sm_seg C [(.aload_n 0, 0), (.iload_n 2, 0)] (pc' := 33) (L' := [(0, .ref 0), (1, .int a1), (2, .int a2)]) (S' := [.int a2, .ref 0]) (by decide +kernel) rfl ?_
        refine sm_vcal [.int a2] [] rfl C mw_X11_canBeOne ml_11_445 rfl (ci := 11) rfl (ltM (by decide +kernel : kdM 0 = 11) (by decide)) (by decide +kernel : kdM 0 = 11) (by decide) ⟨by decide, by decide⟩ (Nat.le_of_ble_eq_true rfl) (by decide +kernel) (c_X11_canBeOne F a2 τ) (fun r4 τ5 => ?_)
        refine sm_ifeq 58 (off := 22) C (by decide +kernel) (by decide) (fun _ => ?_) (fun _ => ?_)
        · exact sm_sub [0, 1, 2] rfl (s_X11_oneColourMore_j58 F C hr self2 (X11_oneColourMore_L18 F self2 n) ih2 ih a1 a2 τ5)
        · refine sm_seg C [(.aload_n 0, 0)] (pc' := 40) (L' := [(0, .ref 0), (1, .int a1), (2, .int a2)]) (S' := [.ref 0]) (by decide +kernel) rfl ?_
          refine sm_getR 11 32 16 cls11 C (ltM (by decide +kernel : kdM 0 = 11) (by decide)) (by decide +kernel : kdM 0 = 11) (obM11 (by decide +kernel : kdM 0 = 11)) (by decide) (frM11_32 (by decide +kernel : kdM 0 = 11)) fl11_60 (by decide +kernel) ?_
          refine sm_seg C [(.iload_n 1, 0), (.dup2, 0)] (pc' := 45) (L' := [(0, .ref 0), (1, .int a1), (2, .int a2)]) (S' := [.int a1, .ref 16, .int a1, .ref 16]) (by decide +kernel) rfl ?_
          refine sm_ald 256 C (ltM (krM11_32 (by decide +kernel : kdM 0 = 11)) (by decide)) (krM11_32 (by decide +kernel : kdM 0 = 11)) (nrM11_32 (by decide +kernel : kdM 0 = 11)) (by decide +kernel) (fun v6 => ?_)
          refine sm_seg C [(.aload_n 0, 0)] (pc' := 47) (L' := [(0, .ref 0), (1, .int a1), (2, .int a2)]) (S' := [.ref 0, .int v6, .int a1, .ref 16]) (by decide +kernel) rfl ?_
          refine sm_getR 11 31 15 cls11 C (ltM (by decide +kernel : kdM 0 = 11) (by decide)) (by decide +kernel : kdM 0 = 11) (obM11 (by decide +kernel : kdM 0 = 11)) (by decide) (frM11_31 (by decide +kernel : kdM 0 = 11)) fl11_57 (by decide +kernel) ?_
          refine sm_seg C [(.iload_n 1, 0), (.iload_n 2, 0), (.iconst (-1), (-1)), (.ixor, 0), (.iand, 0)] (pc' := 55) (L' := [(0, .ref 0), (1, .int a1), (2, .int a2)]) (S' := [.int (a1 &&& (a2 ^^^ (-1))), .ref 15, .int v6, .int a1, .ref 16]) (by decide +kernel) rfl ?_
          refine sm_ald 256 C (ltM (krM11_31 (by decide +kernel : kdM 0 = 11)) (by decide)) (krM11_31 (by decide +kernel : kdM 0 = 11)) (nrM11_31 (by decide +kernel : kdM 0 = 11)) (by decide +kernel) (fun v7 => ?_)
          refine sm_seg C [(.iadd, 0)] (pc' := 57) (L' := [(0, .ref 0), (1, .int a1), (2, .int a2)]) (S' := [.int (v6 + v7), .int a1, .ref 16]) (by decide +kernel) rfl ?_
          refine sm_ast 256 C (ltM (krM11_32 (by decide +kernel : kdM 0 = 11)) (by decide)) (krM11_32 (by decide +kernel : kdM 0 = 11)) (nrM11_32 (by decide +kernel : kdM 0 = 11)) (by decide +kernel) (fun τ8 => ?_)
          exact sm_sub [0, 1, 2] rfl (s_X11_oneColourMore_j58 F C hr self2 (X11_oneColourMore_L18 F self2 n) ih2 ih a1 a2 τ8)
      · exact sm_sub [0, 1, 2] rfl (s_X11_oneColourMore_j58 F C hr self2 (X11_oneColourMore_L18 F self2 n) ih2 ih a1 a2 τ)
def X11_oneColourMore_L2 (F : Nat) : Nat → Int32 → Tau → Option (Int32 × Tau)
  | 0, _, _ => none
  | n + 1, a1, τ =>
    if 256 ≤ a1 then (X11_oneColourMore_L72 F F 0 τ) else (ast τ 16 256 a1 0 fun τ3 => X11_oneColourMore_L18 F (X11_oneColourMore_L2 F n) F a1 0 τ3)
theorem s_X11_oneColourMore_L2 (F : Nat) {K : Ctx} (C : Cx K sysM RX11 cX11_oneColourMore 3 2) (hr : Rt K none) : ∀ (n : Nat) (a1 : Int32) (τ : Tau), Sm K sysM 3 (Qv K sysM) (X11_oneColourMore_L2 F n a1 τ) 2 [(0, .ref 0), (1, .int a1)] [] τ := by
  intro n
  induction n with
  | zero => intro a1 τ; exact sm_none
  | succ n ih =>
    intro a1 τ
    rw [X11_oneColourMore_L2]
    refine sm_seg C [(.iload_n 1, 0), (.sipush 256, 256)] (pc' := 6) (L' := [(0, .ref 0), (1, .int a1)]) (S' := [.int 256, .int a1]) (by decide +kernel) rfl ?_
    refine sm_icmpge 70 (off := 64) C (by decide +kernel) (by decide) (fun _ => ?_) (fun _ => ?_)
    · refine sm_seg C [(.iconst 0, 0), (.istore_n 1, 0)] (pc' := 72) (L' := [(1, .int 0), (0, .ref 0)]) (S' := []) (by decide +kernel) rfl ?_
      exact sm_sub [1, 0] rfl (s_X11_oneColourMore_L72 F C hr F 0 τ)
    · refine sm_seg C [(.aload_n 0, 0)] (pc' := 10) (L' := [(0, .ref 0), (1, .int a1)]) (S' := [.ref 0]) (by decide +kernel) rfl ?_
      refine sm_getR 11 32 16 cls11 C (ltM (by decide +kernel : kdM 0 = 11) (by decide)) (by decide +kernel : kdM 0 = 11) (obM11 (by decide +kernel : kdM 0 = 11)) (by decide) (frM11_32 (by decide +kernel : kdM 0 = 11)) fl11_60 (by decide +kernel) ?_
      refine sm_seg C [(.iload_n 1, 0), (.iconst 0, 0)] (pc' := 15) (L' := [(0, .ref 0), (1, .int a1)]) (S' := [.int 0, .int a1, .ref 16]) (by decide +kernel) rfl ?_
      refine sm_ast 256 C (ltM (krM11_32 (by decide +kernel : kdM 0 = 11)) (by decide)) (krM11_32 (by decide +kernel : kdM 0 = 11)) (nrM11_32 (by decide +kernel : kdM 0 = 11)) (by decide +kernel) (fun τ3 => ?_)
      refine sm_seg C [(.iconst 0, 0), (.istore_n 2, 0)] (pc' := 18) (L' := [(2, .int 0), (0, .ref 0), (1, .int a1)]) (S' := []) (by decide +kernel) rfl ?_
      exact sm_sub [1, 2, 0] rfl (s_X11_oneColourMore_L18 F C hr (X11_oneColourMore_L2 F n) ih F a1 0 τ3)
def X11_oneColourMore (F : Nat) (τ : Tau) : Option (Int32 × Tau) :=
  X11_oneColourMore_L2 F F 0 τ
set_option maxRecDepth 20000 in
set_option maxHeartbeats 4000000 in
theorem c_X11_oneColourMore (F : Nat) (τ : Tau) (r : Int32) (τ' : Tau) (h : X11_oneColourMore F τ = some (r, τ')) : MCv sysM yX11_oneColourMore cX11_oneColourMore 3 2 [.ref 0] τ τ' :=
  mcv_of (by decide +kernel) (Nat.le_of_ble_eq_true rfl) (fun K C hr => by
    show Sm K sysM 3 (Qv K sysM) (X11_oneColourMore F τ) 0 [(0, .ref 0)] [] τ
    unfold X11_oneColourMore
    refine sm_seg C [(.iconst 0, 0), (.istore_n 1, 0)] (pc' := 2) (L' := [(1, .int 0), (0, .ref 0)]) (S' := []) (by decide +kernel) rfl ?_
    exact sm_sub [1, 0] rfl (s_X11_oneColourMore_L2 F C hr F 0 τ)) h
/-! BasketEnvoysModel.map -/
def X11_map_j67 (F : Nat) (self43 : Int32 → Int32 → Tau → Option (Int32 × Tau)) (a1 : Int32) (a2 : Int32) (τ : Tau) : Option (Int32 × Tau) :=
  cal (X11_oneColourMore F τ) fun r4 τ5 => self43 a1 (a2 + 1) τ5
theorem s_X11_map_j67 (F : Nat) {K : Ctx} (C : Cx K sysM RX11 cX11_map 3 3) (hr : Rt K (some .int)) (self43 : Int32 → Int32 → Tau → Option (Int32 × Tau)) (ih43 : ∀ (a1 : Int32) (a2 : Int32) (τ : Tau), Sm K sysM 3 (Qi K sysM) (self43 a1 a2 τ) 43 [(0, .ref 0), (1, .int a1), (2, .int a2)] [] τ) (a1 : Int32) (a2 : Int32) (τ : Tau) : Sm K sysM 3 (Qi K sysM) (X11_map_j67 F self43 a1 a2 τ) 67 [(0, .ref 0), (1, .int a1), (2, .int a2)] [] τ := by
  unfold X11_map_j67
  refine sm_seg C [(.aload_n 0, 0)] (pc' := 68) (L' := [(0, .ref 0), (1, .int a1), (2, .int a2)]) (S' := [.ref 0]) (by decide +kernel) rfl ?_
  refine sm_vcalv [] [] rfl C mw_X11_oneColourMore ml_11_448 rfl (ci := 11) rfl (ltM (by decide +kernel : kdM 0 = 11) (by decide)) (by decide +kernel : kdM 0 = 11) (by decide) ⟨by decide, by decide⟩ (Nat.le_of_ble_eq_true rfl) (by decide +kernel) (c_X11_oneColourMore F τ) (fun r4 τ5 => ?_)
  refine sm_seg C [(.iinc 2 1, 1), (.goto (-31), 0)] (pc' := 43) (L' := [(2, .int (a2 + 1)), (0, .ref 0), (1, .int a1)]) (S' := []) (by decide +kernel) rfl ?_
  exact sm_sub [1, 2, 0] rfl (ih43 a1 (a2 + 1) τ5)
def X11_map_j77 (F : Nat) (a1 : Int32) (a2 : Int32) (τ : Tau) : Option (Int32 × Tau) :=
  if a1 = (-1) then (some (a2, τ)) else (ald τ 15 256 255 fun v6 => some (v6, τ))
theorem s_X11_map_j77 (F : Nat) {K : Ctx} (C : Cx K sysM RX11 cX11_map 3 3) (hr : Rt K (some .int)) (a1 : Int32) (a2 : Int32) (τ : Tau) : Sm K sysM 3 (Qi K sysM) (X11_map_j77 F a1 a2 τ) 77 [(0, .ref 0), (1, .int a1), (2, .int a2)] [] τ := by
  unfold X11_map_j77
  refine sm_seg C [(.iload_n 1, 0), (.iconst (-1), (-1))] (pc' := 79) (L' := [(0, .ref 0), (1, .int a1), (2, .int a2)]) (S' := [.int (-1), .int a1]) (by decide +kernel) rfl ?_
  refine sm_icmpne 86 (off := 7) C (by decide +kernel) (by decide) (fun _ => ?_) (fun _ => ?_)
  · refine sm_seg C [(.iload_n 2, 0), (.goto 11, 0)] (pc' := 94) (L' := [(0, .ref 0), (1, .int a1), (2, .int a2)]) (S' := [.int a2]) (by decide +kernel) rfl ?_
    exact sm_iret C hr rfl (by decide +kernel)
  · refine sm_seg C [(.aload_n 0, 0)] (pc' := 87) (L' := [(0, .ref 0), (1, .int a1), (2, .int a2)]) (S' := [.ref 0]) (by decide +kernel) rfl ?_
    refine sm_getR 11 31 15 cls11 C (ltM (by decide +kernel : kdM 0 = 11) (by decide)) (by decide +kernel : kdM 0 = 11) (obM11 (by decide +kernel : kdM 0 = 11)) (by decide) (frM11_31 (by decide +kernel : kdM 0 = 11)) fl11_57 (by decide +kernel) ?_
    refine sm_seg C [(.sipush 255, 255)] (pc' := 93) (L' := [(0, .ref 0), (1, .int a1), (2, .int a2)]) (S' := [.int 255, .ref 15]) (by decide +kernel) rfl ?_
    refine sm_ald 256 C (ltM (krM11_31 (by decide +kernel : kdM 0 = 11)) (by decide)) (krM11_31 (by decide +kernel : kdM 0 = 11)) (nrM11_31 (by decide +kernel : kdM 0 = 11)) (by decide +kernel) (fun v6 => ?_)
    exact sm_iret C hr rfl (by decide +kernel)
def X11_map_L43 (F : Nat) : Nat → Int32 → Int32 → Tau → Option (Int32 × Tau)
  | 0, _, _, _ => none
  | n + 1, a1, a2, τ =>
    if a1 = (-1) then (ald τ 15 256 255 fun v3 => if v3 = 0 then (X11_map_j67 F (X11_map_L43 F n) a1 a2 τ) else (X11_map_j77 F a1 a2 τ)) else (if a1 ≤ a2 then (X11_map_j77 F a1 a2 τ) else (X11_map_j67 F (X11_map_L43 F n) a1 a2 τ))
theorem s_X11_map_L43 (F : Nat) {K : Ctx} (C : Cx K sysM RX11 cX11_map 3 3) (hr : Rt K (some .int)) : ∀ (n : Nat) (a1 : Int32) (a2 : Int32) (τ : Tau), Sm K sysM 3 (Qi K sysM) (X11_map_L43 F n a1 a2 τ) 43 [(0, .ref 0), (1, .int a1), (2, .int a2)] [] τ := by
  intro n
  induction n with
  | zero => intro a1 a2 τ; exact sm_none
  | succ n ih =>
    intro a1 a2 τ
    rw [X11_map_L43]
    refine sm_seg C [(.iload_n 1, 0), (.iconst (-1), (-1))] (pc' := 45) (L' := [(0, .ref 0), (1, .int a1), (2, .int a2)]) (S' := [.int (-1), .int a1]) (by decide +kernel) rfl ?_
    refine sm_icmpne 62 (off := 17) C (by decide +kernel) (by decide) (fun _ => ?_) (fun _ => ?_)
    · refine sm_seg C [(.aload_n 0, 0)] (pc' := 49) (L' := [(0, .ref 0), (1, .int a1), (2, .int a2)]) (S' := [.ref 0]) (by decide +kernel) rfl ?_
      refine sm_getR 11 31 15 cls11 C (ltM (by decide +kernel : kdM 0 = 11) (by decide)) (by decide +kernel : kdM 0 = 11) (obM11 (by decide +kernel : kdM 0 = 11)) (by decide) (frM11_31 (by decide +kernel : kdM 0 = 11)) fl11_57 (by decide +kernel) ?_
      refine sm_seg C [(.sipush 255, 255)] (pc' := 55) (L' := [(0, .ref 0), (1, .int a1), (2, .int a2)]) (S' := [.int 255, .ref 15]) (by decide +kernel) rfl ?_
      refine sm_ald 256 C (ltM (krM11_31 (by decide +kernel : kdM 0 = 11)) (by decide)) (krM11_31 (by decide +kernel : kdM 0 = 11)) (nrM11_31 (by decide +kernel : kdM 0 = 11)) (by decide +kernel) (fun v3 => ?_)
      refine sm_ifne 77 (off := 21) C (by decide +kernel) (by decide) (fun _ => ?_) (fun _ => ?_)
      · refine sm_seg C [(.goto 8, 0)] (pc' := 67) (L' := [(0, .ref 0), (1, .int a1), (2, .int a2)]) (S' := []) (by decide +kernel) rfl ?_
        exact sm_sub [0, 1, 2] rfl (s_X11_map_j67 F C hr (X11_map_L43 F n) ih a1 a2 τ)
      · exact sm_sub [0, 1, 2] rfl (s_X11_map_j77 F C hr a1 a2 τ)
    · refine sm_seg C [(.iload_n 2, 0), (.iload_n 1, 0)] (pc' := 64) (L' := [(0, .ref 0), (1, .int a1), (2, .int a2)]) (S' := [.int a1, .int a2]) (by decide +kernel) rfl ?_
      refine sm_icmpge 77 (off := 13) C (by decide +kernel) (by decide) (fun _ => ?_) (fun _ => ?_)
      · exact sm_sub [0, 1, 2] rfl (s_X11_map_j77 F C hr a1 a2 τ)
      · exact sm_sub [0, 1, 2] rfl (s_X11_map_j67 F C hr (X11_map_L43 F n) ih a1 a2 τ)
def X11_map_j34 (F : Nat) (self13 : Int32 → Int32 → Tau → Option (Int32 × Tau)) (a1 : Int32) (a2 : Int32) (z0 : Int32) (z1 : Int32) (τ : Tau) : Option (Int32 × Tau) :=
  ast τ 15 256 z1 z0 fun τ7 => self13 a1 (a2 + 1) τ7
theorem s_X11_map_j34 (F : Nat) {K : Ctx} (C : Cx K sysM RX11 cX11_map 3 3) (hr : Rt K (some .int)) (self13 : Int32 → Int32 → Tau → Option (Int32 × Tau)) (ih13 : ∀ (a1 : Int32) (a2 : Int32) (τ : Tau), Sm K sysM 3 (Qi K sysM) (self13 a1 a2 τ) 13 [(0, .ref 0), (1, .int a1), (2, .int a2)] [] τ) (a1 : Int32) (a2 : Int32) (z0 : Int32) (z1 : Int32) (τ : Tau) : Sm K sysM 3 (Qi K sysM) (X11_map_j34 F self13 a1 a2 z0 z1 τ) 34 [(0, .ref 0), (1, .int a1), (2, .int a2)] [.int z0, .int z1, .ref 15] τ := by
  unfold X11_map_j34
  refine sm_ast 256 C (ltM (krM11_31 (by decide +kernel : kdM 0 = 11)) (by decide)) (krM11_31 (by decide +kernel : kdM 0 = 11)) (nrM11_31 (by decide +kernel : kdM 0 = 11)) (by decide +kernel) (fun τ7 => ?_)
  refine sm_seg C [(.iinc 2 1, 1), (.goto (-25), 0)] (pc' := 13) (L' := [(2, .int (a2 + 1)), (0, .ref 0), (1, .int a1)]) (S' := []) (by decide +kernel) rfl ?_
  exact sm_sub [1, 2, 0] rfl (ih13 a1 (a2 + 1) τ7)
def X11_map_L13 (F : Nat) : Nat → Int32 → Int32 → Tau → Option (Int32 × Tau)
  | 0, _, _, _ => none
  | n + 1, a1, a2, τ =>
    if 256 ≤ a2 then (X11_map_L43 F F a1 0 τ) else (if a2 = 0 then (X11_map_j34 F (X11_map_L13 F n) a1 a2 1 a2 τ) else (X11_map_j34 F (X11_map_L13 F n) a1 a2 0 a2 τ))
theorem s_X11_map_L13 (F : Nat) {K : Ctx} (C : Cx K sysM RX11 cX11_map 3 3) (hr : Rt K (some .int)) : ∀ (n : Nat) (a1 : Int32) (a2 : Int32) (τ : Tau), Sm K sysM 3 (Qi K sysM) (X11_map_L13 F n a1 a2 τ) 13 [(0, .ref 0), (1, .int a1), (2, .int a2)] [] τ := by
  intro n
  induction n with
  | zero => intro a1 a2 τ; exact sm_none
  | succ n ih =>
    intro a1 a2 τ
    rw [X11_map_L13]
    refine sm_seg C [(.iload_n 2, 0), (.sipush 256, 256)] (pc' := 17) (L' := [(0, .ref 0), (1, .int a1), (2, .int a2)]) (S' := [.int 256, .int a2]) (by decide +kernel) rfl ?_
    refine sm_icmpge 41 (off := 24) C (by decide +kernel) (by decide) (fun _ => ?_) (fun _ => ?_)
    · refine sm_seg C [(.iconst 0, 0), (.istore_n 2, 0)] (pc' := 43) (L' := [(2, .int 0), (0, .ref 0), (1, .int a1)]) (S' := []) (by decide +kernel) rfl ?_
      exact sm_sub [1, 2, 0] rfl (s_X11_map_L43 F C hr F a1 0 τ)
    · refine sm_seg C [(.aload_n 0, 0)] (pc' := 21) (L' := [(0, .ref 0), (1, .int a1), (2, .int a2)]) (S' := [.ref 0]) (by decide +kernel) rfl ?_
      refine sm_getR 11 31 15 cls11 C (ltM (by decide +kernel : kdM 0 = 11) (by decide)) (by decide +kernel : kdM 0 = 11) (obM11 (by decide +kernel : kdM 0 = 11)) (by decide) (frM11_31 (by decide +kernel : kdM 0 = 11)) fl11_57 (by decide +kernel) ?_
      refine sm_seg C [(.iload_n 2, 0), (.iload_n 2, 0)] (pc' := 26) (L' := [(0, .ref 0), (1, .int a1), (2, .int a2)]) (S' := [.int a2, .int a2, .ref 15]) (by decide +kernel) rfl ?_
      refine sm_ifne 33 (off := 7) C (by decide +kernel) (by decide) (fun _ => ?_) (fun _ => ?_)
      · refine sm_seg C [(.iconst 1, 1), (.goto 4, 0)] (pc' := 34) (L' := [(0, .ref 0), (1, .int a1), (2, .int a2)]) (S' := [.int 1, .int a2, .ref 15]) (by decide +kernel) rfl ?_
        exact sm_sub [0, 1, 2] rfl (s_X11_map_j34 F C hr (X11_map_L13 F n) ih a1 a2 1 a2 τ)
      · refine sm_seg C [(.iconst 0, 0)] (pc' := 34) (L' := [(0, .ref 0), (1, .int a1), (2, .int a2)]) (S' := [.int 0, .int a2, .ref 15]) (by decide +kernel) rfl ?_
        exact sm_sub [0, 1, 2] rfl (s_X11_map_j34 F C hr (X11_map_L13 F n) ih a1 a2 0 a2 τ)
def X11_map (F : Nat) (a1 : Int32) (τ : Tau) : Option (Int32 × Tau) :=
  cal (X11_isIn F a1 (-1) 5 τ) fun r1 τ2 => if r1 = 0 then (some ((-1), τ2)) else (X11_map_L13 F F a1 0 τ2)
set_option maxRecDepth 20000 in
set_option maxHeartbeats 4000000 in
theorem c_X11_map (F : Nat) (a1 : Int32) (τ : Tau) (r : Int32) (τ' : Tau) (h : X11_map F a1 τ = some (r, τ')) : MCi sysM yX11_map cX11_map 3 (some .int) 3 [.ref 0, .int a1] τ r τ' :=
  mci_of (by decide +kernel) (Nat.le_of_ble_eq_true rfl) (fun K C hr => by
    show Sm K sysM 3 (Qi K sysM) (X11_map F a1 τ) 0 [(0, .ref 0), (1, .int a1)] [] τ
    unfold X11_map
    refine sm_seg C [(.iload_n 1, 0), (.iconst (-1), (-1)), (.iconst 5, 5)] (pc' := 3) (L' := [(0, .ref 0), (1, .int a1)]) (S' := [.int 5, .int (-1), .int a1]) (by decide +kernel) rfl ?_
    refine sm_scal [.int a1, .int (-1), .int 5] [] rfl C mw_X11_isIn ml_11_78 rfl ⟨by decide, by decide⟩ (Nat.le_of_ble_eq_true rfl) (by decide +kernel) (c_X11_isIn F a1 (-1) 5 τ) (fun r1 τ2 => ?_)
    refine sm_ifne 11 (off := 5) C (by decide +kernel) (by decide) (fun _ => ?_) (fun _ => ?_)
    · refine sm_seg C [(.iconst (-1), (-1))] (pc' := 10) (L' := [(0, .ref 0), (1, .int a1)]) (S' := [.int (-1)]) (by decide +kernel) rfl ?_
      exact sm_iret C hr rfl (by decide +kernel)
    · refine sm_seg C [(.iconst 0, 0), (.istore_n 2, 0)] (pc' := 13) (L' := [(2, .int 0), (0, .ref 0), (1, .int a1)]) (S' := []) (by decide +kernel) rfl ?_
      exact sm_sub [1, 2, 0] rfl (s_X11_map_L13 F C hr F a1 0 τ2)) h
