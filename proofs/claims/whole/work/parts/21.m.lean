/-! BasketEnvoysModel.both -/
def X11_both_j101 (F : Nat) (a1 : Int32) (a2 : Int32) (τ : Tau) : Option (Int32 × Tau) :=
  some ((a1 ||| a2), τ)
theorem s_X11_both_j101 (F : Nat) {K : Ctx} (C : Cx K sysM RX11 cX11_both 3 1) (hr : Rt K (some .int)) (a1 : Int32) (a2 : Int32) (τ : Tau) : Sm K sysM 3 (Qi K sysM) (X11_both_j101 F a1 a2 τ) 101 [(1, .int a1), (2, .int a2)] [] τ := by
  unfold X11_both_j101
  refine sm_seg C [(.iload_n 1, 0), (.iload_n 2, 0), (.ior, 0)] (pc' := 104) (L' := [(1, .int a1), (2, .int a2)]) (S' := [.int (a1 ||| a2)]) (by decide +kernel) rfl ?_
  exact sm_iret C hr rfl (by decide +kernel)
def X11_both (F : Nat) (a0 : Int32) (a1 : Int32) (a2 : Int32) (τ : Tau) : Option (Int32 × Tau) :=
  if a0 = 23 then (some ((a1 + a2), τ)) else if a0 = 24 then (some ((a1 - a2), τ)) else if a0 = 25 then (some ((a1 * a2), τ)) else if a0 = 26 then (X11_both_j101 F a1 a2 τ) else if a0 = 27 then (if a2 ≤ a1 then (some (0, τ)) else (some (1, τ))) else if a0 = 28 then (if a1 = a2 then (some (1, τ)) else (some (0, τ))) else if a0 = 29 then (if a1 ≤ a2 then (some (0, τ)) else (some (1, τ))) else if a0 = 30 then (X11_both_j101 F a1 a2 τ) else if a0 = 31 then (some ((a1 &&& a2), τ)) else (X11_both_j101 F a1 a2 τ)
set_option maxRecDepth 20000 in
set_option maxHeartbeats 4000000 in
theorem c_X11_both (F : Nat) (a0 : Int32) (a1 : Int32) (a2 : Int32) (τ : Tau) (r : Int32) (τ' : Tau) (h : X11_both F a0 a1 a2 τ = some (r, τ')) : MCi sysM yX11_both cX11_both 3 (some .int) 1 [.int a0, .int a1, .int a2] τ r τ' :=
  mci_of (by decide +kernel) (Nat.le_of_ble_eq_true rfl) (fun K C hr => by
    show Sm K sysM 3 (Qi K sysM) (X11_both F a0 a1 a2 τ) 0 [(0, .int a0), (1, .int a1), (2, .int a2)] [] τ
    unfold X11_both
    refine sm_seg C [(.iload_n 0, 0)] (pc' := 1) (L' := [(0, .int a0), (1, .int a1), (2, .int a2)]) (S' := [.int a0]) (by decide +kernel) rfl ?_
    have hd1 : decode cX11_both 1 = .ok (.tableswitch 100 23 31 #[51, 55, 59, 100, 63, 74, 85, 100, 96], 51) := by decide +kernel
    refine sm_ite (fun e => ?_) (fun n1_0 => ?_)
    · refine sm_tabIn (off := 51) 52 C hd1 (by rw [e]; decide) (by rw [e]; decide) (by rw [e]; decide) (by decide) ?_
      refine sm_seg C [(.iload_n 1, 0), (.iload_n 2, 0), (.iadd, 0)] (pc' := 55) (L' := [(0, .int a0), (1, .int a1), (2, .int a2)]) (S' := [.int (a1 + a2)]) (by decide +kernel) rfl ?_
      exact sm_iret C hr rfl (by decide +kernel)
    refine sm_ite (fun e => ?_) (fun n1_1 => ?_)
    · refine sm_tabIn (off := 55) 56 C hd1 (by rw [e]; decide) (by rw [e]; decide) (by rw [e]; decide) (by decide) ?_
      refine sm_seg C [(.iload_n 1, 0), (.iload_n 2, 0), (.isub, 0)] (pc' := 59) (L' := [(0, .int a0), (1, .int a1), (2, .int a2)]) (S' := [.int (a1 - a2)]) (by decide +kernel) rfl ?_
      exact sm_iret C hr rfl (by decide +kernel)
    refine sm_ite (fun e => ?_) (fun n1_2 => ?_)
    · refine sm_tabIn (off := 59) 60 C hd1 (by rw [e]; decide) (by rw [e]; decide) (by rw [e]; decide) (by decide) ?_
      refine sm_seg C [(.iload_n 1, 0), (.iload_n 2, 0), (.imul, 0)] (pc' := 63) (L' := [(0, .int a0), (1, .int a1), (2, .int a2)]) (S' := [.int (a1 * a2)]) (by decide +kernel) rfl ?_
      exact sm_iret C hr rfl (by decide +kernel)
    refine sm_ite (fun e => ?_) (fun n1_3 => ?_)
    · refine sm_tabIn (off := 100) 101 C hd1 (by rw [e]; decide) (by rw [e]; decide) (by rw [e]; decide) (by decide) ?_
      exact sm_sub [1, 2] rfl (s_X11_both_j101 F C hr a1 a2 τ)
    refine sm_ite (fun e => ?_) (fun n1_4 => ?_)
    · refine sm_tabIn (off := 63) 64 C hd1 (by rw [e]; decide) (by rw [e]; decide) (by rw [e]; decide) (by decide) ?_
      refine sm_seg C [(.iload_n 1, 0), (.iload_n 2, 0)] (pc' := 66) (L' := [(0, .int a0), (1, .int a1), (2, .int a2)]) (S' := [.int a2, .int a1]) (by decide +kernel) rfl ?_
      refine sm_icmpge 73 (off := 7) C (by decide +kernel) (by decide) (fun _ => ?_) (fun _ => ?_)
      · refine sm_seg C [(.iconst 0, 0)] (pc' := 74) (L' := [(0, .int a0), (1, .int a1), (2, .int a2)]) (S' := [.int 0]) (by decide +kernel) rfl ?_
        exact sm_iret C hr rfl (by decide +kernel)
      · refine sm_seg C [(.iconst 1, 1), (.goto 4, 0)] (pc' := 74) (L' := [(0, .int a0), (1, .int a1), (2, .int a2)]) (S' := [.int 1]) (by decide +kernel) rfl ?_
        exact sm_iret C hr rfl (by decide +kernel)
    refine sm_ite (fun e => ?_) (fun n1_5 => ?_)
    · refine sm_tabIn (off := 74) 75 C hd1 (by rw [e]; decide) (by rw [e]; decide) (by rw [e]; decide) (by decide) ?_
      refine sm_seg C [(.iload_n 1, 0), (.iload_n 2, 0)] (pc' := 77) (L' := [(0, .int a0), (1, .int a1), (2, .int a2)]) (S' := [.int a2, .int a1]) (by decide +kernel) rfl ?_
      refine sm_icmpne 84 (off := 7) C (by decide +kernel) (by decide) (fun _ => ?_) (fun _ => ?_)
      · refine sm_seg C [(.iconst 1, 1), (.goto 4, 0)] (pc' := 85) (L' := [(0, .int a0), (1, .int a1), (2, .int a2)]) (S' := [.int 1]) (by decide +kernel) rfl ?_
        exact sm_iret C hr rfl (by decide +kernel)
      · refine sm_seg C [(.iconst 0, 0)] (pc' := 85) (L' := [(0, .int a0), (1, .int a1), (2, .int a2)]) (S' := [.int 0]) (by decide +kernel) rfl ?_
        exact sm_iret C hr rfl (by decide +kernel)
    refine sm_ite (fun e => ?_) (fun n1_6 => ?_)
    · refine sm_tabIn (off := 85) 86 C hd1 (by rw [e]; decide) (by rw [e]; decide) (by rw [e]; decide) (by decide) ?_
      refine sm_seg C [(.iload_n 1, 0), (.iload_n 2, 0)] (pc' := 88) (L' := [(0, .int a0), (1, .int a1), (2, .int a2)]) (S' := [.int a2, .int a1]) (by decide +kernel) rfl ?_
      refine sm_icmple 95 (off := 7) C (by decide +kernel) (by decide) (fun _ => ?_) (fun _ => ?_)
      · refine sm_seg C [(.iconst 0, 0)] (pc' := 96) (L' := [(0, .int a0), (1, .int a1), (2, .int a2)]) (S' := [.int 0]) (by decide +kernel) rfl ?_
        exact sm_iret C hr rfl (by decide +kernel)
      · refine sm_seg C [(.iconst 1, 1), (.goto 4, 0)] (pc' := 96) (L' := [(0, .int a0), (1, .int a1), (2, .int a2)]) (S' := [.int 1]) (by decide +kernel) rfl ?_
        exact sm_iret C hr rfl (by decide +kernel)
    refine sm_ite (fun e => ?_) (fun n1_7 => ?_)
    · refine sm_tabIn (off := 100) 101 C hd1 (by rw [e]; decide) (by rw [e]; decide) (by rw [e]; decide) (by decide) ?_
      exact sm_sub [1, 2] rfl (s_X11_both_j101 F C hr a1 a2 τ)
    refine sm_ite (fun e => ?_) (fun n1_8 => ?_)
    · refine sm_tabIn (off := 96) 97 C hd1 (by rw [e]; decide) (by rw [e]; decide) (by rw [e]; decide) (by decide) ?_
      refine sm_seg C [(.iload_n 1, 0), (.iload_n 2, 0), (.iand, 0)] (pc' := 100) (L' := [(0, .int a0), (1, .int a1), (2, .int a2)]) (S' := [.int (a1 &&& a2)]) (by decide +kernel) rfl ?_
      exact sm_iret C hr rfl (by decide +kernel)
    refine sm_tabOut 101 C hd1 (by have q0 := toInt_neZ (z := 23) n1_0 (by decide); have q1 := toInt_neZ (z := 24) n1_1 (by decide); have q2 := toInt_neZ (z := 25) n1_2 (by decide); have q3 := toInt_neZ (z := 26) n1_3 (by decide); have q4 := toInt_neZ (z := 27) n1_4 (by decide); have q5 := toInt_neZ (z := 28) n1_5 (by decide); have q6 := toInt_neZ (z := 29) n1_6 (by decide); have q7 := toInt_neZ (z := 30) n1_7 (by decide); have q8 := toInt_neZ (z := 31) n1_8 (by decide); omega) (by decide) ?_
    exact sm_sub [1, 2] rfl (s_X11_both_j101 F C hr a1 a2 τ)) h
/-! BasketEnvoysModel.comesTo -/
def X11_comesTo_j160 (F : Nat) (self5 : Int32 → Int32 → Int32 → Tau → Option (Int32 × Tau)) (a2 : Int32) (a3 : Int32) (a4 : Int32) (τ : Tau) : Option (Int32 × Tau) :=
  self5 a2 a3 (a4 + 1) τ
theorem s_X11_comesTo_j160 (F : Nat) {K : Ctx} (C : Cx K sysM RX11 cX11_comesTo 7 2) (hr : Rt K (some .int)) (self5 : Int32 → Int32 → Int32 → Tau → Option (Int32 × Tau)) (ih5 : ∀ (a2 : Int32) (a3 : Int32) (a4 : Int32) (τ : Tau), Sm K sysM 7 (Qi K sysM) (self5 a2 a3 a4 τ) 5 [(0, .ref 0), (2, .int a2), (3, .int a3), (4, .int a4)] [] τ) (a2 : Int32) (a3 : Int32) (a4 : Int32) (τ : Tau) : Sm K sysM 7 (Qi K sysM) (X11_comesTo_j160 F self5 a2 a3 a4 τ) 160 [(0, .ref 0), (2, .int a2), (3, .int a3), (4, .int a4)] [] τ := by
  unfold X11_comesTo_j160
  refine sm_seg C [(.iinc 4 1, 1), (.goto (-158), 0)] (pc' := 5) (L' := [(4, .int (a4 + 1)), (0, .ref 0), (2, .int a2), (3, .int a3)]) (S' := []) (by decide +kernel) rfl ?_
  exact sm_sub [1, 2, 3, 0] rfl (ih5 a2 a3 (a4 + 1) τ)
def X11_comesTo_j72 (F : Nat) (self5 : Int32 → Int32 → Int32 → Tau → Option (Int32 × Tau)) (a2 : Int32) (a3 : Int32) (a4 : Int32) (z0 : Int32) (z1 : Int32) (τ : Tau) : Option (Int32 × Tau) :=
  ast τ 9 420 z1 z0 fun τ13 => X11_comesTo_j160 F self5 a2 (a3 + 1) a4 τ13
theorem s_X11_comesTo_j72 (F : Nat) {K : Ctx} (C : Cx K sysM RX11 cX11_comesTo 7 2) (hr : Rt K (some .int)) (self5 : Int32 → Int32 → Int32 → Tau → Option (Int32 × Tau)) (ih5 : ∀ (a2 : Int32) (a3 : Int32) (a4 : Int32) (τ : Tau), Sm K sysM 7 (Qi K sysM) (self5 a2 a3 a4 τ) 5 [(0, .ref 0), (2, .int a2), (3, .int a3), (4, .int a4)] [] τ) (a2 : Int32) (a3 : Int32) (a4 : Int32) (z0 : Int32) (z1 : Int32) (τ : Tau) : Sm K sysM 7 (Qi K sysM) (X11_comesTo_j72 F self5 a2 a3 a4 z0 z1 τ) 72 [(0, .ref 0), (2, .int a2), (3, .int a3), (4, .int a4)] [.int z0, .int z1, .ref 9] τ := by
  unfold X11_comesTo_j72
  refine sm_ast 420 C (ltM (krM11_10 (by decide +kernel : kdM 0 = 11)) (by decide)) (krM11_10 (by decide +kernel : kdM 0 = 11)) (nrM11_10 (by decide +kernel : kdM 0 = 11)) (by decide +kernel) (fun τ13 => ?_)
  refine sm_seg C [(.iinc 3 1, 1), (.goto 84, 0)] (pc' := 160) (L' := [(3, .int (a3 + 1)), (0, .ref 0), (2, .int a2), (4, .int a4)]) (S' := []) (by decide +kernel) rfl ?_
  exact sm_sub [1, 2, 0, 3] rfl (s_X11_comesTo_j160 F C hr self5 ih5 a2 (a3 + 1) a4 τ13)
def X11_comesTo_L5 (F : Nat) : Nat → Int32 → Int32 → Int32 → Tau → Option (Int32 × Tau)
  | 0, _, _, _, _ => none
  | n + 1, a2, a3, a4, τ =>
    if a2 ≤ a4 then (ald τ 9 420 0 fun v1 => some (v1, τ)) else (ald τ 1 2244 (1424 + (2 * a4)) fun v2 => ald τ 1 2244 ((1424 + (2 * a4)) + 1) fun v3 => if 23 ≤ v2 then (if v2 = 26 then (ald τ 9 420 (a3 - 1) fun v4 => if v3 = 0 then none else (ast τ 9 420 (a3 - 1) (v4 / v3) fun τ5 => X11_comesTo_j160 F (X11_comesTo_L5 F n) a2 a3 a4 τ5)) else (if v2 = 30 then (ald τ 9 420 (a3 - 1) fun v6 => ast τ 9 420 (a3 - 1) (1 - v6) fun τ7 => X11_comesTo_j160 F (X11_comesTo_L5 F n) a2 a3 a4 τ7) else (ald τ 9 420 ((a3 + (-1)) - 1) fun v8 => ald τ 9 420 (a3 + (-1)) fun v9 => cal (X11_both F v2 v8 v9 τ) fun r10 τ11 => ast τ11 9 420 ((a3 + (-1)) - 1) r10 fun τ12 => X11_comesTo_j160 F (X11_comesTo_L5 F n) a2 (a3 + (-1)) a4 τ12))) else (if v2 = 0 then (X11_comesTo_j72 F (X11_comesTo_L5 F n) a2 a3 a4 v3 a3 τ) else (ald τ 10 11 v2 fun v14 => X11_comesTo_j72 F (X11_comesTo_L5 F n) a2 a3 a4 v14 a3 τ)))
theorem s_X11_comesTo_L5 (F : Nat) {K : Ctx} (C : Cx K sysM RX11 cX11_comesTo 7 2) (hr : Rt K (some .int)) : ∀ (n : Nat) (a2 : Int32) (a3 : Int32) (a4 : Int32) (τ : Tau), Sm K sysM 7 (Qi K sysM) (X11_comesTo_L5 F n a2 a3 a4 τ) 5 [(0, .ref 0), (2, .int a2), (3, .int a3), (4, .int a4)] [] τ := by
  intro n
  induction n with
  | zero => intro a2 a3 a4 τ; exact sm_none
  | succ n ih =>
    intro a2 a3 a4 τ
    rw [X11_comesTo_L5]
    refine sm_seg C [(.iload 4, 0), (.iload_n 2, 0)] (pc' := 8) (L' := [(0, .ref 0), (2, .int a2), (3, .int a3), (4, .int a4)]) (S' := [.int a2, .int a4]) (by decide +kernel) rfl ?_
    refine sm_icmpge 166 (off := 158) C (by decide +kernel) (by decide) (fun _ => ?_) (fun _ => ?_)
    · refine sm_seg C [(.aload_n 0, 0)] (pc' := 167) (L' := [(0, .ref 0), (2, .int a2), (3, .int a3), (4, .int a4)]) (S' := [.ref 0]) (by decide +kernel) rfl ?_
      refine sm_getR 11 10 9 cls11 C (ltM (by decide +kernel : kdM 0 = 11) (by decide)) (by decide +kernel : kdM 0 = 11) (obM11 (by decide +kernel : kdM 0 = 11)) (by decide) (frM11_10 (by decide +kernel : kdM 0 = 11)) fl11_34 (by decide +kernel) ?_
      refine sm_seg C [(.iconst 0, 0)] (pc' := 171) (L' := [(0, .ref 0), (2, .int a2), (3, .int a3), (4, .int a4)]) (S' := [.int 0, .ref 9]) (by decide +kernel) rfl ?_
      refine sm_ald 420 C (ltM (krM11_10 (by decide +kernel : kdM 0 = 11)) (by decide)) (krM11_10 (by decide +kernel : kdM 0 = 11)) (nrM11_10 (by decide +kernel : kdM 0 = 11)) (by decide +kernel) (fun v1 => ?_)
      exact sm_iret C hr rfl (by decide +kernel)
    · refine sm_seg C [(.aload_n 0, 0)] (pc' := 12) (L' := [(0, .ref 0), (2, .int a2), (3, .int a3), (4, .int a4)]) (S' := [.ref 0]) (by decide +kernel) rfl ?_
      refine sm_getR 11 0 1 cls11 C (ltM (by decide +kernel : kdM 0 = 11) (by decide)) (by decide +kernel : kdM 0 = 11) (obM11 (by decide +kernel : kdM 0 = 11)) (by decide) (frM11_0 (by decide +kernel : kdM 0 = 11)) fl11_7 (by decide +kernel) ?_
      refine sm_seg C [(.sipush 1424, 1424), (.iconst 2, 2), (.iload 4, 0), (.imul, 0), (.iadd, 0)] (pc' := 23) (L' := [(0, .ref 0), (2, .int a2), (3, .int a3), (4, .int a4)]) (S' := [.int (1424 + (2 * a4)), .ref 1]) (by decide +kernel) rfl ?_
      refine sm_ald 2244 C (ltM (krM11_0 (by decide +kernel : kdM 0 = 11)) (by decide)) (krM11_0 (by decide +kernel : kdM 0 = 11)) (nrM11_0 (by decide +kernel : kdM 0 = 11)) (by decide +kernel) (fun v2 => ?_)
      refine sm_seg C [(.istore 5, 0), (.aload_n 0, 0)] (pc' := 27) (L' := [(5, .int v2), (0, .ref 0), (2, .int a2), (3, .int a3), (4, .int a4)]) (S' := [.ref 0]) (by decide +kernel) rfl ?_
      refine sm_getR 11 0 1 cls11 C (ltM (by decide +kernel : kdM 0 = 11) (by decide)) (by decide +kernel : kdM 0 = 11) (obM11 (by decide +kernel : kdM 0 = 11)) (by decide) (frM11_0 (by decide +kernel : kdM 0 = 11)) fl11_7 (by decide +kernel) ?_
      refine sm_seg C [(.sipush 1424, 1424), (.iconst 2, 2), (.iload 4, 0), (.imul, 0), (.iadd, 0), (.iconst 1, 1), (.iadd, 0)] (pc' := 40) (L' := [(5, .int v2), (0, .ref 0), (2, .int a2), (3, .int a3), (4, .int a4)]) (S' := [.int ((1424 + (2 * a4)) + 1), .ref 1]) (by decide +kernel) rfl ?_
      refine sm_ald 2244 C (ltM (krM11_0 (by decide +kernel : kdM 0 = 11)) (by decide)) (krM11_0 (by decide +kernel : kdM 0 = 11)) (nrM11_0 (by decide +kernel : kdM 0 = 11)) (by decide +kernel) (fun v3 => ?_)
      refine sm_seg C [(.istore 6, 0), (.iload 5, 0), (.bipush 23, 23)] (pc' := 47) (L' := [(6, .int v3), (5, .int v2), (0, .ref 0), (2, .int a2), (3, .int a3), (4, .int a4)]) (S' := [.int 23, .int v2]) (by decide +kernel) rfl ?_
      refine sm_icmpge 79 (off := 32) C (by decide +kernel) (by decide) (fun _ => ?_) (fun _ => ?_)
      · refine sm_seg C [(.iload 5, 0), (.bipush 26, 26)] (pc' := 83) (L' := [(6, .int v3), (5, .int v2), (0, .ref 0), (2, .int a2), (3, .int a3), (4, .int a4)]) (S' := [.int 26, .int v2]) (by decide +kernel) rfl ?_
        refine sm_icmpne 102 (off := 19) C (by decide +kernel) (by decide) (fun _ => ?_) (fun _ => ?_)
        · refine sm_seg C [(.aload_n 0, 0)] (pc' := 87) (L' := [(6, .int v3), (5, .int v2), (0, .ref 0), (2, .int a2), (3, .int a3), (4, .int a4)]) (S' := [.ref 0]) (by decide +kernel) rfl ?_
          refine sm_getR 11 10 9 cls11 C (ltM (by decide +kernel : kdM 0 = 11) (by decide)) (by decide +kernel : kdM 0 = 11) (obM11 (by decide +kernel : kdM 0 = 11)) (by decide) (frM11_10 (by decide +kernel : kdM 0 = 11)) fl11_34 (by decide +kernel) ?_
          refine sm_seg C [(.iload_n 3, 0), (.iconst 1, 1), (.isub, 0), (.dup2, 0)] (pc' := 94) (L' := [(6, .int v3), (5, .int v2), (0, .ref 0), (2, .int a2), (3, .int a3), (4, .int a4)]) (S' := [.int (a3 - 1), .ref 9, .int (a3 - 1), .ref 9]) (by decide +kernel) rfl ?_
          refine sm_ald 420 C (ltM (krM11_10 (by decide +kernel : kdM 0 = 11)) (by decide)) (krM11_10 (by decide +kernel : kdM 0 = 11)) (nrM11_10 (by decide +kernel : kdM 0 = 11)) (by decide +kernel) (fun v4 => ?_)
          refine sm_seg C [(.iload 6, 0)] (pc' := 97) (L' := [(6, .int v3), (5, .int v2), (0, .ref 0), (2, .int a2), (3, .int a3), (4, .int a4)]) (S' := [.int v3, .int v4, .int (a3 - 1), .ref 9]) (by decide +kernel) rfl ?_
          refine sm_ite (fun _ => sm_none) (fun hz => ?_)
          refine sm_idiv C (by decide +kernel) hz ?_
          refine sm_ast 420 C (ltM (krM11_10 (by decide +kernel : kdM 0 = 11)) (by decide)) (krM11_10 (by decide +kernel : kdM 0 = 11)) (nrM11_10 (by decide +kernel : kdM 0 = 11)) (by decide +kernel) (fun τ5 => ?_)
          refine sm_seg C [(.goto 61, 0)] (pc' := 160) (L' := [(6, .int v3), (5, .int v2), (0, .ref 0), (2, .int a2), (3, .int a3), (4, .int a4)]) (S' := []) (by decide +kernel) rfl ?_
          exact sm_sub [2, 3, 4, 5] rfl (s_X11_comesTo_j160 F C hr (X11_comesTo_L5 F n) ih a2 a3 a4 τ5)
        · refine sm_seg C [(.iload 5, 0), (.bipush 30, 30)] (pc' := 106) (L' := [(6, .int v3), (5, .int v2), (0, .ref 0), (2, .int a2), (3, .int a3), (4, .int a4)]) (S' := [.int 30, .int v2]) (by decide +kernel) rfl ?_
          refine sm_icmpne 130 (off := 24) C (by decide +kernel) (by decide) (fun _ => ?_) (fun _ => ?_)
          · refine sm_seg C [(.aload_n 0, 0)] (pc' := 110) (L' := [(6, .int v3), (5, .int v2), (0, .ref 0), (2, .int a2), (3, .int a3), (4, .int a4)]) (S' := [.ref 0]) (by decide +kernel) rfl ?_
            refine sm_getR 11 10 9 cls11 C (ltM (by decide +kernel : kdM 0 = 11) (by decide)) (by decide +kernel : kdM 0 = 11) (obM11 (by decide +kernel : kdM 0 = 11)) (by decide) (frM11_10 (by decide +kernel : kdM 0 = 11)) fl11_34 (by decide +kernel) ?_
            refine sm_seg C [(.iload_n 3, 0), (.iconst 1, 1), (.isub, 0), (.iconst 1, 1), (.aload_n 0, 0)] (pc' := 118) (L' := [(6, .int v3), (5, .int v2), (0, .ref 0), (2, .int a2), (3, .int a3), (4, .int a4)]) (S' := [.ref 0, .int 1, .int (a3 - 1), .ref 9]) (by decide +kernel) rfl ?_
            refine sm_getR 11 10 9 cls11 C (ltM (by decide +kernel : kdM 0 = 11) (by decide)) (by decide +kernel : kdM 0 = 11) (obM11 (by decide +kernel : kdM 0 = 11)) (by decide) (frM11_10 (by decide +kernel : kdM 0 = 11)) fl11_34 (by decide +kernel) ?_
            refine sm_seg C [(.iload_n 3, 0), (.iconst 1, 1), (.isub, 0)] (pc' := 124) (L' := [(6, .int v3), (5, .int v2), (0, .ref 0), (2, .int a2), (3, .int a3), (4, .int a4)]) (S' := [.int (a3 - 1), .ref 9, .int 1, .int (a3 - 1), .ref 9]) (by decide +kernel) rfl ?_
            refine sm_ald 420 C (ltM (krM11_10 (by decide +kernel : kdM 0 = 11)) (by decide)) (krM11_10 (by decide +kernel : kdM 0 = 11)) (nrM11_10 (by decide +kernel : kdM 0 = 11)) (by decide +kernel) (fun v6 => ?_)
            refine sm_seg C [(.isub, 0)] (pc' := 126) (L' := [(6, .int v3), (5, .int v2), (0, .ref 0), (2, .int a2), (3, .int a3), (4, .int a4)]) (S' := [.int (1 - v6), .int (a3 - 1), .ref 9]) (by decide +kernel) rfl ?_
            refine sm_ast 420 C (ltM (krM11_10 (by decide +kernel : kdM 0 = 11)) (by decide)) (krM11_10 (by decide +kernel : kdM 0 = 11)) (nrM11_10 (by decide +kernel : kdM 0 = 11)) (by decide +kernel) (fun τ7 => ?_)
            refine sm_seg C [(.goto 33, 0)] (pc' := 160) (L' := [(6, .int v3), (5, .int v2), (0, .ref 0), (2, .int a2), (3, .int a3), (4, .int a4)]) (S' := []) (by decide +kernel) rfl ?_
            exact sm_sub [2, 3, 4, 5] rfl (s_X11_comesTo_j160 F C hr (X11_comesTo_L5 F n) ih a2 a3 a4 τ7)
          · refine sm_seg C [(.iinc 3 (-1), (-1)), (.aload_n 0, 0)] (pc' := 134) (L' := [(3, .int (a3 + (-1))), (6, .int v3), (5, .int v2), (0, .ref 0), (2, .int a2), (4, .int a4)]) (S' := [.ref 0]) (by decide +kernel) rfl ?_
            refine sm_getR 11 10 9 cls11 C (ltM (by decide +kernel : kdM 0 = 11) (by decide)) (by decide +kernel : kdM 0 = 11) (obM11 (by decide +kernel : kdM 0 = 11)) (by decide) (frM11_10 (by decide +kernel : kdM 0 = 11)) fl11_34 (by decide +kernel) ?_
            refine sm_seg C [(.iload_n 3, 0), (.iconst 1, 1), (.isub, 0), (.iload 5, 0), (.aload_n 0, 0)] (pc' := 143) (L' := [(3, .int (a3 + (-1))), (6, .int v3), (5, .int v2), (0, .ref 0), (2, .int a2), (4, .int a4)]) (S' := [.ref 0, .int v2, .int ((a3 + (-1)) - 1), .ref 9]) (by decide +kernel) rfl ?_
            refine sm_getR 11 10 9 cls11 C (ltM (by decide +kernel : kdM 0 = 11) (by decide)) (by decide +kernel : kdM 0 = 11) (obM11 (by decide +kernel : kdM 0 = 11)) (by decide) (frM11_10 (by decide +kernel : kdM 0 = 11)) fl11_34 (by decide +kernel) ?_
            refine sm_seg C [(.iload_n 3, 0), (.iconst 1, 1), (.isub, 0)] (pc' := 149) (L' := [(3, .int (a3 + (-1))), (6, .int v3), (5, .int v2), (0, .ref 0), (2, .int a2), (4, .int a4)]) (S' := [.int ((a3 + (-1)) - 1), .ref 9, .int v2, .int ((a3 + (-1)) - 1), .ref 9]) (by decide +kernel) rfl ?_
            refine sm_ald 420 C (ltM (krM11_10 (by decide +kernel : kdM 0 = 11)) (by decide)) (krM11_10 (by decide +kernel : kdM 0 = 11)) (nrM11_10 (by decide +kernel : kdM 0 = 11)) (by decide +kernel) (fun v8 => ?_)
            refine sm_seg C [(.aload_n 0, 0)] (pc' := 151) (L' := [(3, .int (a3 + (-1))), (6, .int v3), (5, .int v2), (0, .ref 0), (2, .int a2), (4, .int a4)]) (S' := [.ref 0, .int v8, .int v2, .int ((a3 + (-1)) - 1), .ref 9]) (by decide +kernel) rfl ?_
            refine sm_getR 11 10 9 cls11 C (ltM (by decide +kernel : kdM 0 = 11) (by decide)) (by decide +kernel : kdM 0 = 11) (obM11 (by decide +kernel : kdM 0 = 11)) (by decide) (frM11_10 (by decide +kernel : kdM 0 = 11)) fl11_34 (by decide +kernel) ?_
            refine sm_seg C [(.iload_n 3, 0)] (pc' := 155) (L' := [(3, .int (a3 + (-1))), (6, .int v3), (5, .int v2), (0, .ref 0), (2, .int a2), (4, .int a4)]) (S' := [.int (a3 + (-1)), .ref 9, .int v8, .int v2, .int ((a3 + (-1)) - 1), .ref 9]) (by decide +kernel) rfl ?_
            refine sm_ald 420 C (ltM (krM11_10 (by decide +kernel : kdM 0 = 11)) (by decide)) (krM11_10 (by decide +kernel : kdM 0 = 11)) (nrM11_10 (by decide +kernel : kdM 0 = 11)) (by decide +kernel) (fun v9 => ?_)
            refine sm_scal [.int v2, .int v8, .int v9] [.int ((a3 + (-1)) - 1), .ref 9] rfl C mw_X11_both ml_11_293 rfl ⟨by decide, by decide⟩ (Nat.le_of_ble_eq_true rfl) (by decide +kernel) (c_X11_both F v2 v8 v9 τ) (fun r10 τ11 => ?_)
            refine sm_ast 420 C (ltM (krM11_10 (by decide +kernel : kdM 0 = 11)) (by decide)) (krM11_10 (by decide +kernel : kdM 0 = 11)) (nrM11_10 (by decide +kernel : kdM 0 = 11)) (by decide +kernel) (fun τ12 => ?_)
            exact sm_sub [3, 4, 0, 5] rfl (s_X11_comesTo_j160 F C hr (X11_comesTo_L5 F n) ih a2 (a3 + (-1)) a4 τ12)
      · refine sm_seg C [(.aload_n 0, 0)] (pc' := 51) (L' := [(6, .int v3), (5, .int v2), (0, .ref 0), (2, .int a2), (3, .int a3), (4, .int a4)]) (S' := [.ref 0]) (by decide +kernel) rfl ?_
        refine sm_getR 11 10 9 cls11 C (ltM (by decide +kernel : kdM 0 = 11) (by decide)) (by decide +kernel : kdM 0 = 11) (obM11 (by decide +kernel : kdM 0 = 11)) (by decide) (frM11_10 (by decide +kernel : kdM 0 = 11)) fl11_34 (by decide +kernel) ?_
        refine sm_seg C [(.iload_n 3, 0), (.iload 5, 0)] (pc' := 57) (L' := [(6, .int v3), (5, .int v2), (0, .ref 0), (2, .int a2), (3, .int a3), (4, .int a4)]) (S' := [.int v2, .int a3, .ref 9]) (by decide +kernel) rfl ?_
        refine sm_ifne 65 (off := 8) C (by decide +kernel) (by decide) (fun _ => ?_) (fun _ => ?_)
        · refine sm_seg C [(.iload 6, 0), (.goto 10, 0)] (pc' := 72) (L' := [(6, .int v3), (5, .int v2), (0, .ref 0), (2, .int a2), (3, .int a3), (4, .int a4)]) (S' := [.int v3, .int a3, .ref 9]) (by decide +kernel) rfl ?_
          exact sm_sub [2, 3, 4, 5] rfl (s_X11_comesTo_j72 F C hr (X11_comesTo_L5 F n) ih a2 a3 a4 v3 a3 τ)
        · refine sm_seg C [(.aload_n 0, 0)] (pc' := 66) (L' := [(6, .int v3), (5, .int v2), (0, .ref 0), (2, .int a2), (3, .int a3), (4, .int a4)]) (S' := [.ref 0, .int a3, .ref 9]) (by decide +kernel) rfl ?_
          refine sm_getR 11 11 10 cls11 C (ltM (by decide +kernel : kdM 0 = 11) (by decide)) (by decide +kernel : kdM 0 = 11) (obM11 (by decide +kernel : kdM 0 = 11)) (by decide) (frM11_11 (by decide +kernel : kdM 0 = 11)) fl11_37 (by decide +kernel) ?_
          refine sm_seg C [(.iload 5, 0)] (pc' := 71) (L' := [(6, .int v3), (5, .int v2), (0, .ref 0), (2, .int a2), (3, .int a3), (4, .int a4)]) (S' := [.int v2, .ref 10, .int a3, .ref 9]) (by decide +kernel) rfl ?_
          refine sm_ald 11 C (ltM (krM11_11 (by decide +kernel : kdM 0 = 11)) (by decide)) (krM11_11 (by decide +kernel : kdM 0 = 11)) (nrM11_11 (by decide +kernel : kdM 0 = 11)) (by decide +kernel) (fun v14 => ?_)
          exact sm_sub [2, 3, 4, 5] rfl (s_X11_comesTo_j72 F C hr (X11_comesTo_L5 F n) ih a2 a3 a4 v14 a3 τ)
def X11_comesTo (F : Nat) (a1 : Int32) (a2 : Int32) (τ : Tau) : Option (Int32 × Tau) :=
  X11_comesTo_L5 F F a2 0 a1 τ
set_option maxRecDepth 20000 in
set_option maxHeartbeats 4000000 in
theorem c_X11_comesTo (F : Nat) (a1 : Int32) (a2 : Int32) (τ : Tau) (r : Int32) (τ' : Tau) (h : X11_comesTo F a1 a2 τ = some (r, τ')) : MCi sysM yX11_comesTo cX11_comesTo 7 (some .int) 2 [.ref 0, .int a1, .int a2] τ r τ' :=
  mci_of (by decide +kernel) (Nat.le_of_ble_eq_true rfl) (fun K C hr => by
    show Sm K sysM 7 (Qi K sysM) (X11_comesTo F a1 a2 τ) 0 [(0, .ref 0), (1, .int a1), (2, .int a2)] [] τ
    unfold X11_comesTo
    refine sm_seg C [(.iconst 0, 0), (.istore_n 3, 0), (.iload_n 1, 0), (.istore 4, 0)] (pc' := 5) (L' := [(4, .int a1), (3, .int 0), (0, .ref 0), (1, .int a1), (2, .int a2)]) (S' := []) (by decide +kernel) rfl ?_
    exact sm_sub [2, 4, 1, 0] rfl (s_X11_comesTo_L5 F C hr F a2 0 a1 τ)) h
/-! BasketEnvoysModel.isSo -/
def X11_isSo (F : Nat) (a1 : Int32) (τ : Tau) : Option (Int32 × Tau) :=
  ald τ 1 2244 (1392 + a1) fun v1 => ald τ 1 2244 (1376 + a1) fun v2 => if v1 = v2 then (some (1, τ)) else (ald τ 1 2244 (1376 + a1) fun v3 => ald τ 1 2244 (1392 + a1) fun v4 => cal (X11_comesTo F v3 v4 τ) fun r5 τ6 => if r5 = 1 then (some (1, τ6)) else (some (0, τ6)))
set_option maxRecDepth 20000 in
set_option maxHeartbeats 4000000 in
theorem c_X11_isSo (F : Nat) (a1 : Int32) (τ : Tau) (r : Int32) (τ' : Tau) (h : X11_isSo F a1 τ = some (r, τ')) : MCi sysM yX11_isSo cX11_isSo 2 (some .boolean) 3 [.ref 0, .int a1] τ r τ' :=
  mci_of (by decide +kernel) (Nat.le_of_ble_eq_true rfl) (fun K C hr => by
    show Sm K sysM 2 (Qi K sysM) (X11_isSo F a1 τ) 0 [(0, .ref 0), (1, .int a1)] [] τ
    unfold X11_isSo
    refine sm_seg C [(.aload_n 0, 0)] (pc' := 1) (L' := [(0, .ref 0), (1, .int a1)]) (S' := [.ref 0]) (by decide +kernel) rfl ?_
    refine sm_getR 11 0 1 cls11 C (ltM (by decide +kernel : kdM 0 = 11) (by decide)) (by decide +kernel : kdM 0 = 11) (obM11 (by decide +kernel : kdM 0 = 11)) (by decide) (frM11_0 (by decide +kernel : kdM 0 = 11)) fl11_7 (by decide +kernel) ?_
    refine sm_seg C [(.sipush 1392, 1392), (.iload_n 1, 0), (.iadd, 0)] (pc' := 9) (L' := [(0, .ref 0), (1, .int a1)]) (S' := [.int (1392 + a1), .ref 1]) (by decide +kernel) rfl ?_
    refine sm_ald 2244 C (ltM (krM11_0 (by decide +kernel : kdM 0 = 11)) (by decide)) (krM11_0 (by decide +kernel : kdM 0 = 11)) (nrM11_0 (by decide +kernel : kdM 0 = 11)) (by decide +kernel) (fun v1 => ?_)
    refine sm_seg C [(.aload_n 0, 0)] (pc' := 11) (L' := [(0, .ref 0), (1, .int a1)]) (S' := [.ref 0, .int v1]) (by decide +kernel) rfl ?_
    refine sm_getR 11 0 1 cls11 C (ltM (by decide +kernel : kdM 0 = 11) (by decide)) (by decide +kernel : kdM 0 = 11) (obM11 (by decide +kernel : kdM 0 = 11)) (by decide) (frM11_0 (by decide +kernel : kdM 0 = 11)) fl11_7 (by decide +kernel) ?_
    refine sm_seg C [(.sipush 1376, 1376), (.iload_n 1, 0), (.iadd, 0)] (pc' := 19) (L' := [(0, .ref 0), (1, .int a1)]) (S' := [.int (1376 + a1), .ref 1, .int v1]) (by decide +kernel) rfl ?_
    refine sm_ald 2244 C (ltM (krM11_0 (by decide +kernel : kdM 0 = 11)) (by decide)) (krM11_0 (by decide +kernel : kdM 0 = 11)) (nrM11_0 (by decide +kernel : kdM 0 = 11)) (by decide +kernel) (fun v2 => ?_)
    refine sm_icmpeq 51 (off := 31) C (by decide +kernel) (by decide) (fun _ => ?_) (fun _ => ?_)
    · refine sm_seg C [(.iconst 1, 1), (.goto 4, 0)] (pc' := 56) (L' := [(0, .ref 0), (1, .int a1)]) (S' := [.int 1]) (by decide +kernel) rfl ?_
      exact sm_iret C hr rfl (by decide +kernel)
    · refine sm_seg C [(.aload_n 0, 0), (.aload_n 0, 0)] (pc' := 25) (L' := [(0, .ref 0), (1, .int a1)]) (S' := [.ref 0, .ref 0]) (by decide +kernel) rfl ?_
      refine sm_getR 11 0 1 cls11 C (ltM (by decide +kernel : kdM 0 = 11) (by decide)) (by decide +kernel : kdM 0 = 11) (obM11 (by decide +kernel : kdM 0 = 11)) (by decide) (frM11_0 (by decide +kernel : kdM 0 = 11)) fl11_7 (by decide +kernel) ?_
      refine sm_seg C [(.sipush 1376, 1376), (.iload_n 1, 0), (.iadd, 0)] (pc' := 33) (L' := [(0, .ref 0), (1, .int a1)]) (S' := [.int (1376 + a1), .ref 1, .ref 0]) (by decide +kernel) rfl ?_
      refine sm_ald 2244 C (ltM (krM11_0 (by decide +kernel : kdM 0 = 11)) (by decide)) (krM11_0 (by decide +kernel : kdM 0 = 11)) (nrM11_0 (by decide +kernel : kdM 0 = 11)) (by decide +kernel) (fun v3 => ?_)
      refine sm_seg C [(.aload_n 0, 0)] (pc' := 35) (L' := [(0, .ref 0), (1, .int a1)]) (S' := [.ref 0, .int v3, .ref 0]) (by decide +kernel) rfl ?_
      refine sm_getR 11 0 1 cls11 C (ltM (by decide +kernel : kdM 0 = 11) (by decide)) (by decide +kernel : kdM 0 = 11) (obM11 (by decide +kernel : kdM 0 = 11)) (by decide) (frM11_0 (by decide +kernel : kdM 0 = 11)) fl11_7 (by decide +kernel) ?_
      refine sm_seg C [(.sipush 1392, 1392), (.iload_n 1, 0), (.iadd, 0)] (pc' := 43) (L' := [(0, .ref 0), (1, .int a1)]) (S' := [.int (1392 + a1), .ref 1, .int v3, .ref 0]) (by decide +kernel) rfl ?_
      refine sm_ald 2244 C (ltM (krM11_0 (by decide +kernel : kdM 0 = 11)) (by decide)) (krM11_0 (by decide +kernel : kdM 0 = 11)) (nrM11_0 (by decide +kernel : kdM 0 = 11)) (by decide +kernel) (fun v4 => ?_)
      refine sm_vcal [.int v3, .int v4] [] rfl C mw_X11_comesTo ml_11_296 rfl (ci := 11) rfl (ltM (by decide +kernel : kdM 0 = 11) (by decide)) (by decide +kernel : kdM 0 = 11) (by decide) ⟨by decide, by decide⟩ (Nat.le_of_ble_eq_true rfl) (by decide +kernel) (c_X11_comesTo F v3 v4 τ) (fun r5 τ6 => ?_)
      refine sm_seg C [(.iconst 1, 1)] (pc' := 48) (L' := [(0, .ref 0), (1, .int a1)]) (S' := [.int 1, .int r5]) (by decide +kernel) rfl ?_
      refine sm_icmpne 55 (off := 7) C (by decide +kernel) (by decide) (fun _ => ?_) (fun _ => ?_)
      · refine sm_seg C [(.iconst 1, 1), (.goto 4, 0)] (pc' := 56) (L' := [(0, .ref 0), (1, .int a1)]) (S' := [.int 1]) (by decide +kernel) rfl ?_
        exact sm_iret C hr rfl (by decide +kernel)
      · refine sm_seg C [(.iconst 0, 0)] (pc' := 56) (L' := [(0, .ref 0), (1, .int a1)]) (S' := [.int 0]) (by decide +kernel) rfl ?_
        exact sm_iret C hr rfl (by decide +kernel)) h
/-! BasketEnvoysModel.lesser -/
def X11_lesser (F : Nat) (a0 : Int32) (a1 : Int32) (τ : Tau) : Option (Int32 × Tau) :=
  if a1 ≤ a0 then (some (a1, τ)) else (some (a0, τ))
set_option maxRecDepth 20000 in
set_option maxHeartbeats 4000000 in
theorem c_X11_lesser (F : Nat) (a0 : Int32) (a1 : Int32) (τ : Tau) (r : Int32) (τ' : Tau) (h : X11_lesser F a0 a1 τ = some (r, τ')) : MCi sysM yX11_lesser cX11_lesser 2 (some .int) 1 [.int a0, .int a1] τ r τ' :=
  mci_of (by decide +kernel) (Nat.le_of_ble_eq_true rfl) (fun K C hr => by
    show Sm K sysM 2 (Qi K sysM) (X11_lesser F a0 a1 τ) 0 [(0, .int a0), (1, .int a1)] [] τ
    unfold X11_lesser
    refine sm_seg C [(.iload_n 0, 0), (.iload_n 1, 0)] (pc' := 2) (L' := [(0, .int a0), (1, .int a1)]) (S' := [.int a1, .int a0]) (by decide +kernel) rfl ?_
    refine sm_icmpge 9 (off := 7) C (by decide +kernel) (by decide) (fun _ => ?_) (fun _ => ?_)
    · refine sm_seg C [(.iload_n 1, 0)] (pc' := 10) (L' := [(0, .int a0), (1, .int a1)]) (S' := [.int a1]) (by decide +kernel) rfl ?_
      exact sm_iret C hr rfl (by decide +kernel)
    · refine sm_seg C [(.iload_n 0, 0), (.goto 4, 0)] (pc' := 10) (L' := [(0, .int a0), (1, .int a1)]) (S' := [.int a0]) (by decide +kernel) rfl ?_
      exact sm_iret C hr rfl (by decide +kernel)) h
/-! BasketEnvoysModel.greater -/
def X11_greater (F : Nat) (a0 : Int32) (a1 : Int32) (τ : Tau) : Option (Int32 × Tau) :=
  if a0 ≤ a1 then (some (a1, τ)) else (some (a0, τ))
set_option maxRecDepth 20000 in
set_option maxHeartbeats 4000000 in
theorem c_X11_greater (F : Nat) (a0 : Int32) (a1 : Int32) (τ : Tau) (r : Int32) (τ' : Tau) (h : X11_greater F a0 a1 τ = some (r, τ')) : MCi sysM yX11_greater cX11_greater 2 (some .int) 1 [.int a0, .int a1] τ r τ' :=
  mci_of (by decide +kernel) (Nat.le_of_ble_eq_true rfl) (fun K C hr => by
    show Sm K sysM 2 (Qi K sysM) (X11_greater F a0 a1 τ) 0 [(0, .int a0), (1, .int a1)] [] τ
    unfold X11_greater
    refine sm_seg C [(.iload_n 0, 0), (.iload_n 1, 0)] (pc' := 2) (L' := [(0, .int a0), (1, .int a1)]) (S' := [.int a1, .int a0]) (by decide +kernel) rfl ?_
    refine sm_icmple 9 (off := 7) C (by decide +kernel) (by decide) (fun _ => ?_) (fun _ => ?_)
    · refine sm_seg C [(.iload_n 1, 0)] (pc' := 10) (L' := [(0, .int a0), (1, .int a1)]) (S' := [.int a1]) (by decide +kernel) rfl ?_
      exact sm_iret C hr rfl (by decide +kernel)
    · refine sm_seg C [(.iload_n 0, 0), (.goto 4, 0)] (pc' := 10) (L' := [(0, .int a0), (1, .int a1)]) (S' := [.int a0]) (by decide +kernel) rfl ?_
      exact sm_iret C hr rfl (by decide +kernel)) h
/-! BasketEnvoysModel.lawSays -/
def X11_lawSays_j90 (F : Nat) (a3 : Int32) (a4 : Int32) (τ : Tau) : Option (Int32 × Tau) :=
  cal (X11_lesser F a3 a4 τ) fun r3 τ4 => cal (X11_greater F 0 r3 τ4) fun r5 τ6 => some (r5, τ6)
theorem s_X11_lawSays_j90 (F : Nat) {K : Ctx} (C : Cx K sysM RX11 cX11_lawSays 6 4) (hr : Rt K (some .int)) (a3 : Int32) (a4 : Int32) (τ : Tau) : Sm K sysM 6 (Qi K sysM) (X11_lawSays_j90 F a3 a4 τ) 90 [(3, .int a3), (4, .int a4)] [] τ := by
  unfold X11_lawSays_j90
  refine sm_seg C [(.iconst 0, 0), (.iload_n 3, 0), (.iload 4, 0)] (pc' := 94) (L' := [(3, .int a3), (4, .int a4)]) (S' := [.int a4, .int a3, .int 0]) (by decide +kernel) rfl ?_
  refine sm_scal [.int a3, .int a4] [.int 0] rfl C mw_X11_lesser ml_11_303 rfl ⟨by decide, by decide⟩ (Nat.le_of_ble_eq_true rfl) (by decide +kernel) (c_X11_lesser F a3 a4 τ) (fun r3 τ4 => ?_)
  refine sm_scal [.int 0, .int r3] [] rfl C mw_X11_greater ml_11_306 rfl ⟨by decide, by decide⟩ (Nat.le_of_ble_eq_true rfl) (by decide +kernel) (c_X11_greater F 0 r3 τ4) (fun r5 τ6 => ?_)
  exact sm_iret C hr rfl (by decide +kernel)
def X11_lawSays_j49 (F : Nat) (a3 : Int32) (a4 : Int32) (a5 : Int32) (τ : Tau) : Option (Int32 × Tau) :=
  ald τ 1 2244 257 fun v2 => if v2 ≤ a5 then (X11_lawSays_j90 F a3 a4 τ) else (ald τ 1 2244 (1360 + a5) fun v7 => ald τ 1 2244 (1376 + a5) fun v8 => cal (X11_comesTo F v7 v8 τ) fun r9 τ10 => X11_lawSays_j90 F a3 r9 τ10)
theorem s_X11_lawSays_j49 (F : Nat) {K : Ctx} (C : Cx K sysM RX11 cX11_lawSays 6 4) (hr : Rt K (some .int)) (a3 : Int32) (a4 : Int32) (a5 : Int32) (τ : Tau) : Sm K sysM 6 (Qi K sysM) (X11_lawSays_j49 F a3 a4 a5 τ) 49 [(0, .ref 0), (3, .int a3), (4, .int a4), (5, .int a5)] [] τ := by
  unfold X11_lawSays_j49
  refine sm_seg C [(.iload 5, 0), (.aload_n 0, 0)] (pc' := 52) (L' := [(0, .ref 0), (3, .int a3), (4, .int a4), (5, .int a5)]) (S' := [.ref 0, .int a5]) (by decide +kernel) rfl ?_
  refine sm_getR 11 0 1 cls11 C (ltM (by decide +kernel : kdM 0 = 11) (by decide)) (by decide +kernel : kdM 0 = 11) (obM11 (by decide +kernel : kdM 0 = 11)) (by decide) (frM11_0 (by decide +kernel : kdM 0 = 11)) fl11_7 (by decide +kernel) ?_
  refine sm_seg C [(.sipush 257, 257)] (pc' := 58) (L' := [(0, .ref 0), (3, .int a3), (4, .int a4), (5, .int a5)]) (S' := [.int 257, .ref 1, .int a5]) (by decide +kernel) rfl ?_
  refine sm_ald 2244 C (ltM (krM11_0 (by decide +kernel : kdM 0 = 11)) (by decide)) (krM11_0 (by decide +kernel : kdM 0 = 11)) (nrM11_0 (by decide +kernel : kdM 0 = 11)) (by decide +kernel) (fun v2 => ?_)
  refine sm_icmpge 90 (off := 31) C (by decide +kernel) (by decide) (fun _ => ?_) (fun _ => ?_)
  · exact sm_sub [1, 2] rfl (s_X11_lawSays_j90 F C hr a3 a4 τ)
  · refine sm_seg C [(.aload_n 0, 0), (.aload_n 0, 0)] (pc' := 64) (L' := [(0, .ref 0), (3, .int a3), (4, .int a4), (5, .int a5)]) (S' := [.ref 0, .ref 0]) (by decide +kernel) rfl ?_
    refine sm_getR 11 0 1 cls11 C (ltM (by decide +kernel : kdM 0 = 11) (by decide)) (by decide +kernel : kdM 0 = 11) (obM11 (by decide +kernel : kdM 0 = 11)) (by decide) (frM11_0 (by decide +kernel : kdM 0 = 11)) fl11_7 (by decide +kernel) ?_
    refine sm_seg C [(.sipush 1360, 1360), (.iload 5, 0), (.iadd, 0)] (pc' := 73) (L' := [(0, .ref 0), (3, .int a3), (4, .int a4), (5, .int a5)]) (S' := [.int (1360 + a5), .ref 1, .ref 0]) (by decide +kernel) rfl ?_
    refine sm_ald 2244 C (ltM (krM11_0 (by decide +kernel : kdM 0 = 11)) (by decide)) (krM11_0 (by decide +kernel : kdM 0 = 11)) (nrM11_0 (by decide +kernel : kdM 0 = 11)) (by decide +kernel) (fun v7 => ?_)
    refine sm_seg C [(.aload_n 0, 0)] (pc' := 75) (L' := [(0, .ref 0), (3, .int a3), (4, .int a4), (5, .int a5)]) (S' := [.ref 0, .int v7, .ref 0]) (by decide +kernel) rfl ?_
    refine sm_getR 11 0 1 cls11 C (ltM (by decide +kernel : kdM 0 = 11) (by decide)) (by decide +kernel : kdM 0 = 11) (obM11 (by decide +kernel : kdM 0 = 11)) (by decide) (frM11_0 (by decide +kernel : kdM 0 = 11)) fl11_7 (by decide +kernel) ?_
    refine sm_seg C [(.sipush 1376, 1376), (.iload 5, 0), (.iadd, 0)] (pc' := 84) (L' := [(0, .ref 0), (3, .int a3), (4, .int a4), (5, .int a5)]) (S' := [.int (1376 + a5), .ref 1, .int v7, .ref 0]) (by decide +kernel) rfl ?_
    refine sm_ald 2244 C (ltM (krM11_0 (by decide +kernel : kdM 0 = 11)) (by decide)) (krM11_0 (by decide +kernel : kdM 0 = 11)) (nrM11_0 (by decide +kernel : kdM 0 = 11)) (by decide +kernel) (fun v8 => ?_)
    refine sm_vcal [.int v7, .int v8] [] rfl C mw_X11_comesTo ml_11_296 rfl (ci := 11) rfl (ltM (by decide +kernel : kdM 0 = 11) (by decide)) (by decide +kernel : kdM 0 = 11) (by decide) ⟨by decide, by decide⟩ (Nat.le_of_ble_eq_true rfl) (by decide +kernel) (c_X11_comesTo F v7 v8 τ) (fun r9 τ10 => ?_)
    refine sm_seg C [(.istore 4, 0)] (pc' := 90) (L' := [(4, .int r9), (0, .ref 0), (3, .int a3), (5, .int a5)]) (S' := []) (by decide +kernel) rfl ?_
    exact sm_sub [2, 0] rfl (s_X11_lawSays_j90 F C hr a3 r9 τ10)
def X11_lawSays_j43 (F : Nat) (self6 : Int32 → Int32 → Int32 → Int32 → Tau → Option (Int32 × Tau)) (a1 : Int32) (a3 : Int32) (a4 : Int32) (a5 : Int32) (τ : Tau) : Option (Int32 × Tau) :=
  self6 a1 a3 a4 (a5 + 1) τ
theorem s_X11_lawSays_j43 (F : Nat) {K : Ctx} (C : Cx K sysM RX11 cX11_lawSays 6 4) (hr : Rt K (some .int)) (self6 : Int32 → Int32 → Int32 → Int32 → Tau → Option (Int32 × Tau)) (ih6 : ∀ (a1 : Int32) (a3 : Int32) (a4 : Int32) (a5 : Int32) (τ : Tau), Sm K sysM 6 (Qi K sysM) (self6 a1 a3 a4 a5 τ) 6 [(0, .ref 0), (1, .int a1), (3, .int a3), (4, .int a4), (5, .int a5)] [] τ) (a1 : Int32) (a3 : Int32) (a4 : Int32) (a5 : Int32) (τ : Tau) : Sm K sysM 6 (Qi K sysM) (X11_lawSays_j43 F self6 a1 a3 a4 a5 τ) 43 [(0, .ref 0), (1, .int a1), (3, .int a3), (4, .int a4), (5, .int a5)] [] τ := by
  unfold X11_lawSays_j43
  refine sm_seg C [(.iinc 5 1, 1), (.goto (-40), 0)] (pc' := 6) (L' := [(5, .int (a5 + 1)), (0, .ref 0), (1, .int a1), (3, .int a3), (4, .int a4)]) (S' := []) (by decide +kernel) rfl ?_
  exact sm_sub [1, 2, 3, 4, 0] rfl (ih6 a1 a3 a4 (a5 + 1) τ)
def X11_lawSays_L6 (F : Nat) : Nat → Int32 → Int32 → Int32 → Int32 → Tau → Option (Int32 × Tau)
  | 0, _, _, _, _, _ => none
  | n + 1, a1, a3, a4, a5, τ =>
    ald τ 1 2244 257 fun v1 => if v1 ≤ a5 then (X11_lawSays_j49 F a3 a4 a5 τ) else (ald τ 1 2244 (1408 + a5) fun v11 => if v11 = a1 then (cal (X11_isSo F a5 τ) fun r12 τ13 => if r12 = 0 then (X11_lawSays_j43 F (X11_lawSays_L6 F n) a1 a3 a4 a5 τ13) else (X11_lawSays_j49 F a3 a4 a5 τ13)) else (X11_lawSays_j43 F (X11_lawSays_L6 F n) a1 a3 a4 a5 τ))
theorem s_X11_lawSays_L6 (F : Nat) {K : Ctx} (C : Cx K sysM RX11 cX11_lawSays 6 4) (hr : Rt K (some .int)) : ∀ (n : Nat) (a1 : Int32) (a3 : Int32) (a4 : Int32) (a5 : Int32) (τ : Tau), Sm K sysM 6 (Qi K sysM) (X11_lawSays_L6 F n a1 a3 a4 a5 τ) 6 [(0, .ref 0), (1, .int a1), (3, .int a3), (4, .int a4), (5, .int a5)] [] τ := by
  intro n
  induction n with
  | zero => intro a1 a3 a4 a5 τ; exact sm_none
  | succ n ih =>
    intro a1 a3 a4 a5 τ
    rw [X11_lawSays_L6]
    refine sm_seg C [(.iload 5, 0), (.aload_n 0, 0)] (pc' := 9) (L' := [(0, .ref 0), (1, .int a1), (3, .int a3), (4, .int a4), (5, .int a5)]) (S' := [.ref 0, .int a5]) (by decide +kernel) rfl ?_
    refine sm_getR 11 0 1 cls11 C (ltM (by decide +kernel : kdM 0 = 11) (by decide)) (by decide +kernel : kdM 0 = 11) (obM11 (by decide +kernel : kdM 0 = 11)) (by decide) (frM11_0 (by decide +kernel : kdM 0 = 11)) fl11_7 (by decide +kernel) ?_
    refine sm_seg C [(.sipush 257, 257)] (pc' := 15) (L' := [(0, .ref 0), (1, .int a1), (3, .int a3), (4, .int a4), (5, .int a5)]) (S' := [.int 257, .ref 1, .int a5]) (by decide +kernel) rfl ?_
    refine sm_ald 2244 C (ltM (krM11_0 (by decide +kernel : kdM 0 = 11)) (by decide)) (krM11_0 (by decide +kernel : kdM 0 = 11)) (nrM11_0 (by decide +kernel : kdM 0 = 11)) (by decide +kernel) (fun v1 => ?_)
    refine sm_icmpge 49 (off := 33) C (by decide +kernel) (by decide) (fun _ => ?_) (fun _ => ?_)
    · exact sm_sub [0, 2, 3, 4] rfl (s_X11_lawSays_j49 F C hr a3 a4 a5 τ)
    · refine sm_seg C [(.aload_n 0, 0)] (pc' := 20) (L' := [(0, .ref 0), (1, .int a1), (3, .int a3), (4, .int a4), (5, .int a5)]) (S' := [.ref 0]) (by decide +kernel) rfl ?_
      refine sm_getR 11 0 1 cls11 C (ltM (by decide +kernel : kdM 0 = 11) (by decide)) (by decide +kernel : kdM 0 = 11) (obM11 (by decide +kernel : kdM 0 = 11)) (by decide) (frM11_0 (by decide +kernel : kdM 0 = 11)) fl11_7 (by decide +kernel) ?_
      refine sm_seg C [(.sipush 1408, 1408), (.iload 5, 0), (.iadd, 0)] (pc' := 29) (L' := [(0, .ref 0), (1, .int a1), (3, .int a3), (4, .int a4), (5, .int a5)]) (S' := [.int (1408 + a5), .ref 1]) (by decide +kernel) rfl ?_
      refine sm_ald 2244 C (ltM (krM11_0 (by decide +kernel : kdM 0 = 11)) (by decide)) (krM11_0 (by decide +kernel : kdM 0 = 11)) (nrM11_0 (by decide +kernel : kdM 0 = 11)) (by decide +kernel) (fun v11 => ?_)
      refine sm_seg C [(.iload_n 1, 0)] (pc' := 31) (L' := [(0, .ref 0), (1, .int a1), (3, .int a3), (4, .int a4), (5, .int a5)]) (S' := [.int a1, .int v11]) (by decide +kernel) rfl ?_
      refine sm_icmpne 43 (off := 12) C (by decide +kernel) (by decide) (fun _ => ?_) (fun _ => ?_)
      · refine sm_seg C [(.aload_n 0, 0), (.iload 5, 0)] (pc' := 37) (L' := [(0, .ref 0), (1, .int a1), (3, .int a3), (4, .int a4), (5, .int a5)]) (S' := [.int a5, .ref 0]) (by decide +kernel) rfl ?_
        refine sm_vcal [.int a5] [] rfl C mw_X11_isSo ml_11_300 rfl (ci := 11) rfl (ltM (by decide +kernel : kdM 0 = 11) (by decide)) (by decide +kernel : kdM 0 = 11) (by decide) ⟨by decide, by decide⟩ (Nat.le_of_ble_eq_true rfl) (by decide +kernel) (c_X11_isSo F a5 τ) (fun r12 τ13 => ?_)
        refine sm_ifne 49 (off := 9) C (by decide +kernel) (by decide) (fun _ => ?_) (fun _ => ?_)
        · exact sm_sub [0, 1, 2, 3, 4] rfl (s_X11_lawSays_j43 F C hr (X11_lawSays_L6 F n) ih a1 a3 a4 a5 τ13)
        · exact sm_sub [0, 2, 3, 4] rfl (s_X11_lawSays_j49 F C hr a3 a4 a5 τ13)
      · exact sm_sub [0, 1, 2, 3, 4] rfl (s_X11_lawSays_j43 F C hr (X11_lawSays_L6 F n) ih a1 a3 a4 a5 τ)
def X11_lawSays (F : Nat) (a1 : Int32) (a2 : Int32) (a3 : Int32) (τ : Tau) : Option (Int32 × Tau) :=
  X11_lawSays_L6 F F a1 a3 a2 0 τ
set_option maxRecDepth 20000 in
set_option maxHeartbeats 4000000 in
theorem c_X11_lawSays (F : Nat) (a1 : Int32) (a2 : Int32) (a3 : Int32) (τ : Tau) (r : Int32) (τ' : Tau) (h : X11_lawSays F a1 a2 a3 τ = some (r, τ')) : MCi sysM yX11_lawSays cX11_lawSays 6 (some .int) 4 [.ref 0, .int a1, .int a2, .int a3] τ r τ' :=
  mci_of (by decide +kernel) (Nat.le_of_ble_eq_true rfl) (fun K C hr => by
    show Sm K sysM 6 (Qi K sysM) (X11_lawSays F a1 a2 a3 τ) 0 [(0, .ref 0), (1, .int a1), (2, .int a2), (3, .int a3)] [] τ
    unfold X11_lawSays
    refine sm_seg C [(.iload_n 2, 0), (.istore 4, 0), (.iconst 0, 0), (.istore 5, 0)] (pc' := 6) (L' := [(5, .int 0), (4, .int a2), (0, .ref 0), (1, .int a1), (2, .int a2), (3, .int a3)]) (S' := []) (by decide +kernel) rfl ?_
    exact sm_sub [2, 3, 5, 1, 0] rfl (s_X11_lawSays_L6 F C hr F a1 a3 a2 0 τ)) h
/-! BasketEnvoysModel.criesOf -/
def X11_criesOf_j38 (F : Nat) (z0 : Int32) (z1 : Int32) (τ : Tau) : Option (Int32 × Tau) :=
  cal (X11_lawSays F z1 z0 1000 τ) fun r5 τ6 => some (r5, τ6)
theorem s_X11_criesOf_j38 (F : Nat) {K : Ctx} (C : Cx K sysM RX11 cX11_criesOf 2 5) (hr : Rt K (some .int)) (z0 : Int32) (z1 : Int32) (τ : Tau) : Sm K sysM 2 (Qi K sysM) (X11_criesOf_j38 F z0 z1 τ) 38 [] [.int z0, .int z1, .ref 0] τ := by
  unfold X11_criesOf_j38
  refine sm_seg C [(.sipush 1000, 1000)] (pc' := 41) (L' := []) (S' := [.int 1000, .int z0, .int z1, .ref 0]) (by decide +kernel) rfl ?_
  refine sm_vcal [.int z1, .int z0, .int 1000] [] rfl C mw_X11_lawSays ml_11_315 rfl (ci := 11) rfl (ltM (by decide +kernel : kdM 0 = 11) (by decide)) (by decide +kernel : kdM 0 = 11) (by decide) ⟨by decide, by decide⟩ (Nat.le_of_ble_eq_true rfl) (by decide +kernel) (c_X11_lawSays F z1 z0 1000 τ) (fun r5 τ6 => ?_)
  exact sm_iret C hr rfl (by decide +kernel)
def X11_criesOf (F : Nat) (a1 : Int32) (τ : Tau) : Option (Int32 × Tau) :=
  cal (X11_asks F a1 (-1) τ) fun r1 τ2 => ald τ2 1 2244 (73 + a1) fun v3 => if v3 = 1 then (ald τ2 1 2244 (59 + a1) fun v4 => X11_criesOf_j38 F (50 * v4) 21 τ2) else (X11_criesOf_j38 F 0 21 τ2)
set_option maxRecDepth 20000 in
set_option maxHeartbeats 4000000 in
theorem c_X11_criesOf (F : Nat) (a1 : Int32) (τ : Tau) (r : Int32) (τ' : Tau) (h : X11_criesOf F a1 τ = some (r, τ')) : MCi sysM yX11_criesOf cX11_criesOf 2 (some .int) 5 [.ref 0, .int a1] τ r τ' :=
  mci_of (by decide +kernel) (Nat.le_of_ble_eq_true rfl) (fun K C hr => by
    show Sm K sysM 2 (Qi K sysM) (X11_criesOf F a1 τ) 0 [(0, .ref 0), (1, .int a1)] [] τ
    unfold X11_criesOf
    refine sm_seg C [(.aload_n 0, 0), (.iload_n 1, 0), (.iconst (-1), (-1))] (pc' := 3) (L' := [(0, .ref 0), (1, .int a1)]) (S' := [.int (-1), .int a1, .ref 0]) (by decide +kernel) rfl ?_
    refine sm_vcalv [.int a1, .int (-1)] [] rfl C mw_X11_asks ml_11_312 rfl (ci := 11) rfl (ltM (by decide +kernel : kdM 0 = 11) (by decide)) (by decide +kernel : kdM 0 = 11) (by decide) ⟨by decide, by decide⟩ (Nat.le_of_ble_eq_true rfl) (by decide +kernel) (c_X11_asks F a1 (-1) τ) (fun r1 τ2 => ?_)
    refine sm_seg C [(.aload_n 0, 0), (.bipush 21, 21), (.aload_n 0, 0)] (pc' := 10) (L' := [(0, .ref 0), (1, .int a1)]) (S' := [.ref 0, .int 21, .ref 0]) (by decide +kernel) rfl ?_
    refine sm_getR 11 0 1 cls11 C (ltM (by decide +kernel : kdM 0 = 11) (by decide)) (by decide +kernel : kdM 0 = 11) (obM11 (by decide +kernel : kdM 0 = 11)) (by decide) (frM11_0 (by decide +kernel : kdM 0 = 11)) fl11_7 (by decide +kernel) ?_
    refine sm_seg C [(.bipush 73, 73), (.iload_n 1, 0), (.iadd, 0)] (pc' := 17) (L' := [(0, .ref 0), (1, .int a1)]) (S' := [.int (73 + a1), .ref 1, .int 21, .ref 0]) (by decide +kernel) rfl ?_
    refine sm_ald 2244 C (ltM (krM11_0 (by decide +kernel : kdM 0 = 11)) (by decide)) (krM11_0 (by decide +kernel : kdM 0 = 11)) (nrM11_0 (by decide +kernel : kdM 0 = 11)) (by decide +kernel) (fun v3 => ?_)
    refine sm_seg C [(.iconst 1, 1)] (pc' := 19) (L' := [(0, .ref 0), (1, .int a1)]) (S' := [.int 1, .int v3, .int 21, .ref 0]) (by decide +kernel) rfl ?_
    refine sm_icmpne 37 (off := 18) C (by decide +kernel) (by decide) (fun _ => ?_) (fun _ => ?_)
    · refine sm_seg C [(.bipush 50, 50), (.aload_n 0, 0)] (pc' := 25) (L' := [(0, .ref 0), (1, .int a1)]) (S' := [.ref 0, .int 50, .int 21, .ref 0]) (by decide +kernel) rfl ?_
      refine sm_getR 11 0 1 cls11 C (ltM (by decide +kernel : kdM 0 = 11) (by decide)) (by decide +kernel : kdM 0 = 11) (obM11 (by decide +kernel : kdM 0 = 11)) (by decide) (frM11_0 (by decide +kernel : kdM 0 = 11)) fl11_7 (by decide +kernel) ?_
      refine sm_seg C [(.bipush 59, 59), (.iload_n 1, 0), (.iadd, 0)] (pc' := 32) (L' := [(0, .ref 0), (1, .int a1)]) (S' := [.int (59 + a1), .ref 1, .int 50, .int 21, .ref 0]) (by decide +kernel) rfl ?_
      refine sm_ald 2244 C (ltM (krM11_0 (by decide +kernel : kdM 0 = 11)) (by decide)) (krM11_0 (by decide +kernel : kdM 0 = 11)) (nrM11_0 (by decide +kernel : kdM 0 = 11)) (by decide +kernel) (fun v4 => ?_)
      refine sm_seg C [(.imul, 0), (.goto 4, 0)] (pc' := 38) (L' := [(0, .ref 0), (1, .int a1)]) (S' := [.int (50 * v4), .int 21, .ref 0]) (by decide +kernel) rfl ?_
      exact sm_sub [] rfl (s_X11_criesOf_j38 F C hr (50 * v4) 21 τ2)
    · refine sm_seg C [(.iconst 0, 0)] (pc' := 38) (L' := [(0, .ref 0), (1, .int a1)]) (S' := [.int 0, .int 21, .ref 0]) (by decide +kernel) rfl ?_
      exact sm_sub [] rfl (s_X11_criesOf_j38 F C hr 0 21 τ2)) h
/-! BasketEnvoysModel.draw -/
def X11_draw (F : Nat) (a1 : Int32) (τ : Tau) : Option (Int32 × Tau) :=
  ald τ 1 2244 3 fun v1 => ast τ 1 2244 3 ((1664525 * v1) + 1013904223) fun τ2 => ald τ2 1 2244 3 fun v3 => if a1 = 0 then none else (some ((rmd (ushr v3 8) a1), τ2))
set_option maxRecDepth 20000 in
set_option maxHeartbeats 4000000 in
theorem c_X11_draw (F : Nat) (a1 : Int32) (τ : Tau) (r : Int32) (τ' : Tau) (h : X11_draw F a1 τ = some (r, τ')) : MCi sysM yX11_draw cX11_draw 2 (some .int) 1 [.ref 0, .int a1] τ r τ' :=
  mci_of (by decide +kernel) (Nat.le_of_ble_eq_true rfl) (fun K C hr => by
    show Sm K sysM 2 (Qi K sysM) (X11_draw F a1 τ) 0 [(0, .ref 0), (1, .int a1)] [] τ
    unfold X11_draw
    refine sm_seg C [(.aload_n 0, 0)] (pc' := 1) (L' := [(0, .ref 0), (1, .int a1)]) (S' := [.ref 0]) (by decide +kernel) rfl ?_
    refine sm_getR 11 0 1 cls11 C (ltM (by decide +kernel : kdM 0 = 11) (by decide)) (by decide +kernel : kdM 0 = 11) (obM11 (by decide +kernel : kdM 0 = 11)) (by decide) (frM11_0 (by decide +kernel : kdM 0 = 11)) fl11_7 (by decide +kernel) ?_
    refine sm_seg C [(.iconst 3, 3)] (pc' := 5) (L' := [(0, .ref 0), (1, .int a1)]) (S' := [.int 3, .ref 1]) (by decide +kernel) rfl ?_
    refine sm_ldc C cn_11_88 (by decide +kernel) ?_
    refine sm_seg C [(.aload_n 0, 0)] (pc' := 8) (L' := [(0, .ref 0), (1, .int a1)]) (S' := [.ref 0, .int 1664525, .int 3, .ref 1]) (by decide +kernel) rfl ?_
    refine sm_getR 11 0 1 cls11 C (ltM (by decide +kernel : kdM 0 = 11) (by decide)) (by decide +kernel : kdM 0 = 11) (obM11 (by decide +kernel : kdM 0 = 11)) (by decide) (frM11_0 (by decide +kernel : kdM 0 = 11)) fl11_7 (by decide +kernel) ?_
    refine sm_seg C [(.iconst 3, 3)] (pc' := 12) (L' := [(0, .ref 0), (1, .int a1)]) (S' := [.int 3, .ref 1, .int 1664525, .int 3, .ref 1]) (by decide +kernel) rfl ?_
    refine sm_ald 2244 C (ltM (krM11_0 (by decide +kernel : kdM 0 = 11)) (by decide)) (krM11_0 (by decide +kernel : kdM 0 = 11)) (nrM11_0 (by decide +kernel : kdM 0 = 11)) (by decide +kernel) (fun v1 => ?_)
    refine sm_seg C [(.imul, 0)] (pc' := 14) (L' := [(0, .ref 0), (1, .int a1)]) (S' := [.int (1664525 * v1), .int 3, .ref 1]) (by decide +kernel) rfl ?_
    refine sm_ldc C cn_11_89 (by decide +kernel) ?_
    refine sm_seg C [(.iadd, 0)] (pc' := 17) (L' := [(0, .ref 0), (1, .int a1)]) (S' := [.int ((1664525 * v1) + 1013904223), .int 3, .ref 1]) (by decide +kernel) rfl ?_
    refine sm_ast 2244 C (ltM (krM11_0 (by decide +kernel : kdM 0 = 11)) (by decide)) (krM11_0 (by decide +kernel : kdM 0 = 11)) (nrM11_0 (by decide +kernel : kdM 0 = 11)) (by decide +kernel) (fun τ2 => ?_)
    refine sm_seg C [(.aload_n 0, 0)] (pc' := 19) (L' := [(0, .ref 0), (1, .int a1)]) (S' := [.ref 0]) (by decide +kernel) rfl ?_
    refine sm_getR 11 0 1 cls11 C (ltM (by decide +kernel : kdM 0 = 11) (by decide)) (by decide +kernel : kdM 0 = 11) (obM11 (by decide +kernel : kdM 0 = 11)) (by decide) (frM11_0 (by decide +kernel : kdM 0 = 11)) fl11_7 (by decide +kernel) ?_
    refine sm_seg C [(.iconst 3, 3)] (pc' := 23) (L' := [(0, .ref 0), (1, .int a1)]) (S' := [.int 3, .ref 1]) (by decide +kernel) rfl ?_
    refine sm_ald 2244 C (ltM (krM11_0 (by decide +kernel : kdM 0 = 11)) (by decide)) (krM11_0 (by decide +kernel : kdM 0 = 11)) (nrM11_0 (by decide +kernel : kdM 0 = 11)) (by decide +kernel) (fun v3 => ?_)
    refine sm_seg C [(.bipush 8, 8), (.iushr, 0), (.iload_n 1, 0)] (pc' := 28) (L' := [(0, .ref 0), (1, .int a1)]) (S' := [.int a1, .int (ushr v3 8)]) (by decide +kernel) rfl ?_
    refine sm_ite (fun _ => sm_none) (fun hz => ?_)
    refine sm_irem C (by decide +kernel) hz ?_
    exact sm_iret C hr rfl (by decide +kernel)) h
/-! BasketEnvoysModel.falls -/
def X11_falls (F : Nat) (a1 : Int32) (τ : Tau) : Option (Int32 × Tau) :=
  if a1 ≤ 0 then (some (0, τ)) else (if (τ 0 26) = 0 then (if a1 < 500 then (some (0, τ)) else (some (1, τ))) else (cal (X11_draw F 1000 τ) fun r1 τ2 => if a1 ≤ r1 then (some (0, τ2)) else (some (1, τ2))))
set_option maxRecDepth 20000 in
set_option maxHeartbeats 4000000 in
theorem c_X11_falls (F : Nat) (a1 : Int32) (τ : Tau) (r : Int32) (τ' : Tau) (h : X11_falls F a1 τ = some (r, τ')) : MCi sysM yX11_falls cX11_falls 2 (some .boolean) 2 [.ref 0, .int a1] τ r τ' :=
  mci_of (by decide +kernel) (Nat.le_of_ble_eq_true rfl) (fun K C hr => by
    show Sm K sysM 2 (Qi K sysM) (X11_falls F a1 τ) 0 [(0, .ref 0), (1, .int a1)] [] τ
    unfold X11_falls
    refine sm_seg C [(.iload_n 1, 0)] (pc' := 1) (L' := [(0, .ref 0), (1, .int a1)]) (S' := [.int a1]) (by decide +kernel) rfl ?_
    refine sm_ifle 36 (off := 35) C (by decide +kernel) (by decide) (fun _ => ?_) (fun _ => ?_)
    · refine sm_seg C [(.iconst 0, 0)] (pc' := 37) (L' := [(0, .ref 0), (1, .int a1)]) (S' := [.int 0]) (by decide +kernel) rfl ?_
      exact sm_iret C hr rfl (by decide +kernel)
    · refine sm_seg C [(.aload_n 0, 0)] (pc' := 5) (L' := [(0, .ref 0), (1, .int a1)]) (S' := [.ref 0]) (by decide +kernel) rfl ?_
      refine sm_getI 11 26 cls11 C (ltM (by decide +kernel : kdM 0 = 11) (by decide)) (by decide +kernel : kdM 0 = 11) (obM11 (by decide +kernel : kdM 0 = 11)) (by decide) (fiM11_26 (by decide +kernel : kdM 0 = 11)) fl11_318 (by decide +kernel) ?_
      refine sm_ifeq 25 (off := 17) C (by decide +kernel) (by decide) (fun _ => ?_) (fun _ => ?_)
      · refine sm_seg C [(.iload_n 1, 0), (.sipush 500, 500)] (pc' := 29) (L' := [(0, .ref 0), (1, .int a1)]) (S' := [.int 500, .int a1]) (by decide +kernel) rfl ?_
        refine sm_icmplt 36 (off := 7) C (by decide +kernel) (by decide) (fun _ => ?_) (fun _ => ?_)
        · refine sm_seg C [(.iconst 0, 0)] (pc' := 37) (L' := [(0, .ref 0), (1, .int a1)]) (S' := [.int 0]) (by decide +kernel) rfl ?_
          exact sm_iret C hr rfl (by decide +kernel)
        · refine sm_seg C [(.iconst 1, 1), (.goto 4, 0)] (pc' := 37) (L' := [(0, .ref 0), (1, .int a1)]) (S' := [.int 1]) (by decide +kernel) rfl ?_
          exact sm_iret C hr rfl (by decide +kernel)
      · refine sm_seg C [(.aload_n 0, 0), (.sipush 1000, 1000)] (pc' := 15) (L' := [(0, .ref 0), (1, .int a1)]) (S' := [.int 1000, .ref 0]) (by decide +kernel) rfl ?_
        refine sm_vcal [.int 1000] [] rfl C mw_X11_draw ml_11_322 rfl (ci := 11) rfl (ltM (by decide +kernel : kdM 0 = 11) (by decide)) (by decide +kernel : kdM 0 = 11) (by decide) ⟨by decide, by decide⟩ (Nat.le_of_ble_eq_true rfl) (by decide +kernel) (c_X11_draw F 1000 τ) (fun r1 τ2 => ?_)
        refine sm_seg C [(.iload_n 1, 0)] (pc' := 19) (L' := [(0, .ref 0), (1, .int a1)]) (S' := [.int a1, .int r1]) (by decide +kernel) rfl ?_
        refine sm_icmpge 36 (off := 17) C (by decide +kernel) (by decide) (fun _ => ?_) (fun _ => ?_)
        · refine sm_seg C [(.iconst 0, 0)] (pc' := 37) (L' := [(0, .ref 0), (1, .int a1)]) (S' := [.int 0]) (by decide +kernel) rfl ?_
          exact sm_iret C hr rfl (by decide +kernel)
        · refine sm_seg C [(.goto 10, 0), (.iconst 1, 1), (.goto 4, 0)] (pc' := 37) (L' := [(0, .ref 0), (1, .int a1)]) (S' := [.int 1]) (by decide +kernel) rfl ?_
          exact sm_iret C hr rfl (by decide +kernel)) h
/-! BasketEnvoysModel.act -/
def X11_act_j138 (F : Nat) (z0 : Int32) (z1 : Int32) (z2 : Int32) (τ : Tau) : Option (Int32 × Tau) :=
  cal (X11_notes F z2 z1 z0 τ) fun r18 τ19 => some (1, τ19)
theorem s_X11_act_j138 (F : Nat) {K : Ctx} (C : Cx K sysM RX11 cX11_act 5 6) (hr : Rt K (some .boolean)) (z0 : Int32) (z1 : Int32) (z2 : Int32) (τ : Tau) : Sm K sysM 5 (Qi K sysM) (X11_act_j138 F z0 z1 z2 τ) 138 [] [.int z0, .int z1, .int z2, .ref 0] τ := by
  unfold X11_act_j138
  refine sm_vcalv [.int z2, .int z1, .int z0] [] rfl C mw_X11_notes ml_11_325 rfl (ci := 11) rfl (ltM (by decide +kernel : kdM 0 = 11) (by decide)) (by decide +kernel : kdM 0 = 11) (by decide) ⟨by decide, by decide⟩ (Nat.le_of_ble_eq_true rfl) (by decide +kernel) (c_X11_notes F z2 z1 z0 τ) (fun r18 τ19 => ?_)
  refine sm_seg C [(.iconst 1, 1)] (pc' := 142) (L' := []) (S' := [.int 1]) (by decide +kernel) rfl ?_
  exact sm_iret C hr rfl (by decide +kernel)
def X11_act_j124 (F : Nat) (a2 : Int32) (a4 : Int32) (τ : Tau) : Option (Int32 × Tau) :=
  if a4 = 0 then (X11_act_j138 F 0 a2 6 τ) else (X11_act_j138 F 1 a2 6 τ)
theorem s_X11_act_j124 (F : Nat) {K : Ctx} (C : Cx K sysM RX11 cX11_act 5 6) (hr : Rt K (some .boolean)) (a2 : Int32) (a4 : Int32) (τ : Tau) : Sm K sysM 5 (Qi K sysM) (X11_act_j124 F a2 a4 τ) 124 [(0, .ref 0), (2, .int a2), (4, .int a4)] [] τ := by
  unfold X11_act_j124
  refine sm_seg C [(.aload_n 0, 0), (.bipush 6, 6), (.iload_n 2, 0), (.iload 4, 0)] (pc' := 130) (L' := [(0, .ref 0), (2, .int a2), (4, .int a4)]) (S' := [.int a4, .int a2, .int 6, .ref 0]) (by decide +kernel) rfl ?_
  refine sm_ifeq 137 (off := 7) C (by decide +kernel) (by decide) (fun _ => ?_) (fun _ => ?_)
  · refine sm_seg C [(.iconst 0, 0)] (pc' := 138) (L' := [(0, .ref 0), (2, .int a2), (4, .int a4)]) (S' := [.int 0, .int a2, .int 6, .ref 0]) (by decide +kernel) rfl ?_
    exact sm_sub [] rfl (s_X11_act_j138 F C hr 0 a2 6 τ)
  · refine sm_seg C [(.iconst 1, 1), (.goto 4, 0)] (pc' := 138) (L' := [(0, .ref 0), (2, .int a2), (4, .int a4)]) (S' := [.int 1, .int a2, .int 6, .ref 0]) (by decide +kernel) rfl ?_
    exact sm_sub [] rfl (s_X11_act_j138 F C hr 1 a2 6 τ)
def X11_act_j93 (F : Nat) (a1 : Int32) (a2 : Int32) (τ : Tau) : Option (Int32 × Tau) :=
  if a1 = 4 then (cal (X11_criesOf F a2 τ) fun r14 τ15 => cal (X11_falls F r14 τ15) fun r16 τ17 => if r16 = 0 then (X11_act_j124 F a2 r16 τ17) else (ast τ17 1 2244 (101 + a2) 1 fun τ20 => X11_act_j124 F a2 r16 τ20)) else (some (1, τ))
theorem s_X11_act_j93 (F : Nat) {K : Ctx} (C : Cx K sysM RX11 cX11_act 5 6) (hr : Rt K (some .boolean)) (a1 : Int32) (a2 : Int32) (τ : Tau) : Sm K sysM 5 (Qi K sysM) (X11_act_j93 F a1 a2 τ) 93 [(0, .ref 0), (1, .int a1), (2, .int a2)] [] τ := by
  unfold X11_act_j93
  refine sm_seg C [(.iload_n 1, 0), (.iconst 4, 4)] (pc' := 95) (L' := [(0, .ref 0), (1, .int a1), (2, .int a2)]) (S' := [.int 4, .int a1]) (by decide +kernel) rfl ?_
  refine sm_icmpne 141 (off := 46) C (by decide +kernel) (by decide) (fun _ => ?_) (fun _ => ?_)
  · refine sm_seg C [(.aload_n 0, 0), (.aload_n 0, 0), (.iload_n 2, 0)] (pc' := 101) (L' := [(0, .ref 0), (1, .int a1), (2, .int a2)]) (S' := [.int a2, .ref 0, .ref 0]) (by decide +kernel) rfl ?_
    refine sm_vcal [.int a2] [.ref 0] rfl C mw_X11_criesOf ml_11_342 rfl (ci := 11) rfl (ltM (by decide +kernel : kdM 0 = 11) (by decide)) (by decide +kernel : kdM 0 = 11) (by decide) ⟨by decide, by decide⟩ (Nat.le_of_ble_eq_true rfl) (by decide +kernel) (c_X11_criesOf F a2 τ) (fun r14 τ15 => ?_)
    refine sm_vcal [.int r14] [] rfl C mw_X11_falls ml_11_345 rfl (ci := 11) rfl (ltM (by decide +kernel : kdM 0 = 11) (by decide)) (by decide +kernel : kdM 0 = 11) (by decide) ⟨by decide, by decide⟩ (Nat.le_of_ble_eq_true rfl) (by decide +kernel) (c_X11_falls F r14 τ15) (fun r16 τ17 => ?_)
    refine sm_seg C [(.istore 4, 0), (.iload 4, 0)] (pc' := 111) (L' := [(4, .int r16), (0, .ref 0), (1, .int a1), (2, .int a2)]) (S' := [.int r16]) (by decide +kernel) rfl ?_
    refine sm_ifeq 124 (off := 13) C (by decide +kernel) (by decide) (fun _ => ?_) (fun _ => ?_)
    · exact sm_sub [1, 3, 0] rfl (s_X11_act_j124 F C hr a2 r16 τ17)
    · refine sm_seg C [(.aload_n 0, 0)] (pc' := 115) (L' := [(4, .int r16), (0, .ref 0), (1, .int a1), (2, .int a2)]) (S' := [.ref 0]) (by decide +kernel) rfl ?_
      refine sm_getR 11 0 1 cls11 C (ltM (by decide +kernel : kdM 0 = 11) (by decide)) (by decide +kernel : kdM 0 = 11) (obM11 (by decide +kernel : kdM 0 = 11)) (by decide) (frM11_0 (by decide +kernel : kdM 0 = 11)) fl11_7 (by decide +kernel) ?_
      refine sm_seg C [(.bipush 101, 101), (.iload_n 2, 0), (.iadd, 0), (.iconst 1, 1)] (pc' := 123) (L' := [(4, .int r16), (0, .ref 0), (1, .int a1), (2, .int a2)]) (S' := [.int 1, .int (101 + a2), .ref 1]) (by decide +kernel) rfl ?_
      refine sm_ast 2244 C (ltM (krM11_0 (by decide +kernel : kdM 0 = 11)) (by decide)) (krM11_0 (by decide +kernel : kdM 0 = 11)) (nrM11_0 (by decide +kernel : kdM 0 = 11)) (by decide +kernel) (fun τ20 => ?_)
      exact sm_sub [1, 3, 0] rfl (s_X11_act_j124 F C hr a2 r16 τ20)
  · refine sm_seg C [(.iconst 1, 1)] (pc' := 142) (L' := [(0, .ref 0), (1, .int a1), (2, .int a2)]) (S' := [.int 1]) (by decide +kernel) rfl ?_
    exact sm_iret C hr rfl (by decide +kernel)
def X11_act_j78 (F : Nat) (a1 : Int32) (a2 : Int32) (τ : Tau) : Option (Int32 × Tau) :=
  if a1 = 3 then (ast τ 1 2244 (115 + a2) 0 fun τ13 => X11_act_j93 F a1 a2 τ13) else (X11_act_j93 F a1 a2 τ)
theorem s_X11_act_j78 (F : Nat) {K : Ctx} (C : Cx K sysM RX11 cX11_act 5 6) (hr : Rt K (some .boolean)) (a1 : Int32) (a2 : Int32) (τ : Tau) : Sm K sysM 5 (Qi K sysM) (X11_act_j78 F a1 a2 τ) 78 [(0, .ref 0), (1, .int a1), (2, .int a2)] [] τ := by
  unfold X11_act_j78
  refine sm_seg C [(.iload_n 1, 0), (.iconst 3, 3)] (pc' := 80) (L' := [(0, .ref 0), (1, .int a1), (2, .int a2)]) (S' := [.int 3, .int a1]) (by decide +kernel) rfl ?_
  refine sm_icmpne 93 (off := 13) C (by decide +kernel) (by decide) (fun _ => ?_) (fun _ => ?_)
  · refine sm_seg C [(.aload_n 0, 0)] (pc' := 84) (L' := [(0, .ref 0), (1, .int a1), (2, .int a2)]) (S' := [.ref 0]) (by decide +kernel) rfl ?_
    refine sm_getR 11 0 1 cls11 C (ltM (by decide +kernel : kdM 0 = 11) (by decide)) (by decide +kernel : kdM 0 = 11) (obM11 (by decide +kernel : kdM 0 = 11)) (by decide) (frM11_0 (by decide +kernel : kdM 0 = 11)) fl11_7 (by decide +kernel) ?_
    refine sm_seg C [(.bipush 115, 115), (.iload_n 2, 0), (.iadd, 0), (.iconst 0, 0)] (pc' := 92) (L' := [(0, .ref 0), (1, .int a1), (2, .int a2)]) (S' := [.int 0, .int (115 + a2), .ref 1]) (by decide +kernel) rfl ?_
    refine sm_ast 2244 C (ltM (krM11_0 (by decide +kernel : kdM 0 = 11)) (by decide)) (krM11_0 (by decide +kernel : kdM 0 = 11)) (nrM11_0 (by decide +kernel : kdM 0 = 11)) (by decide +kernel) (fun τ13 => ?_)
    exact sm_sub [0, 1, 2] rfl (s_X11_act_j93 F C hr a1 a2 τ13)
  · exact sm_sub [0, 1, 2] rfl (s_X11_act_j93 F C hr a1 a2 τ)
def X11_act_j36 (F : Nat) (a1 : Int32) (a2 : Int32) (a3 : Int32) (τ : Tau) : Option (Int32 × Tau) :=
  if a1 = 2 then (ald τ 1 2244 (115 + a2) fun v9 => ast τ 1 2244 ((143 + (8 * a2)) + v9) a3 fun τ10 => ald τ10 1 2244 (115 + a2) fun v11 => ast τ10 1 2244 (115 + a2) (v11 + 1) fun τ12 => X11_act_j78 F a1 a2 τ12) else (X11_act_j78 F a1 a2 τ)
theorem s_X11_act_j36 (F : Nat) {K : Ctx} (C : Cx K sysM RX11 cX11_act 5 6) (hr : Rt K (some .boolean)) (a1 : Int32) (a2 : Int32) (a3 : Int32) (τ : Tau) : Sm K sysM 5 (Qi K sysM) (X11_act_j36 F a1 a2 a3 τ) 36 [(0, .ref 0), (1, .int a1), (2, .int a2), (3, .int a3)] [] τ := by
  unfold X11_act_j36
  refine sm_seg C [(.iload_n 1, 0), (.iconst 2, 2)] (pc' := 38) (L' := [(0, .ref 0), (1, .int a1), (2, .int a2), (3, .int a3)]) (S' := [.int 2, .int a1]) (by decide +kernel) rfl ?_
  refine sm_icmpne 78 (off := 40) C (by decide +kernel) (by decide) (fun _ => ?_) (fun _ => ?_)
  · refine sm_seg C [(.aload_n 0, 0)] (pc' := 42) (L' := [(0, .ref 0), (1, .int a1), (2, .int a2), (3, .int a3)]) (S' := [.ref 0]) (by decide +kernel) rfl ?_
    refine sm_getR 11 0 1 cls11 C (ltM (by decide +kernel : kdM 0 = 11) (by decide)) (by decide +kernel : kdM 0 = 11) (obM11 (by decide +kernel : kdM 0 = 11)) (by decide) (frM11_0 (by decide +kernel : kdM 0 = 11)) fl11_7 (by decide +kernel) ?_
    refine sm_seg C [(.sipush 143, 143), (.bipush 8, 8), (.iload_n 2, 0), (.imul, 0), (.iadd, 0), (.aload_n 0, 0)] (pc' := 54) (L' := [(0, .ref 0), (1, .int a1), (2, .int a2), (3, .int a3)]) (S' := [.ref 0, .int (143 + (8 * a2)), .ref 1]) (by decide +kernel) rfl ?_
    refine sm_getR 11 0 1 cls11 C (ltM (by decide +kernel : kdM 0 = 11) (by decide)) (by decide +kernel : kdM 0 = 11) (obM11 (by decide +kernel : kdM 0 = 11)) (by decide) (frM11_0 (by decide +kernel : kdM 0 = 11)) fl11_7 (by decide +kernel) ?_
    refine sm_seg C [(.bipush 115, 115), (.iload_n 2, 0), (.iadd, 0)] (pc' := 61) (L' := [(0, .ref 0), (1, .int a1), (2, .int a2), (3, .int a3)]) (S' := [.int (115 + a2), .ref 1, .int (143 + (8 * a2)), .ref 1]) (by decide +kernel) rfl ?_
    refine sm_ald 2244 C (ltM (krM11_0 (by decide +kernel : kdM 0 = 11)) (by decide)) (krM11_0 (by decide +kernel : kdM 0 = 11)) (nrM11_0 (by decide +kernel : kdM 0 = 11)) (by decide +kernel) (fun v9 => ?_)
    refine sm_seg C [(.iadd, 0), (.iload_n 3, 0)] (pc' := 64) (L' := [(0, .ref 0), (1, .int a1), (2, .int a2), (3, .int a3)]) (S' := [.int a3, .int ((143 + (8 * a2)) + v9), .ref 1]) (by decide +kernel) rfl ?_
    refine sm_ast 2244 C (ltM (krM11_0 (by decide +kernel : kdM 0 = 11)) (by decide)) (krM11_0 (by decide +kernel : kdM 0 = 11)) (nrM11_0 (by decide +kernel : kdM 0 = 11)) (by decide +kernel) (fun τ10 => ?_)
    refine sm_seg C [(.aload_n 0, 0)] (pc' := 66) (L' := [(0, .ref 0), (1, .int a1), (2, .int a2), (3, .int a3)]) (S' := [.ref 0]) (by decide +kernel) rfl ?_
    refine sm_getR 11 0 1 cls11 C (ltM (by decide +kernel : kdM 0 = 11) (by decide)) (by decide +kernel : kdM 0 = 11) (obM11 (by decide +kernel : kdM 0 = 11)) (by decide) (frM11_0 (by decide +kernel : kdM 0 = 11)) fl11_7 (by decide +kernel) ?_
    refine sm_seg C [(.bipush 115, 115), (.iload_n 2, 0), (.iadd, 0), (.dup2, 0)] (pc' := 74) (L' := [(0, .ref 0), (1, .int a1), (2, .int a2), (3, .int a3)]) (S' := [.int (115 + a2), .ref 1, .int (115 + a2), .ref 1]) (by decide +kernel) rfl ?_
    refine sm_ald 2244 C (ltM (krM11_0 (by decide +kernel : kdM 0 = 11)) (by decide)) (krM11_0 (by decide +kernel : kdM 0 = 11)) (nrM11_0 (by decide +kernel : kdM 0 = 11)) (by decide +kernel) (fun v11 => ?_)
    refine sm_seg C [(.iconst 1, 1), (.iadd, 0)] (pc' := 77) (L' := [(0, .ref 0), (1, .int a1), (2, .int a2), (3, .int a3)]) (S' := [.int (v11 + 1), .int (115 + a2), .ref 1]) (by decide +kernel) rfl ?_
    refine sm_ast 2244 C (ltM (krM11_0 (by decide +kernel : kdM 0 = 11)) (by decide)) (krM11_0 (by decide +kernel : kdM 0 = 11)) (nrM11_0 (by decide +kernel : kdM 0 = 11)) (by decide +kernel) (fun τ12 => ?_)
    exact sm_sub [0, 1, 2] rfl (s_X11_act_j78 F C hr a1 a2 τ12)
  · exact sm_sub [0, 1, 2] rfl (s_X11_act_j78 F C hr a1 a2 τ)
def X11_act_j26 (F : Nat) (a1 : Int32) (a2 : Int32) (a3 : Int32) (τ : Tau) : Option (Int32 × Tau) :=
  if a1 = 1 then (cal (X11_calls F a2 τ) fun r7 τ8 => X11_act_j36 F a1 a2 a3 τ8) else (X11_act_j36 F a1 a2 a3 τ)
theorem s_X11_act_j26 (F : Nat) {K : Ctx} (C : Cx K sysM RX11 cX11_act 5 6) (hr : Rt K (some .boolean)) (a1 : Int32) (a2 : Int32) (a3 : Int32) (τ : Tau) : Sm K sysM 5 (Qi K sysM) (X11_act_j26 F a1 a2 a3 τ) 26 [(0, .ref 0), (1, .int a1), (2, .int a2), (3, .int a3)] [] τ := by
  unfold X11_act_j26
  refine sm_seg C [(.iload_n 1, 0), (.iconst 1, 1)] (pc' := 28) (L' := [(0, .ref 0), (1, .int a1), (2, .int a2), (3, .int a3)]) (S' := [.int 1, .int a1]) (by decide +kernel) rfl ?_
  refine sm_icmpne 36 (off := 8) C (by decide +kernel) (by decide) (fun _ => ?_) (fun _ => ?_)
  · refine sm_seg C [(.aload_n 0, 0), (.iload_n 2, 0)] (pc' := 33) (L' := [(0, .ref 0), (1, .int a1), (2, .int a2), (3, .int a3)]) (S' := [.int a2, .ref 0]) (by decide +kernel) rfl ?_
    refine sm_vcalv [.int a2] [] rfl C mw_X11_calls ml_11_338 rfl (ci := 11) rfl (ltM (by decide +kernel : kdM 0 = 11) (by decide)) (by decide +kernel : kdM 0 = 11) (by decide) ⟨by decide, by decide⟩ (Nat.le_of_ble_eq_true rfl) (by decide +kernel) (c_X11_calls F a2 τ) (fun r7 τ8 => ?_)
    exact sm_sub [0, 1, 2, 3] rfl (s_X11_act_j36 F C hr a1 a2 a3 τ8)
  · exact sm_sub [0, 1, 2, 3] rfl (s_X11_act_j36 F C hr a1 a2 a3 τ)
def X11_act (F : Nat) (a1 : Int32) (a2 : Int32) (a3 : Int32) (τ : Tau) : Option (Int32 × Tau) :=
  cal (X11_canAct F a1 a2 a3 τ) fun r1 τ2 => if r1 = 0 then (some (0, τ2)) else (cal (X11_keeps F τ2) fun r3 τ4 => if a1 = 0 then (cal (X11_sends F a2 a3 τ4) fun r5 τ6 => X11_act_j26 F a1 a2 a3 τ6) else (X11_act_j26 F a1 a2 a3 τ4))
set_option maxRecDepth 20000 in
set_option maxHeartbeats 4000000 in
theorem c_X11_act (F : Nat) (a1 : Int32) (a2 : Int32) (a3 : Int32) (τ : Tau) (r : Int32) (τ' : Tau) (h : X11_act F a1 a2 a3 τ = some (r, τ')) : MCi sysM yX11_act cX11_act 5 (some .boolean) 6 [.ref 0, .int a1, .int a2, .int a3] τ r τ' :=
  mci_of (by decide +kernel) (Nat.le_of_ble_eq_true rfl) (fun K C hr => by
    show Sm K sysM 5 (Qi K sysM) (X11_act F a1 a2 a3 τ) 0 [(0, .ref 0), (1, .int a1), (2, .int a2), (3, .int a3)] [] τ
    unfold X11_act
    refine sm_seg C [(.aload_n 0, 0), (.iload_n 1, 0), (.iload_n 2, 0), (.iload_n 3, 0)] (pc' := 4) (L' := [(0, .ref 0), (1, .int a1), (2, .int a2), (3, .int a3)]) (S' := [.int a3, .int a2, .int a1, .ref 0]) (by decide +kernel) rfl ?_
    refine sm_vcal [.int a1, .int a2, .int a3] [] rfl C mw_X11_canAct ml_11_329 rfl (ci := 11) rfl (ltM (by decide +kernel : kdM 0 = 11) (by decide)) (by decide +kernel : kdM 0 = 11) (by decide) ⟨by decide, by decide⟩ (Nat.le_of_ble_eq_true rfl) (by decide +kernel) (c_X11_canAct F a1 a2 a3 τ) (fun r1 τ2 => ?_)
    refine sm_ifne 12 (off := 5) C (by decide +kernel) (by decide) (fun _ => ?_) (fun _ => ?_)
    · refine sm_seg C [(.iconst 0, 0)] (pc' := 11) (L' := [(0, .ref 0), (1, .int a1), (2, .int a2), (3, .int a3)]) (S' := [.int 0]) (by decide +kernel) rfl ?_
      exact sm_iret C hr rfl (by decide +kernel)
    · refine sm_seg C [(.aload_n 0, 0)] (pc' := 13) (L' := [(0, .ref 0), (1, .int a1), (2, .int a2), (3, .int a3)]) (S' := [.ref 0]) (by decide +kernel) rfl ?_
      refine sm_vcalv [] [] rfl C mw_X11_keeps ml_11_332 rfl (ci := 11) rfl (ltM (by decide +kernel : kdM 0 = 11) (by decide)) (by decide +kernel : kdM 0 = 11) (by decide) ⟨by decide, by decide⟩ (Nat.le_of_ble_eq_true rfl) (by decide +kernel) (c_X11_keeps F τ2) (fun r3 τ4 => ?_)
      refine sm_seg C [(.iload_n 1, 0)] (pc' := 17) (L' := [(0, .ref 0), (1, .int a1), (2, .int a2), (3, .int a3)]) (S' := [.int a1]) (by decide +kernel) rfl ?_
      refine sm_ifne 26 (off := 9) C (by decide +kernel) (by decide) (fun _ => ?_) (fun _ => ?_)
      · refine sm_seg C [(.aload_n 0, 0), (.iload_n 2, 0), (.iload_n 3, 0)] (pc' := 23) (L' := [(0, .ref 0), (1, .int a1), (2, .int a2), (3, .int a3)]) (S' := [.int a3, .int a2, .ref 0]) (by decide +kernel) rfl ?_
        refine sm_vcalv [.int a2, .int a3] [] rfl C mw_X11_sends ml_11_335 rfl (ci := 11) rfl (ltM (by decide +kernel : kdM 0 = 11) (by decide)) (by decide +kernel : kdM 0 = 11) (by decide) ⟨by decide, by decide⟩ (Nat.le_of_ble_eq_true rfl) (by decide +kernel) (c_X11_sends F a2 a3 τ4) (fun r5 τ6 => ?_)
        exact sm_sub [0, 1, 2, 3] rfl (s_X11_act_j26 F C hr a1 a2 a3 τ6)
      · exact sm_sub [0, 1, 2, 3] rfl (s_X11_act_j26 F C hr a1 a2 a3 τ4)) h
/-! BasketEnvoysModel.readAlike -/
def X11_readAlike_j59 (F : Nat) (self5 : Int32 → Int32 → Int32 → Int32 → Tau → Option (Int32 × Tau)) (a1 : Int32) (a2 : Int32) (a4 : Int32) (z0 : Int32) (z1 : Int32) (τ : Tau) : Option (Int32 × Tau) :=
  self5 a1 a2 (z1 &&& z0) (a4 + 1) τ
theorem s_X11_readAlike_j59 (F : Nat) {K : Ctx} (C : Cx K sysM RX11 cX11_readAlike 5 2) (hr : Rt K (some .boolean)) (self5 : Int32 → Int32 → Int32 → Int32 → Tau → Option (Int32 × Tau)) (ih5 : ∀ (a1 : Int32) (a2 : Int32) (a3 : Int32) (a4 : Int32) (τ : Tau), Sm K sysM 5 (Qi K sysM) (self5 a1 a2 a3 a4 τ) 5 [(0, .ref 0), (1, .int a1), (2, .int a2), (3, .int a3), (4, .int a4)] [] τ) (a1 : Int32) (a2 : Int32) (a4 : Int32) (z0 : Int32) (z1 : Int32) (τ : Tau) : Sm K sysM 5 (Qi K sysM) (X11_readAlike_j59 F self5 a1 a2 a4 z0 z1 τ) 59 [(0, .ref 0), (1, .int a1), (2, .int a2), (4, .int a4)] [.int z0, .int z1] τ := by
  unfold X11_readAlike_j59
  refine sm_seg C [(.iand, 0), (.istore_n 3, 0), (.iinc 4 1, 1), (.goto (-59), 0)] (pc' := 5) (L' := [(4, .int (a4 + 1)), (3, .int (z1 &&& z0)), (0, .ref 0), (1, .int a1), (2, .int a2)]) (S' := []) (by decide +kernel) rfl ?_
  exact sm_sub [2, 3, 4, 1, 0] rfl (ih5 a1 a2 (z1 &&& z0) (a4 + 1) τ)
def X11_readAlike_L5 (F : Nat) : Nat → Int32 → Int32 → Int32 → Int32 → Tau → Option (Int32 × Tau)
  | 0, _, _, _, _, _ => none
  | n + 1, a1, a2, a3, a4, τ =>
    ald τ 1 2244 515 fun v1 => if v1 ≤ a4 then (some (vp_nar .boolean a3, τ)) else (ald τ 1 2244 (516 + a4) fun v2 => cal (X11_meaning F a1 v2 τ) fun r3 τ4 => ald τ4 1 2244 (516 + a4) fun v5 => cal (X11_meaning F a2 v5 τ4) fun r6 τ7 => if r3 = r6 then (X11_readAlike_j59 F (X11_readAlike_L5 F n) a1 a2 a4 1 a3 τ7) else (X11_readAlike_j59 F (X11_readAlike_L5 F n) a1 a2 a4 0 a3 τ7))
theorem s_X11_readAlike_L5 (F : Nat) {K : Ctx} (C : Cx K sysM RX11 cX11_readAlike 5 2) (hr : Rt K (some .boolean)) : ∀ (n : Nat) (a1 : Int32) (a2 : Int32) (a3 : Int32) (a4 : Int32) (τ : Tau), Sm K sysM 5 (Qi K sysM) (X11_readAlike_L5 F n a1 a2 a3 a4 τ) 5 [(0, .ref 0), (1, .int a1), (2, .int a2), (3, .int a3), (4, .int a4)] [] τ := by
  intro n
  induction n with
  | zero => intro a1 a2 a3 a4 τ; exact sm_none
  | succ n ih =>
    intro a1 a2 a3 a4 τ
    rw [X11_readAlike_L5]
    refine sm_seg C [(.iload 4, 0), (.aload_n 0, 0)] (pc' := 8) (L' := [(0, .ref 0), (1, .int a1), (2, .int a2), (3, .int a3), (4, .int a4)]) (S' := [.ref 0, .int a4]) (by decide +kernel) rfl ?_
    refine sm_getR 11 0 1 cls11 C (ltM (by decide +kernel : kdM 0 = 11) (by decide)) (by decide +kernel : kdM 0 = 11) (obM11 (by decide +kernel : kdM 0 = 11)) (by decide) (frM11_0 (by decide +kernel : kdM 0 = 11)) fl11_7 (by decide +kernel) ?_
    refine sm_seg C [(.sipush 515, 515)] (pc' := 14) (L' := [(0, .ref 0), (1, .int a1), (2, .int a2), (3, .int a3), (4, .int a4)]) (S' := [.int 515, .ref 1, .int a4]) (by decide +kernel) rfl ?_
    refine sm_ald 2244 C (ltM (krM11_0 (by decide +kernel : kdM 0 = 11)) (by decide)) (krM11_0 (by decide +kernel : kdM 0 = 11)) (nrM11_0 (by decide +kernel : kdM 0 = 11)) (by decide +kernel) (fun v1 => ?_)
    refine sm_icmpge 67 (off := 52) C (by decide +kernel) (by decide) (fun _ => ?_) (fun _ => ?_)
    · refine sm_seg C [(.iload_n 3, 0)] (pc' := 68) (L' := [(0, .ref 0), (1, .int a1), (2, .int a2), (3, .int a3), (4, .int a4)]) (S' := [.int a3]) (by decide +kernel) rfl ?_
      exact sm_iret C hr nar_boolean (by decide +kernel)
    · refine sm_seg C [(.iload_n 3, 0), (.aload_n 0, 0), (.iload_n 1, 0), (.aload_n 0, 0)] (pc' := 22) (L' := [(0, .ref 0), (1, .int a1), (2, .int a2), (3, .int a3), (4, .int a4)]) (S' := [.ref 0, .int a1, .ref 0, .int a3]) (by decide +kernel) rfl ?_
      refine sm_getR 11 0 1 cls11 C (ltM (by decide +kernel : kdM 0 = 11) (by decide)) (by decide +kernel : kdM 0 = 11) (obM11 (by decide +kernel : kdM 0 = 11)) (by decide) (frM11_0 (by decide +kernel : kdM 0 = 11)) fl11_7 (by decide +kernel) ?_
      refine sm_seg C [(.sipush 516, 516), (.iload 4, 0), (.iadd, 0)] (pc' := 31) (L' := [(0, .ref 0), (1, .int a1), (2, .int a2), (3, .int a3), (4, .int a4)]) (S' := [.int (516 + a4), .ref 1, .int a1, .ref 0, .int a3]) (by decide +kernel) rfl ?_
      refine sm_ald 2244 C (ltM (krM11_0 (by decide +kernel : kdM 0 = 11)) (by decide)) (krM11_0 (by decide +kernel : kdM 0 = 11)) (nrM11_0 (by decide +kernel : kdM 0 = 11)) (by decide +kernel) (fun v2 => ?_)
      refine sm_vcal [.int a1, .int v2] [.int a3] rfl C mw_X11_meaning ml_11_309 rfl (ci := 11) rfl (ltM (by decide +kernel : kdM 0 = 11) (by decide)) (by decide +kernel : kdM 0 = 11) (by decide) ⟨by decide, by decide⟩ (Nat.le_of_ble_eq_true rfl) (by decide +kernel) (c_X11_meaning F a1 v2 τ) (fun r3 τ4 => ?_)
      refine sm_seg C [(.aload_n 0, 0), (.iload_n 2, 0), (.aload_n 0, 0)] (pc' := 38) (L' := [(0, .ref 0), (1, .int a1), (2, .int a2), (3, .int a3), (4, .int a4)]) (S' := [.ref 0, .int a2, .ref 0, .int r3, .int a3]) (by decide +kernel) rfl ?_
      refine sm_getR 11 0 1 cls11 C (ltM (by decide +kernel : kdM 0 = 11) (by decide)) (by decide +kernel : kdM 0 = 11) (obM11 (by decide +kernel : kdM 0 = 11)) (by decide) (frM11_0 (by decide +kernel : kdM 0 = 11)) fl11_7 (by decide +kernel) ?_
      refine sm_seg C [(.sipush 516, 516), (.iload 4, 0), (.iadd, 0)] (pc' := 47) (L' := [(0, .ref 0), (1, .int a1), (2, .int a2), (3, .int a3), (4, .int a4)]) (S' := [.int (516 + a4), .ref 1, .int a2, .ref 0, .int r3, .int a3]) (by decide +kernel) rfl ?_
      refine sm_ald 2244 C (ltM (krM11_0 (by decide +kernel : kdM 0 = 11)) (by decide)) (krM11_0 (by decide +kernel : kdM 0 = 11)) (nrM11_0 (by decide +kernel : kdM 0 = 11)) (by decide +kernel) (fun v5 => ?_)
      refine sm_vcal [.int a2, .int v5] [.int r3, .int a3] rfl C mw_X11_meaning ml_11_309 rfl (ci := 11) rfl (ltM (by decide +kernel : kdM 0 = 11) (by decide)) (by decide +kernel : kdM 0 = 11) (by decide) ⟨by decide, by decide⟩ (Nat.le_of_ble_eq_true rfl) (by decide +kernel) (c_X11_meaning F a2 v5 τ4) (fun r6 τ7 => ?_)
      refine sm_icmpne 58 (off := 7) C (by decide +kernel) (by decide) (fun _ => ?_) (fun _ => ?_)
      · refine sm_seg C [(.iconst 1, 1), (.goto 4, 0)] (pc' := 59) (L' := [(0, .ref 0), (1, .int a1), (2, .int a2), (3, .int a3), (4, .int a4)]) (S' := [.int 1, .int a3]) (by decide +kernel) rfl ?_
        exact sm_sub [0, 1, 2, 4] rfl (s_X11_readAlike_j59 F C hr (X11_readAlike_L5 F n) ih a1 a2 a4 1 a3 τ7)
      · refine sm_seg C [(.iconst 0, 0)] (pc' := 59) (L' := [(0, .ref 0), (1, .int a1), (2, .int a2), (3, .int a3), (4, .int a4)]) (S' := [.int 0, .int a3]) (by decide +kernel) rfl ?_
        exact sm_sub [0, 1, 2, 4] rfl (s_X11_readAlike_j59 F C hr (X11_readAlike_L5 F n) ih a1 a2 a4 0 a3 τ7)
def X11_readAlike (F : Nat) (a1 : Int32) (a2 : Int32) (τ : Tau) : Option (Int32 × Tau) :=
  X11_readAlike_L5 F F a1 a2 1 0 τ
set_option maxRecDepth 20000 in
set_option maxHeartbeats 4000000 in
theorem c_X11_readAlike (F : Nat) (a1 : Int32) (a2 : Int32) (τ : Tau) (r : Int32) (τ' : Tau) (h : X11_readAlike F a1 a2 τ = some (r, τ')) : MCi sysM yX11_readAlike cX11_readAlike 5 (some .boolean) 2 [.ref 0, .int a1, .int a2] τ r τ' :=
  mci_of (by decide +kernel) (Nat.le_of_ble_eq_true rfl) (fun K C hr => by
    show Sm K sysM 5 (Qi K sysM) (X11_readAlike F a1 a2 τ) 0 [(0, .ref 0), (1, .int a1), (2, .int a2)] [] τ
    unfold X11_readAlike
    refine sm_seg C [(.iconst 1, 1), (.istore_n 3, 0), (.iconst 0, 0), (.istore 4, 0)] (pc' := 5) (L' := [(4, .int 0), (3, .int 1), (0, .ref 0), (1, .int a1), (2, .int a2)]) (S' := []) (by decide +kernel) rfl ?_
    exact sm_sub [2, 3, 4, 1, 0] rfl (s_X11_readAlike_L5 F C hr F a1 a2 1 0 τ)) h
/-! BasketEnvoysModel.alike -/
def X11_alike_j43 (F : Nat) (self14 : Int32 → Int32 → Int32 → Tau → Option (Int32 × Tau)) (a1 : Int32) (a3 : Int32) (z0 : Int32) (z1 : Int32) (τ : Tau) : Option (Int32 × Tau) :=
  self14 a1 (z1 ||| z0) (a3 + 1) τ
theorem s_X11_alike_j43 (F : Nat) {K : Ctx} (C : Cx K sysM RX11 cX11_alike 4 3) (hr : Rt K (some .int)) (self14 : Int32 → Int32 → Int32 → Tau → Option (Int32 × Tau)) (ih14 : ∀ (a1 : Int32) (a2 : Int32) (a3 : Int32) (τ : Tau), Sm K sysM 4 (Qi K sysM) (self14 a1 a2 a3 τ) 14 [(0, .ref 0), (1, .int a1), (2, .int a2), (3, .int a3)] [] τ) (a1 : Int32) (a3 : Int32) (z0 : Int32) (z1 : Int32) (τ : Tau) : Sm K sysM 4 (Qi K sysM) (X11_alike_j43 F self14 a1 a3 z0 z1 τ) 43 [(0, .ref 0), (1, .int a1), (3, .int a3)] [.int z0, .int z1] τ := by
  unfold X11_alike_j43
  refine sm_seg C [(.ior, 0), (.istore_n 2, 0), (.iinc 3 1, 1), (.goto (-34), 0)] (pc' := 14) (L' := [(3, .int (a3 + 1)), (2, .int (z1 ||| z0)), (0, .ref 0), (1, .int a1)]) (S' := []) (by decide +kernel) rfl ?_
  exact sm_sub [2, 3, 1, 0] rfl (ih14 a1 (z1 ||| z0) (a3 + 1) τ)
def X11_alike_L14 (F : Nat) : Nat → Int32 → Int32 → Int32 → Tau → Option (Int32 × Tau)
  | 0, _, _, _, _ => none
  | n + 1, a1, a2, a3, τ =>
    ald τ 1 2244 255 fun v3 => if v3 ≤ a3 then (some (a2, τ)) else (cal (X11_readAlike F a1 a3 τ) fun r4 τ5 => if r4 = 0 then (X11_alike_j43 F (X11_alike_L14 F n) a1 a3 0 a2 τ5) else (X11_alike_j43 F (X11_alike_L14 F n) a1 a3 (shl 1 a3) a2 τ5))
theorem s_X11_alike_L14 (F : Nat) {K : Ctx} (C : Cx K sysM RX11 cX11_alike 4 3) (hr : Rt K (some .int)) : ∀ (n : Nat) (a1 : Int32) (a2 : Int32) (a3 : Int32) (τ : Tau), Sm K sysM 4 (Qi K sysM) (X11_alike_L14 F n a1 a2 a3 τ) 14 [(0, .ref 0), (1, .int a1), (2, .int a2), (3, .int a3)] [] τ := by
  intro n
  induction n with
  | zero => intro a1 a2 a3 τ; exact sm_none
  | succ n ih =>
    intro a1 a2 a3 τ
    rw [X11_alike_L14]
    refine sm_seg C [(.iload_n 3, 0), (.aload_n 0, 0)] (pc' := 16) (L' := [(0, .ref 0), (1, .int a1), (2, .int a2), (3, .int a3)]) (S' := [.ref 0, .int a3]) (by decide +kernel) rfl ?_
    refine sm_getR 11 0 1 cls11 C (ltM (by decide +kernel : kdM 0 = 11) (by decide)) (by decide +kernel : kdM 0 = 11) (obM11 (by decide +kernel : kdM 0 = 11)) (by decide) (frM11_0 (by decide +kernel : kdM 0 = 11)) fl11_7 (by decide +kernel) ?_
    refine sm_seg C [(.sipush 255, 255)] (pc' := 22) (L' := [(0, .ref 0), (1, .int a1), (2, .int a2), (3, .int a3)]) (S' := [.int 255, .ref 1, .int a3]) (by decide +kernel) rfl ?_
    refine sm_ald 2244 C (ltM (krM11_0 (by decide +kernel : kdM 0 = 11)) (by decide)) (krM11_0 (by decide +kernel : kdM 0 = 11)) (nrM11_0 (by decide +kernel : kdM 0 = 11)) (by decide +kernel) (fun v3 => ?_)
    refine sm_icmpge 51 (off := 28) C (by decide +kernel) (by decide) (fun _ => ?_) (fun _ => ?_)
    · refine sm_seg C [(.iload_n 2, 0)] (pc' := 52) (L' := [(0, .ref 0), (1, .int a1), (2, .int a2), (3, .int a3)]) (S' := [.int a2]) (by decide +kernel) rfl ?_
      exact sm_iret C hr rfl (by decide +kernel)
    · refine sm_seg C [(.iload_n 2, 0), (.aload_n 0, 0), (.iload_n 1, 0), (.iload_n 3, 0)] (pc' := 30) (L' := [(0, .ref 0), (1, .int a1), (2, .int a2), (3, .int a3)]) (S' := [.int a3, .int a1, .ref 0, .int a2]) (by decide +kernel) rfl ?_
      refine sm_vcal [.int a1, .int a3] [.int a2] rfl C mw_X11_readAlike ml_11_394 rfl (ci := 11) rfl (ltM (by decide +kernel : kdM 0 = 11) (by decide)) (by decide +kernel : kdM 0 = 11) (by decide) ⟨by decide, by decide⟩ (Nat.le_of_ble_eq_true rfl) (by decide +kernel) (c_X11_readAlike F a1 a3 τ) (fun r4 τ5 => ?_)
      refine sm_ifeq 42 (off := 9) C (by decide +kernel) (by decide) (fun _ => ?_) (fun _ => ?_)
      · refine sm_seg C [(.iconst 0, 0)] (pc' := 43) (L' := [(0, .ref 0), (1, .int a1), (2, .int a2), (3, .int a3)]) (S' := [.int 0, .int a2]) (by decide +kernel) rfl ?_
        exact sm_sub [0, 1, 3] rfl (s_X11_alike_j43 F C hr (X11_alike_L14 F n) ih a1 a3 0 a2 τ5)
      · refine sm_seg C [(.iconst 1, 1), (.iload_n 3, 0), (.ishl, 0), (.goto 4, 0)] (pc' := 43) (L' := [(0, .ref 0), (1, .int a1), (2, .int a2), (3, .int a3)]) (S' := [.int (shl 1 a3), .int a2]) (by decide +kernel) rfl ?_
        exact sm_sub [0, 1, 3] rfl (s_X11_alike_j43 F C hr (X11_alike_L14 F n) ih a1 a3 (shl 1 a3) a2 τ5)
def X11_alike (F : Nat) (a1 : Int32) (τ : Tau) : Option (Int32 × Tau) :=
  cal (X11_isPower F a1 τ) fun r1 τ2 => if r1 = 0 then (some ((-1), τ2)) else (X11_alike_L14 F F a1 0 0 τ2)
set_option maxRecDepth 20000 in
set_option maxHeartbeats 4000000 in
theorem c_X11_alike (F : Nat) (a1 : Int32) (τ : Tau) (r : Int32) (τ' : Tau) (h : X11_alike F a1 τ = some (r, τ')) : MCi sysM yX11_alike cX11_alike 4 (some .int) 3 [.ref 0, .int a1] τ r τ' :=
  mci_of (by decide +kernel) (Nat.le_of_ble_eq_true rfl) (fun K C hr => by
    show Sm K sysM 4 (Qi K sysM) (X11_alike F a1 τ) 0 [(0, .ref 0), (1, .int a1)] [] τ
    unfold X11_alike
    refine sm_seg C [(.aload_n 0, 0), (.iload_n 1, 0)] (pc' := 2) (L' := [(0, .ref 0), (1, .int a1)]) (S' := [.int a1, .ref 0]) (by decide +kernel) rfl ?_
    refine sm_vcal [.int a1] [] rfl C mw_X11_isPower ml_11_90 rfl (ci := 11) rfl (ltM (by decide +kernel : kdM 0 = 11) (by decide)) (by decide +kernel : kdM 0 = 11) (by decide) ⟨by decide, by decide⟩ (Nat.le_of_ble_eq_true rfl) (by decide +kernel) (c_X11_isPower F a1 τ) (fun r1 τ2 => ?_)
    refine sm_ifne 10 (off := 5) C (by decide +kernel) (by decide) (fun _ => ?_) (fun _ => ?_)
    · refine sm_seg C [(.iconst (-1), (-1))] (pc' := 9) (L' := [(0, .ref 0), (1, .int a1)]) (S' := [.int (-1)]) (by decide +kernel) rfl ?_
      exact sm_iret C hr rfl (by decide +kernel)
    · refine sm_seg C [(.iconst 0, 0), (.istore_n 2, 0), (.iconst 0, 0), (.istore_n 3, 0)] (pc' := 14) (L' := [(3, .int 0), (2, .int 0), (0, .ref 0), (1, .int a1)]) (S' := []) (by decide +kernel) rfl ?_
      exact sm_sub [2, 3, 1, 0] rfl (s_X11_alike_L14 F C hr F a1 0 0 τ2)) h
/-! BasketEnvoysModel.allHold -/
def X11_allHold_j72 (F : Nat) (self2 : Int32 → Int32 → Tau → Option (Int32 × Tau)) (a1 : Int32) (a2 : Int32) (τ : Tau) : Option (Int32 × Tau) :=
  self2 a1 (a2 + 1) τ
theorem s_X11_allHold_j72 (F : Nat) {K : Ctx} (C : Cx K sysM RX11 cX11_allHold 4 1) (hr : Rt K (some .boolean)) (self2 : Int32 → Int32 → Tau → Option (Int32 × Tau)) (ih2 : ∀ (a1 : Int32) (a2 : Int32) (τ : Tau), Sm K sysM 4 (Qi K sysM) (self2 a1 a2 τ) 2 [(0, .ref 0), (1, .int a1), (2, .int a2)] [] τ) (a1 : Int32) (a2 : Int32) (τ : Tau) : Sm K sysM 4 (Qi K sysM) (X11_allHold_j72 F self2 a1 a2 τ) 72 [(0, .ref 0), (1, .int a1), (2, .int a2)] [] τ := by
  unfold X11_allHold_j72
  refine sm_seg C [(.iinc 2 1, 1), (.goto (-73), 0)] (pc' := 2) (L' := [(2, .int (a2 + 1)), (0, .ref 0), (1, .int a1)]) (S' := []) (by decide +kernel) rfl ?_
  exact sm_sub [1, 2, 0] rfl (ih2 a1 (a2 + 1) τ)
def X11_allHold_L2 (F : Nat) : Nat → Int32 → Int32 → Tau → Option (Int32 × Tau)
  | 0, _, _, _ => none
  | n + 1, a1, a2, τ =>
    ald τ 1 2244 629 fun v1 => if v1 ≤ a2 then (some (1, τ)) else (ald τ 1 2244 (630 + (3 * a2)) fun v2 => ald τ 1 2244 ((630 + (3 * a2)) + 2) fun v3 => if ((shr a1 v2) &&& 1) = (v3 &&& 1) then (X11_allHold_j72 F (X11_allHold_L2 F n) a1 a2 τ) else (ald τ 1 2244 ((630 + (3 * a2)) + 1) fun v4 => ald τ 1 2244 ((630 + (3 * a2)) + 2) fun v5 => if ((shr a1 v4) &&& 1) = (shr v5 1) then (X11_allHold_j72 F (X11_allHold_L2 F n) a1 a2 τ) else (some (0, τ))))
theorem s_X11_allHold_L2 (F : Nat) {K : Ctx} (C : Cx K sysM RX11 cX11_allHold 4 1) (hr : Rt K (some .boolean)) : ∀ (n : Nat) (a1 : Int32) (a2 : Int32) (τ : Tau), Sm K sysM 4 (Qi K sysM) (X11_allHold_L2 F n a1 a2 τ) 2 [(0, .ref 0), (1, .int a1), (2, .int a2)] [] τ := by
  intro n
  induction n with
  | zero => intro a1 a2 τ; exact sm_none
  | succ n ih =>
    intro a1 a2 τ
    rw [X11_allHold_L2]
    refine sm_seg C [(.iload_n 2, 0), (.aload_n 0, 0)] (pc' := 4) (L' := [(0, .ref 0), (1, .int a1), (2, .int a2)]) (S' := [.ref 0, .int a2]) (by decide +kernel) rfl ?_
    refine sm_getR 11 0 1 cls11 C (ltM (by decide +kernel : kdM 0 = 11) (by decide)) (by decide +kernel : kdM 0 = 11) (obM11 (by decide +kernel : kdM 0 = 11)) (by decide) (frM11_0 (by decide +kernel : kdM 0 = 11)) fl11_7 (by decide +kernel) ?_
    refine sm_seg C [(.sipush 629, 629)] (pc' := 10) (L' := [(0, .ref 0), (1, .int a1), (2, .int a2)]) (S' := [.int 629, .ref 1, .int a2]) (by decide +kernel) rfl ?_
    refine sm_ald 2244 C (ltM (krM11_0 (by decide +kernel : kdM 0 = 11)) (by decide)) (krM11_0 (by decide +kernel : kdM 0 = 11)) (nrM11_0 (by decide +kernel : kdM 0 = 11)) (by decide +kernel) (fun v1 => ?_)
    refine sm_icmpge 78 (off := 67) C (by decide +kernel) (by decide) (fun _ => ?_) (fun _ => ?_)
    · refine sm_seg C [(.iconst 1, 1)] (pc' := 79) (L' := [(0, .ref 0), (1, .int a1), (2, .int a2)]) (S' := [.int 1]) (by decide +kernel) rfl ?_
      exact sm_iret C hr rfl (by decide +kernel)
    · refine sm_seg C [(.sipush 630, 630), (.iconst 3, 3), (.iload_n 2, 0), (.imul, 0), (.iadd, 0), (.istore_n 3, 0), (.iload_n 1, 0), (.aload_n 0, 0)] (pc' := 24) (L' := [(3, .int (630 + (3 * a2))), (0, .ref 0), (1, .int a1), (2, .int a2)]) (S' := [.ref 0, .int a1]) (by decide +kernel) rfl ?_
      refine sm_getR 11 0 1 cls11 C (ltM (by decide +kernel : kdM 0 = 11) (by decide)) (by decide +kernel : kdM 0 = 11) (obM11 (by decide +kernel : kdM 0 = 11)) (by decide) (frM11_0 (by decide +kernel : kdM 0 = 11)) fl11_7 (by decide +kernel) ?_
      refine sm_seg C [(.iload_n 3, 0)] (pc' := 28) (L' := [(3, .int (630 + (3 * a2))), (0, .ref 0), (1, .int a1), (2, .int a2)]) (S' := [.int (630 + (3 * a2)), .ref 1, .int a1]) (by decide +kernel) rfl ?_
      refine sm_ald 2244 C (ltM (krM11_0 (by decide +kernel : kdM 0 = 11)) (by decide)) (krM11_0 (by decide +kernel : kdM 0 = 11)) (nrM11_0 (by decide +kernel : kdM 0 = 11)) (by decide +kernel) (fun v2 => ?_)
      refine sm_seg C [(.ishr, 0), (.iconst 1, 1), (.iand, 0), (.aload_n 0, 0)] (pc' := 33) (L' := [(3, .int (630 + (3 * a2))), (0, .ref 0), (1, .int a1), (2, .int a2)]) (S' := [.ref 0, .int ((shr a1 v2) &&& 1)]) (by decide +kernel) rfl ?_
      refine sm_getR 11 0 1 cls11 C (ltM (by decide +kernel : kdM 0 = 11) (by decide)) (by decide +kernel : kdM 0 = 11) (obM11 (by decide +kernel : kdM 0 = 11)) (by decide) (frM11_0 (by decide +kernel : kdM 0 = 11)) fl11_7 (by decide +kernel) ?_
      refine sm_seg C [(.iload_n 3, 0), (.iconst 2, 2), (.iadd, 0)] (pc' := 39) (L' := [(3, .int (630 + (3 * a2))), (0, .ref 0), (1, .int a1), (2, .int a2)]) (S' := [.int ((630 + (3 * a2)) + 2), .ref 1, .int ((shr a1 v2) &&& 1)]) (by decide +kernel) rfl ?_
      refine sm_ald 2244 C (ltM (krM11_0 (by decide +kernel : kdM 0 = 11)) (by decide)) (krM11_0 (by decide +kernel : kdM 0 = 11)) (nrM11_0 (by decide +kernel : kdM 0 = 11)) (by decide +kernel) (fun v3 => ?_)
      refine sm_seg C [(.iconst 1, 1), (.iand, 0)] (pc' := 42) (L' := [(3, .int (630 + (3 * a2))), (0, .ref 0), (1, .int a1), (2, .int a2)]) (S' := [.int (v3 &&& 1), .int ((shr a1 v2) &&& 1)]) (by decide +kernel) rfl ?_
      refine sm_icmpeq 72 (off := 30) C (by decide +kernel) (by decide) (fun _ => ?_) (fun _ => ?_)
      · exact sm_sub [1, 2, 3] rfl (s_X11_allHold_j72 F C hr (X11_allHold_L2 F n) ih a1 a2 τ)
      · refine sm_seg C [(.iload_n 1, 0), (.aload_n 0, 0)] (pc' := 47) (L' := [(3, .int (630 + (3 * a2))), (0, .ref 0), (1, .int a1), (2, .int a2)]) (S' := [.ref 0, .int a1]) (by decide +kernel) rfl ?_
        refine sm_getR 11 0 1 cls11 C (ltM (by decide +kernel : kdM 0 = 11) (by decide)) (by decide +kernel : kdM 0 = 11) (obM11 (by decide +kernel : kdM 0 = 11)) (by decide) (frM11_0 (by decide +kernel : kdM 0 = 11)) fl11_7 (by decide +kernel) ?_
        refine sm_seg C [(.iload_n 3, 0), (.iconst 1, 1), (.iadd, 0)] (pc' := 53) (L' := [(3, .int (630 + (3 * a2))), (0, .ref 0), (1, .int a1), (2, .int a2)]) (S' := [.int ((630 + (3 * a2)) + 1), .ref 1, .int a1]) (by decide +kernel) rfl ?_
        refine sm_ald 2244 C (ltM (krM11_0 (by decide +kernel : kdM 0 = 11)) (by decide)) (krM11_0 (by decide +kernel : kdM 0 = 11)) (nrM11_0 (by decide +kernel : kdM 0 = 11)) (by decide +kernel) (fun v4 => ?_)
        refine sm_seg C [(.ishr, 0), (.iconst 1, 1), (.iand, 0), (.aload_n 0, 0)] (pc' := 58) (L' := [(3, .int (630 + (3 * a2))), (0, .ref 0), (1, .int a1), (2, .int a2)]) (S' := [.ref 0, .int ((shr a1 v4) &&& 1)]) (by decide +kernel) rfl ?_
        refine sm_getR 11 0 1 cls11 C (ltM (by decide +kernel : kdM 0 = 11) (by decide)) (by decide +kernel : kdM 0 = 11) (obM11 (by decide +kernel : kdM 0 = 11)) (by decide) (frM11_0 (by decide +kernel : kdM 0 = 11)) fl11_7 (by decide +kernel) ?_
        refine sm_seg C [(.iload_n 3, 0), (.iconst 2, 2), (.iadd, 0)] (pc' := 64) (L' := [(3, .int (630 + (3 * a2))), (0, .ref 0), (1, .int a1), (2, .int a2)]) (S' := [.int ((630 + (3 * a2)) + 2), .ref 1, .int ((shr a1 v4) &&& 1)]) (by decide +kernel) rfl ?_
        refine sm_ald 2244 C (ltM (krM11_0 (by decide +kernel : kdM 0 = 11)) (by decide)) (krM11_0 (by decide +kernel : kdM 0 = 11)) (nrM11_0 (by decide +kernel : kdM 0 = 11)) (by decide +kernel) (fun v5 => ?_)
        refine sm_seg C [(.iconst 1, 1), (.ishr, 0)] (pc' := 67) (L' := [(3, .int (630 + (3 * a2))), (0, .ref 0), (1, .int a1), (2, .int a2)]) (S' := [.int (shr v5 1), .int ((shr a1 v4) &&& 1)]) (by decide +kernel) rfl ?_
        refine sm_icmpeq 72 (off := 5) C (by decide +kernel) (by decide) (fun _ => ?_) (fun _ => ?_)
        · exact sm_sub [1, 2, 3] rfl (s_X11_allHold_j72 F C hr (X11_allHold_L2 F n) ih a1 a2 τ)
        · refine sm_seg C [(.iconst 0, 0)] (pc' := 71) (L' := [(3, .int (630 + (3 * a2))), (0, .ref 0), (1, .int a1), (2, .int a2)]) (S' := [.int 0]) (by decide +kernel) rfl ?_
          exact sm_iret C hr rfl (by decide +kernel)
def X11_allHold (F : Nat) (a1 : Int32) (τ : Tau) : Option (Int32 × Tau) :=
  X11_allHold_L2 F F a1 0 τ
set_option maxRecDepth 20000 in
set_option maxHeartbeats 4000000 in
theorem c_X11_allHold (F : Nat) (a1 : Int32) (τ : Tau) (r : Int32) (τ' : Tau) (h : X11_allHold F a1 τ = some (r, τ')) : MCi sysM yX11_allHold cX11_allHold 4 (some .boolean) 1 [.ref 0, .int a1] τ r τ' :=
  mci_of (by decide +kernel) (Nat.le_of_ble_eq_true rfl) (fun K C hr => by
    show Sm K sysM 4 (Qi K sysM) (X11_allHold F a1 τ) 0 [(0, .ref 0), (1, .int a1)] [] τ
    unfold X11_allHold
    refine sm_seg C [(.iconst 0, 0), (.istore_n 2, 0)] (pc' := 2) (L' := [(2, .int 0), (0, .ref 0), (1, .int a1)]) (S' := []) (by decide +kernel) rfl ?_
    exact sm_sub [1, 2, 0] rfl (s_X11_allHold_L2 F C hr F a1 0 τ)) h
/-! BasketEnvoysModel.allOf -/
def X11_allOf_j48 (F : Nat) (self5 : Int32 → Int32 → Int32 → Int32 → Tau → Option (Int32 × Tau)) (a1 : Int32) (a2 : Int32) (a4 : Int32) (z0 : Int32) (z1 : Int32) (τ : Tau) : Option (Int32 × Tau) :=
  self5 a1 a2 (z1 + z0) (a4 + 1) τ
theorem s_X11_allOf_j48 (F : Nat) {K : Ctx} (C : Cx K sysM RX11 cX11_allOf 5 1) (hr : Rt K (some .int)) (self5 : Int32 → Int32 → Int32 → Int32 → Tau → Option (Int32 × Tau)) (ih5 : ∀ (a1 : Int32) (a2 : Int32) (a3 : Int32) (a4 : Int32) (τ : Tau), Sm K sysM 5 (Qi K sysM) (self5 a1 a2 a3 a4 τ) 5 [(0, .ref 0), (1, .int a1), (2, .int a2), (3, .int a3), (4, .int a4)] [] τ) (a1 : Int32) (a2 : Int32) (a4 : Int32) (z0 : Int32) (z1 : Int32) (τ : Tau) : Sm K sysM 5 (Qi K sysM) (X11_allOf_j48 F self5 a1 a2 a4 z0 z1 τ) 48 [(0, .ref 0), (1, .int a1), (2, .int a2), (4, .int a4)] [.int z0, .int z1] τ := by
  unfold X11_allOf_j48
  refine sm_seg C [(.iadd, 0), (.istore_n 3, 0), (.iinc 4 1, 1), (.goto (-48), 0)] (pc' := 5) (L' := [(4, .int (a4 + 1)), (3, .int (z1 + z0)), (0, .ref 0), (1, .int a1), (2, .int a2)]) (S' := []) (by decide +kernel) rfl ?_
  exact sm_sub [2, 3, 4, 1, 0] rfl (ih5 a1 a2 (z1 + z0) (a4 + 1) τ)
def X11_allOf_L5 (F : Nat) : Nat → Int32 → Int32 → Int32 → Int32 → Tau → Option (Int32 × Tau)
  | 0, _, _, _, _, _ => none
  | n + 1, a1, a2, a3, a4, τ =>
    ald τ 1 2244 608 fun v1 => if v1 ≤ a4 then (some (a3, τ)) else (if ((shr a1 a4) &&& 1) = 1 then (ald τ 1 2244 ((609 + (2 * a4)) + a2) fun v2 => X11_allOf_j48 F (X11_allOf_L5 F n) a1 a2 a4 v2 a3 τ) else (X11_allOf_j48 F (X11_allOf_L5 F n) a1 a2 a4 0 a3 τ))
theorem s_X11_allOf_L5 (F : Nat) {K : Ctx} (C : Cx K sysM RX11 cX11_allOf 5 1) (hr : Rt K (some .int)) : ∀ (n : Nat) (a1 : Int32) (a2 : Int32) (a3 : Int32) (a4 : Int32) (τ : Tau), Sm K sysM 5 (Qi K sysM) (X11_allOf_L5 F n a1 a2 a3 a4 τ) 5 [(0, .ref 0), (1, .int a1), (2, .int a2), (3, .int a3), (4, .int a4)] [] τ := by
  intro n
  induction n with
  | zero => intro a1 a2 a3 a4 τ; exact sm_none
  | succ n ih =>
    intro a1 a2 a3 a4 τ
    rw [X11_allOf_L5]
    refine sm_seg C [(.iload 4, 0), (.aload_n 0, 0)] (pc' := 8) (L' := [(0, .ref 0), (1, .int a1), (2, .int a2), (3, .int a3), (4, .int a4)]) (S' := [.ref 0, .int a4]) (by decide +kernel) rfl ?_
    refine sm_getR 11 0 1 cls11 C (ltM (by decide +kernel : kdM 0 = 11) (by decide)) (by decide +kernel : kdM 0 = 11) (obM11 (by decide +kernel : kdM 0 = 11)) (by decide) (frM11_0 (by decide +kernel : kdM 0 = 11)) fl11_7 (by decide +kernel) ?_
    refine sm_seg C [(.sipush 608, 608)] (pc' := 14) (L' := [(0, .ref 0), (1, .int a1), (2, .int a2), (3, .int a3), (4, .int a4)]) (S' := [.int 608, .ref 1, .int a4]) (by decide +kernel) rfl ?_
    refine sm_ald 2244 C (ltM (krM11_0 (by decide +kernel : kdM 0 = 11)) (by decide)) (krM11_0 (by decide +kernel : kdM 0 = 11)) (nrM11_0 (by decide +kernel : kdM 0 = 11)) (by decide +kernel) (fun v1 => ?_)
    refine sm_icmpge 56 (off := 41) C (by decide +kernel) (by decide) (fun _ => ?_) (fun _ => ?_)
    · refine sm_seg C [(.iload_n 3, 0)] (pc' := 57) (L' := [(0, .ref 0), (1, .int a1), (2, .int a2), (3, .int a3), (4, .int a4)]) (S' := [.int a3]) (by decide +kernel) rfl ?_
      exact sm_iret C hr rfl (by decide +kernel)
    · refine sm_seg C [(.iload_n 3, 0), (.iload_n 1, 0), (.iload 4, 0), (.ishr, 0), (.iconst 1, 1), (.iand, 0), (.iconst 1, 1)] (pc' := 26) (L' := [(0, .ref 0), (1, .int a1), (2, .int a2), (3, .int a3), (4, .int a4)]) (S' := [.int 1, .int ((shr a1 a4) &&& 1), .int a3]) (by decide +kernel) rfl ?_
      refine sm_icmpne 47 (off := 21) C (by decide +kernel) (by decide) (fun _ => ?_) (fun _ => ?_)
      · refine sm_seg C [(.aload_n 0, 0)] (pc' := 30) (L' := [(0, .ref 0), (1, .int a1), (2, .int a2), (3, .int a3), (4, .int a4)]) (S' := [.ref 0, .int a3]) (by decide +kernel) rfl ?_
        refine sm_getR 11 0 1 cls11 C (ltM (by decide +kernel : kdM 0 = 11) (by decide)) (by decide +kernel : kdM 0 = 11) (obM11 (by decide +kernel : kdM 0 = 11)) (by decide) (frM11_0 (by decide +kernel : kdM 0 = 11)) fl11_7 (by decide +kernel) ?_
        refine sm_seg C [(.sipush 609, 609), (.iconst 2, 2), (.iload 4, 0), (.imul, 0), (.iadd, 0), (.iload_n 2, 0), (.iadd, 0)] (pc' := 43) (L' := [(0, .ref 0), (1, .int a1), (2, .int a2), (3, .int a3), (4, .int a4)]) (S' := [.int ((609 + (2 * a4)) + a2), .ref 1, .int a3]) (by decide +kernel) rfl ?_
        refine sm_ald 2244 C (ltM (krM11_0 (by decide +kernel : kdM 0 = 11)) (by decide)) (krM11_0 (by decide +kernel : kdM 0 = 11)) (nrM11_0 (by decide +kernel : kdM 0 = 11)) (by decide +kernel) (fun v2 => ?_)
        refine sm_seg C [(.goto 4, 0)] (pc' := 48) (L' := [(0, .ref 0), (1, .int a1), (2, .int a2), (3, .int a3), (4, .int a4)]) (S' := [.int v2, .int a3]) (by decide +kernel) rfl ?_
        exact sm_sub [0, 1, 2, 4] rfl (s_X11_allOf_j48 F C hr (X11_allOf_L5 F n) ih a1 a2 a4 v2 a3 τ)
      · refine sm_seg C [(.iconst 0, 0)] (pc' := 48) (L' := [(0, .ref 0), (1, .int a1), (2, .int a2), (3, .int a3), (4, .int a4)]) (S' := [.int 0, .int a3]) (by decide +kernel) rfl ?_
        exact sm_sub [0, 1, 2, 4] rfl (s_X11_allOf_j48 F C hr (X11_allOf_L5 F n) ih a1 a2 a4 0 a3 τ)
def X11_allOf (F : Nat) (a1 : Int32) (a2 : Int32) (τ : Tau) : Option (Int32 × Tau) :=
  X11_allOf_L5 F F a1 a2 0 0 τ
set_option maxRecDepth 20000 in
set_option maxHeartbeats 4000000 in
theorem c_X11_allOf (F : Nat) (a1 : Int32) (a2 : Int32) (τ : Tau) (r : Int32) (τ' : Tau) (h : X11_allOf F a1 a2 τ = some (r, τ')) : MCi sysM yX11_allOf cX11_allOf 5 (some .int) 1 [.ref 0, .int a1, .int a2] τ r τ' :=
  mci_of (by decide +kernel) (Nat.le_of_ble_eq_true rfl) (fun K C hr => by
    show Sm K sysM 5 (Qi K sysM) (X11_allOf F a1 a2 τ) 0 [(0, .ref 0), (1, .int a1), (2, .int a2)] [] τ
    unfold X11_allOf
    refine sm_seg C [(.iconst 0, 0), (.istore_n 3, 0), (.iconst 0, 0), (.istore 4, 0)] (pc' := 5) (L' := [(4, .int 0), (3, .int 0), (0, .ref 0), (1, .int a1), (2, .int a2)]) (S' := []) (by decide +kernel) rfl ?_
    exact sm_sub [2, 3, 4, 1, 0] rfl (s_X11_allOf_L5 F C hr F a1 a2 0 0 τ)) h
/-! BasketEnvoysModel.areFive -/
def X11_areFive_L7 (F : Nat) : Nat → Int32 → Int32 → Int32 → Tau → Option (Int32 × Tau)
  | 0, _, _, _, _ => none
  | n + 1, a2, a3, a4, τ =>
    if a4 < 0 then (if a2 = 0 then (if a3 = 31 then (some (1, τ)) else (some (0, τ))) else (some (0, τ))) else (ast τ 19 5 a4 (rmd a2 10) fun τ1 => X11_areFive_L7 F n (a2 / 10) (a3 ||| (shl 1 (rmd a2 10))) (a4 + (-1)) τ1)
theorem s_X11_areFive_L7 (F : Nat) {K : Ctx} (C : Cx K sysM RX11 cX11_areFive 5 1) (hr : Rt K (some .boolean)) : ∀ (n : Nat) (a2 : Int32) (a3 : Int32) (a4 : Int32) (τ : Tau), Sm K sysM 5 (Qi K sysM) (X11_areFive_L7 F n a2 a3 a4 τ) 7 [(0, .ref 0), (2, .int a2), (3, .int a3), (4, .int a4)] [] τ := by
  intro n
  induction n with
  | zero => intro a2 a3 a4 τ; exact sm_none
  | succ n ih =>
    intro a2 a3 a4 τ
    rw [X11_areFive_L7]
    refine sm_seg C [(.iload 4, 0)] (pc' := 9) (L' := [(0, .ref 0), (2, .int a2), (3, .int a3), (4, .int a4)]) (S' := [.int a4]) (by decide +kernel) rfl ?_
    refine sm_iflt 43 (off := 34) C (by decide +kernel) (by decide) (fun _ => ?_) (fun _ => ?_)
    · refine sm_seg C [(.iload_n 2, 0)] (pc' := 44) (L' := [(0, .ref 0), (2, .int a2), (3, .int a3), (4, .int a4)]) (S' := [.int a2]) (by decide +kernel) rfl ?_
      refine sm_ifne 57 (off := 13) C (by decide +kernel) (by decide) (fun _ => ?_) (fun _ => ?_)
      · refine sm_seg C [(.iload_n 3, 0), (.bipush 31, 31)] (pc' := 50) (L' := [(0, .ref 0), (2, .int a2), (3, .int a3), (4, .int a4)]) (S' := [.int 31, .int a3]) (by decide +kernel) rfl ?_
        refine sm_icmpne 57 (off := 7) C (by decide +kernel) (by decide) (fun _ => ?_) (fun _ => ?_)
        · refine sm_seg C [(.iconst 1, 1), (.goto 4, 0)] (pc' := 58) (L' := [(0, .ref 0), (2, .int a2), (3, .int a3), (4, .int a4)]) (S' := [.int 1]) (by decide +kernel) rfl ?_
          exact sm_iret C hr rfl (by decide +kernel)
        · refine sm_seg C [(.iconst 0, 0)] (pc' := 58) (L' := [(0, .ref 0), (2, .int a2), (3, .int a3), (4, .int a4)]) (S' := [.int 0]) (by decide +kernel) rfl ?_
          exact sm_iret C hr rfl (by decide +kernel)
      · refine sm_seg C [(.iconst 0, 0)] (pc' := 58) (L' := [(0, .ref 0), (2, .int a2), (3, .int a3), (4, .int a4)]) (S' := [.int 0]) (by decide +kernel) rfl ?_
        exact sm_iret C hr rfl (by decide +kernel)
    · refine sm_seg C [(.aload_n 0, 0)] (pc' := 13) (L' := [(0, .ref 0), (2, .int a2), (3, .int a3), (4, .int a4)]) (S' := [.ref 0]) (by decide +kernel) rfl ?_
      refine sm_getR 11 35 19 cls11 C (ltM (by decide +kernel : kdM 0 = 11) (by decide)) (by decide +kernel : kdM 0 = 11) (obM11 (by decide +kernel : kdM 0 = 11)) (by decide) (frM11_35 (by decide +kernel : kdM 0 = 11)) fl11_69 (by decide +kernel) ?_
      refine sm_seg C [(.iload 4, 0), (.iload_n 2, 0), (.bipush 10, 10)] (pc' := 21) (L' := [(0, .ref 0), (2, .int a2), (3, .int a3), (4, .int a4)]) (S' := [.int 10, .int a2, .int a4, .ref 19]) (by decide +kernel) rfl ?_
      refine sm_irem C (by decide +kernel) (by decide) ?_
      refine sm_ast 5 C (ltM (krM11_35 (by decide +kernel : kdM 0 = 11)) (by decide)) (krM11_35 (by decide +kernel : kdM 0 = 11)) (nrM11_35 (by decide +kernel : kdM 0 = 11)) (by decide +kernel) (fun τ1 => ?_)
      refine sm_seg C [(.iload_n 3, 0), (.iconst 1, 1), (.iload_n 2, 0), (.bipush 10, 10)] (pc' := 28) (L' := [(0, .ref 0), (2, .int a2), (3, .int a3), (4, .int a4)]) (S' := [.int 10, .int a2, .int 1, .int a3]) (by decide +kernel) rfl ?_
      refine sm_irem C (by decide +kernel) (by decide) ?_
      refine sm_seg C [(.ishl, 0), (.ior, 0), (.istore_n 3, 0), (.iload_n 2, 0), (.bipush 10, 10)] (pc' := 35) (L' := [(3, .int (a3 ||| (shl 1 (rmd a2 10)))), (0, .ref 0), (2, .int a2), (4, .int a4)]) (S' := [.int 10, .int a2]) (by decide +kernel) rfl ?_
      refine sm_idiv C (by decide +kernel) (by decide) ?_
      refine sm_seg C [(.istore_n 2, 0), (.iinc 4 (-1), (-1)), (.goto (-33), 0)] (pc' := 7) (L' := [(4, .int (a4 + (-1))), (2, .int (a2 / 10)), (3, .int (a3 ||| (shl 1 (rmd a2 10)))), (0, .ref 0)]) (S' := []) (by decide +kernel) rfl ?_
      exact sm_sub [3, 1, 2, 0] rfl (ih (a2 / 10) (a3 ||| (shl 1 (rmd a2 10))) (a4 + (-1)) τ1)
def X11_areFive (F : Nat) (a1 : Int32) (τ : Tau) : Option (Int32 × Tau) :=
  X11_areFive_L7 F F a1 0 4 τ
set_option maxRecDepth 20000 in
set_option maxHeartbeats 4000000 in
theorem c_X11_areFive (F : Nat) (a1 : Int32) (τ : Tau) (r : Int32) (τ' : Tau) (h : X11_areFive F a1 τ = some (r, τ')) : MCi sysM yX11_areFive cX11_areFive 5 (some .boolean) 1 [.ref 0, .int a1] τ r τ' :=
  mci_of (by decide +kernel) (Nat.le_of_ble_eq_true rfl) (fun K C hr => by
    show Sm K sysM 5 (Qi K sysM) (X11_areFive F a1 τ) 0 [(0, .ref 0), (1, .int a1)] [] τ
    unfold X11_areFive
    refine sm_seg C [(.iload_n 1, 0), (.istore_n 2, 0), (.iconst 0, 0), (.istore_n 3, 0), (.iconst 4, 4), (.istore 4, 0)] (pc' := 7) (L' := [(4, .int 4), (3, .int 0), (2, .int a1), (0, .ref 0), (1, .int a1)]) (S' := []) (by decide +kernel) rfl ?_
    exact sm_sub [3, 2, 1, 0] rfl (s_X11_areFive_L7 F C hr F a1 0 4 τ)) h
/-! BasketEnvoysModel.atOf -/
def X11_atOf_j37 (F : Nat) (self4 : Int32 → Int32 → Int32 → Tau → Option (Int32 × Tau)) (a1 : Int32) (a3 : Int32) (z0 : Int32) (z1 : Int32) (τ : Tau) : Option (Int32 × Tau) :=
  self4 a1 (z1 ||| z0) (a3 + 1) τ
theorem s_X11_atOf_j37 (F : Nat) {K : Ctx} (C : Cx K sysM RX11 cX11_atOf 4 1) (hr : Rt K (some .int)) (self4 : Int32 → Int32 → Int32 → Tau → Option (Int32 × Tau)) (ih4 : ∀ (a1 : Int32) (a2 : Int32) (a3 : Int32) (τ : Tau), Sm K sysM 4 (Qi K sysM) (self4 a1 a2 a3 τ) 4 [(0, .ref 0), (1, .int a1), (2, .int a2), (3, .int a3)] [] τ) (a1 : Int32) (a3 : Int32) (z0 : Int32) (z1 : Int32) (τ : Tau) : Sm K sysM 4 (Qi K sysM) (X11_atOf_j37 F self4 a1 a3 z0 z1 τ) 37 [(0, .ref 0), (1, .int a1), (3, .int a3)] [.int z0, .int z1] τ := by
  unfold X11_atOf_j37
  refine sm_seg C [(.ior, 0), (.istore_n 2, 0), (.iinc 3 1, 1), (.goto (-38), 0)] (pc' := 4) (L' := [(3, .int (a3 + 1)), (2, .int (z1 ||| z0)), (0, .ref 0), (1, .int a1)]) (S' := []) (by decide +kernel) rfl ?_
  exact sm_sub [2, 3, 1, 0] rfl (ih4 a1 (z1 ||| z0) (a3 + 1) τ)
def X11_atOf_L4 (F : Nat) : Nat → Int32 → Int32 → Int32 → Tau → Option (Int32 × Tau)
  | 0, _, _, _, _ => none
  | n + 1, a1, a2, a3, τ =>
    ald τ 1 2244 256 fun v1 => if v1 ≤ a3 then (some (a2, τ)) else (ald τ 1 2244 (87 + a3) fun v2 => if v2 = a1 then (X11_atOf_j37 F (X11_atOf_L4 F n) a1 a3 (shl 1 a3) a2 τ) else (X11_atOf_j37 F (X11_atOf_L4 F n) a1 a3 0 a2 τ))
theorem s_X11_atOf_L4 (F : Nat) {K : Ctx} (C : Cx K sysM RX11 cX11_atOf 4 1) (hr : Rt K (some .int)) : ∀ (n : Nat) (a1 : Int32) (a2 : Int32) (a3 : Int32) (τ : Tau), Sm K sysM 4 (Qi K sysM) (X11_atOf_L4 F n a1 a2 a3 τ) 4 [(0, .ref 0), (1, .int a1), (2, .int a2), (3, .int a3)] [] τ := by
  intro n
  induction n with
  | zero => intro a1 a2 a3 τ; exact sm_none
  | succ n ih =>
    intro a1 a2 a3 τ
    rw [X11_atOf_L4]
    refine sm_seg C [(.iload_n 3, 0), (.aload_n 0, 0)] (pc' := 6) (L' := [(0, .ref 0), (1, .int a1), (2, .int a2), (3, .int a3)]) (S' := [.ref 0, .int a3]) (by decide +kernel) rfl ?_
    refine sm_getR 11 0 1 cls11 C (ltM (by decide +kernel : kdM 0 = 11) (by decide)) (by decide +kernel : kdM 0 = 11) (obM11 (by decide +kernel : kdM 0 = 11)) (by decide) (frM11_0 (by decide +kernel : kdM 0 = 11)) fl11_7 (by decide +kernel) ?_
    refine sm_seg C [(.sipush 256, 256)] (pc' := 12) (L' := [(0, .ref 0), (1, .int a1), (2, .int a2), (3, .int a3)]) (S' := [.int 256, .ref 1, .int a3]) (by decide +kernel) rfl ?_
    refine sm_ald 2244 C (ltM (krM11_0 (by decide +kernel : kdM 0 = 11)) (by decide)) (krM11_0 (by decide +kernel : kdM 0 = 11)) (nrM11_0 (by decide +kernel : kdM 0 = 11)) (by decide +kernel) (fun v1 => ?_)
    refine sm_icmpge 45 (off := 32) C (by decide +kernel) (by decide) (fun _ => ?_) (fun _ => ?_)
    · refine sm_seg C [(.iload_n 2, 0)] (pc' := 46) (L' := [(0, .ref 0), (1, .int a1), (2, .int a2), (3, .int a3)]) (S' := [.int a2]) (by decide +kernel) rfl ?_
      exact sm_iret C hr rfl (by decide +kernel)
    · refine sm_seg C [(.iload_n 2, 0), (.aload_n 0, 0)] (pc' := 18) (L' := [(0, .ref 0), (1, .int a1), (2, .int a2), (3, .int a3)]) (S' := [.ref 0, .int a2]) (by decide +kernel) rfl ?_
      refine sm_getR 11 0 1 cls11 C (ltM (by decide +kernel : kdM 0 = 11) (by decide)) (by decide +kernel : kdM 0 = 11) (obM11 (by decide +kernel : kdM 0 = 11)) (by decide) (frM11_0 (by decide +kernel : kdM 0 = 11)) fl11_7 (by decide +kernel) ?_
      refine sm_seg C [(.bipush 87, 87), (.iload_n 3, 0), (.iadd, 0)] (pc' := 25) (L' := [(0, .ref 0), (1, .int a1), (2, .int a2), (3, .int a3)]) (S' := [.int (87 + a3), .ref 1, .int a2]) (by decide +kernel) rfl ?_
      refine sm_ald 2244 C (ltM (krM11_0 (by decide +kernel : kdM 0 = 11)) (by decide)) (krM11_0 (by decide +kernel : kdM 0 = 11)) (nrM11_0 (by decide +kernel : kdM 0 = 11)) (by decide +kernel) (fun v2 => ?_)
      refine sm_seg C [(.iload_n 1, 0)] (pc' := 27) (L' := [(0, .ref 0), (1, .int a1), (2, .int a2), (3, .int a3)]) (S' := [.int a1, .int v2, .int a2]) (by decide +kernel) rfl ?_
      refine sm_icmpne 36 (off := 9) C (by decide +kernel) (by decide) (fun _ => ?_) (fun _ => ?_)
      · refine sm_seg C [(.iconst 1, 1), (.iload_n 3, 0), (.ishl, 0), (.goto 4, 0)] (pc' := 37) (L' := [(0, .ref 0), (1, .int a1), (2, .int a2), (3, .int a3)]) (S' := [.int (shl 1 a3), .int a2]) (by decide +kernel) rfl ?_
        exact sm_sub [0, 1, 3] rfl (s_X11_atOf_j37 F C hr (X11_atOf_L4 F n) ih a1 a3 (shl 1 a3) a2 τ)
      · refine sm_seg C [(.iconst 0, 0)] (pc' := 37) (L' := [(0, .ref 0), (1, .int a1), (2, .int a2), (3, .int a3)]) (S' := [.int 0, .int a2]) (by decide +kernel) rfl ?_
        exact sm_sub [0, 1, 3] rfl (s_X11_atOf_j37 F C hr (X11_atOf_L4 F n) ih a1 a3 0 a2 τ)
def X11_atOf (F : Nat) (a1 : Int32) (τ : Tau) : Option (Int32 × Tau) :=
  X11_atOf_L4 F F a1 0 0 τ
set_option maxRecDepth 20000 in
set_option maxHeartbeats 4000000 in
theorem c_X11_atOf (F : Nat) (a1 : Int32) (τ : Tau) (r : Int32) (τ' : Tau) (h : X11_atOf F a1 τ = some (r, τ')) : MCi sysM yX11_atOf cX11_atOf 4 (some .int) 1 [.ref 0, .int a1] τ r τ' :=
  mci_of (by decide +kernel) (Nat.le_of_ble_eq_true rfl) (fun K C hr => by
    show Sm K sysM 4 (Qi K sysM) (X11_atOf F a1 τ) 0 [(0, .ref 0), (1, .int a1)] [] τ
    unfold X11_atOf
    refine sm_seg C [(.iconst 0, 0), (.istore_n 2, 0), (.iconst 0, 0), (.istore_n 3, 0)] (pc' := 4) (L' := [(3, .int 0), (2, .int 0), (0, .ref 0), (1, .int a1)]) (S' := []) (by decide +kernel) rfl ?_
    exact sm_sub [2, 3, 1, 0] rfl (s_X11_atOf_L4 F C hr F a1 0 0 τ)) h
/-! BasketEnvoysModel.becomes -/
def X11_becomes_L4 (F : Nat) : Nat → Int32 → Int32 → Tau → Option (Int32 × Tau)
  | 0, _, _, _ => none
  | n + 1, a2, a3, τ =>
    ald τ 1 2244 729 fun v1 => if v1 ≤ a3 then (some (a2, τ)) else (ald τ 1 2244 ((730 + (5 * a3)) + a2) fun v2 => X11_becomes_L4 F n v2 (a3 + 1) τ)
theorem s_X11_becomes_L4 (F : Nat) {K : Ctx} (C : Cx K sysM RX11 cX11_becomes 4 1) (hr : Rt K (some .int)) : ∀ (n : Nat) (a2 : Int32) (a3 : Int32) (τ : Tau), Sm K sysM 4 (Qi K sysM) (X11_becomes_L4 F n a2 a3 τ) 4 [(0, .ref 0), (2, .int a2), (3, .int a3)] [] τ := by
  intro n
  induction n with
  | zero => intro a2 a3 τ; exact sm_none
  | succ n ih =>
    intro a2 a3 τ
    rw [X11_becomes_L4]
    refine sm_seg C [(.iload_n 3, 0), (.aload_n 0, 0)] (pc' := 6) (L' := [(0, .ref 0), (2, .int a2), (3, .int a3)]) (S' := [.ref 0, .int a3]) (by decide +kernel) rfl ?_
    refine sm_getR 11 0 1 cls11 C (ltM (by decide +kernel : kdM 0 = 11) (by decide)) (by decide +kernel : kdM 0 = 11) (obM11 (by decide +kernel : kdM 0 = 11)) (by decide) (frM11_0 (by decide +kernel : kdM 0 = 11)) fl11_7 (by decide +kernel) ?_
    refine sm_seg C [(.sipush 729, 729)] (pc' := 12) (L' := [(0, .ref 0), (2, .int a2), (3, .int a3)]) (S' := [.int 729, .ref 1, .int a3]) (by decide +kernel) rfl ?_
    refine sm_ald 2244 C (ltM (krM11_0 (by decide +kernel : kdM 0 = 11)) (by decide)) (krM11_0 (by decide +kernel : kdM 0 = 11)) (nrM11_0 (by decide +kernel : kdM 0 = 11)) (by decide +kernel) (fun v1 => ?_)
    refine sm_icmpge 37 (off := 24) C (by decide +kernel) (by decide) (fun _ => ?_) (fun _ => ?_)
    · refine sm_seg C [(.iload_n 2, 0)] (pc' := 38) (L' := [(0, .ref 0), (2, .int a2), (3, .int a3)]) (S' := [.int a2]) (by decide +kernel) rfl ?_
      exact sm_iret C hr rfl (by decide +kernel)
    · refine sm_seg C [(.aload_n 0, 0)] (pc' := 17) (L' := [(0, .ref 0), (2, .int a2), (3, .int a3)]) (S' := [.ref 0]) (by decide +kernel) rfl ?_
      refine sm_getR 11 0 1 cls11 C (ltM (by decide +kernel : kdM 0 = 11) (by decide)) (by decide +kernel : kdM 0 = 11) (obM11 (by decide +kernel : kdM 0 = 11)) (by decide) (frM11_0 (by decide +kernel : kdM 0 = 11)) fl11_7 (by decide +kernel) ?_
      refine sm_seg C [(.sipush 730, 730), (.iconst 5, 5), (.iload_n 3, 0), (.imul, 0), (.iadd, 0), (.iload_n 2, 0), (.iadd, 0)] (pc' := 29) (L' := [(0, .ref 0), (2, .int a2), (3, .int a3)]) (S' := [.int ((730 + (5 * a3)) + a2), .ref 1]) (by decide +kernel) rfl ?_
      refine sm_ald 2244 C (ltM (krM11_0 (by decide +kernel : kdM 0 = 11)) (by decide)) (krM11_0 (by decide +kernel : kdM 0 = 11)) (nrM11_0 (by decide +kernel : kdM 0 = 11)) (by decide +kernel) (fun v2 => ?_)
      refine sm_seg C [(.istore_n 2, 0), (.iinc 3 1, 1), (.goto (-30), 0)] (pc' := 4) (L' := [(3, .int (a3 + 1)), (2, .int v2), (0, .ref 0)]) (S' := []) (by decide +kernel) rfl ?_
      exact sm_sub [2, 1, 0] rfl (ih v2 (a3 + 1) τ)
def X11_becomes (F : Nat) (a1 : Int32) (τ : Tau) : Option (Int32 × Tau) :=
  X11_becomes_L4 F F a1 0 τ
set_option maxRecDepth 20000 in
set_option maxHeartbeats 4000000 in
theorem c_X11_becomes (F : Nat) (a1 : Int32) (τ : Tau) (r : Int32) (τ' : Tau) (h : X11_becomes F a1 τ = some (r, τ')) : MCi sysM yX11_becomes cX11_becomes 4 (some .int) 1 [.ref 0, .int a1] τ r τ' :=
  mci_of (by decide +kernel) (Nat.le_of_ble_eq_true rfl) (fun K C hr => by
    show Sm K sysM 4 (Qi K sysM) (X11_becomes F a1 τ) 0 [(0, .ref 0), (1, .int a1)] [] τ
    unfold X11_becomes
    refine sm_seg C [(.iload_n 1, 0), (.istore_n 2, 0), (.iconst 0, 0), (.istore_n 3, 0)] (pc' := 4) (L' := [(3, .int 0), (2, .int a1), (0, .ref 0), (1, .int a1)]) (S' := []) (by decide +kernel) rfl ?_
    exact sm_sub [2, 1, 0] rfl (s_X11_becomes_L4 F C hr F a1 0 τ)) h
/-! BasketEnvoysModel.onHeap -/
def X11_onHeap (F : Nat) (a0 : Int32) (a1 : Int32) (τ : Tau) : Option (Int32 × Tau) :=
  some (((shr a0 (6 - (3 * a1))) &&& 7), τ)
set_option maxRecDepth 20000 in
set_option maxHeartbeats 4000000 in
theorem c_X11_onHeap (F : Nat) (a0 : Int32) (a1 : Int32) (τ : Tau) (r : Int32) (τ' : Tau) (h : X11_onHeap F a0 a1 τ = some (r, τ')) : MCi sysM yX11_onHeap cX11_onHeap 2 (some .int) 1 [.int a0, .int a1] τ r τ' :=
  mci_of (by decide +kernel) (Nat.le_of_ble_eq_true rfl) (fun K C hr => by
    show Sm K sysM 2 (Qi K sysM) (X11_onHeap F a0 a1 τ) 0 [(0, .int a0), (1, .int a1)] [] τ
    unfold X11_onHeap
    refine sm_seg C [(.iload_n 0, 0), (.bipush 6, 6), (.iconst 3, 3), (.iload_n 1, 0), (.imul, 0), (.isub, 0), (.ishr, 0), (.bipush 7, 7), (.iand, 0)] (pc' := 11) (L' := [(0, .int a0), (1, .int a1)]) (S' := [.int ((shr a0 (6 - (3 * a1))) &&& 7)]) (by decide +kernel) rfl ?_
    exact sm_iret C hr rfl (by decide +kernel)) h
/-! BasketEnvoysModel.begins -/
def X11_begins_L9 (F : Nat) (self2 : Int32 → Int32 → Tau → Option (Int32 × Tau)) : Nat → Int32 → Int32 → Int32 → Tau → Option (Int32 × Tau)
  | 0, _, _, _, _ => none
  | n + 1, a1, a2, a3, τ =>
    cal (X11_onHeap F a1 a2 τ) fun r2 τ3 => if r2 < a3 then (self2 a1 (a2 + 1) τ3) else (ald τ3 20 1024 (a1 - (shl a3 (6 - (3 * a2)))) fun v4 => if v4 = 0 then (X11_begins_L9 F self2 n a1 a2 (a3 + 1) τ3) else (some (((100 * a2) + a3), τ3)))
theorem s_X11_begins_L9 (F : Nat) {K : Ctx} (C : Cx K sysM RX11 cX11_begins 4 2) (hr : Rt K (some .int)) (self2 : Int32 → Int32 → Tau → Option (Int32 × Tau)) (ih2 : ∀ (a1 : Int32) (a2 : Int32) (τ : Tau), Sm K sysM 4 (Qi K sysM) (self2 a1 a2 τ) 2 [(0, .ref 0), (1, .int a1), (2, .int a2)] [] τ) : ∀ (n : Nat) (a1 : Int32) (a2 : Int32) (a3 : Int32) (τ : Tau), Sm K sysM 4 (Qi K sysM) (X11_begins_L9 F self2 n a1 a2 a3 τ) 9 [(0, .ref 0), (1, .int a1), (2, .int a2), (3, .int a3)] [] τ := by
  intro n
  induction n with
  | zero => intro a1 a2 a3 τ; exact sm_none
  | succ n ih =>
    intro a1 a2 a3 τ
    rw [X11_begins_L9]
    refine sm_seg C [(.iload_n 3, 0), (.iload_n 1, 0), (.iload_n 2, 0)] (pc' := 12) (L' := [(0, .ref 0), (1, .int a1), (2, .int a2), (3, .int a3)]) (S' := [.int a2, .int a1, .int a3]) (by decide +kernel) rfl ?_
    refine sm_scal [.int a1, .int a2] [.int a3] rfl C mw_X11_onHeap ml_11_460 rfl ⟨by decide, by decide⟩ (Nat.le_of_ble_eq_true rfl) (by decide +kernel) (c_X11_onHeap F a1 a2 τ) (fun r2 τ3 => ?_)
    refine sm_icmpgt 49 (off := 34) C (by decide +kernel) (by decide) (fun _ => ?_) (fun _ => ?_)
    · refine sm_seg C [(.iinc 2 1, 1), (.goto (-50), 0)] (pc' := 2) (L' := [(2, .int (a2 + 1)), (0, .ref 0), (1, .int a1), (3, .int a3)]) (S' := []) (by decide +kernel) rfl ?_
      exact sm_sub [1, 2, 0] rfl (ih2 a1 (a2 + 1) τ3)
    · refine sm_seg C [(.aload_n 0, 0)] (pc' := 19) (L' := [(0, .ref 0), (1, .int a1), (2, .int a2), (3, .int a3)]) (S' := [.ref 0]) (by decide +kernel) rfl ?_
      refine sm_getR 11 36 20 cls11 C (ltM (by decide +kernel : kdM 0 = 11) (by decide)) (by decide +kernel : kdM 0 = 11) (obM11 (by decide +kernel : kdM 0 = 11)) (by decide) (frM11_36 (by decide +kernel : kdM 0 = 11)) fl11_72 (by decide +kernel) ?_
      refine sm_seg C [(.iload_n 1, 0), (.iload_n 3, 0), (.bipush 6, 6), (.iconst 3, 3), (.iload_n 2, 0), (.imul, 0), (.isub, 0), (.ishl, 0), (.isub, 0)] (pc' := 32) (L' := [(0, .ref 0), (1, .int a1), (2, .int a2), (3, .int a3)]) (S' := [.int (a1 - (shl a3 (6 - (3 * a2)))), .ref 20]) (by decide +kernel) rfl ?_
      refine sm_ldz 1024 C (ltM (krM11_36 (by decide +kernel : kdM 0 = 11)) (by decide)) (krM11_36 (by decide +kernel : kdM 0 = 11)) (nrM11_36 (by decide +kernel : kdM 0 = 11)) (by decide +kernel) (fun v4 => ?_)
      refine sm_ifeq 43 (off := 10) C (by decide +kernel) (by decide) (fun _ => ?_) (fun _ => ?_)
      · refine sm_seg C [(.iinc 3 1, 1), (.goto (-37), 0)] (pc' := 9) (L' := [(3, .int (a3 + 1)), (0, .ref 0), (1, .int a1), (2, .int a2)]) (S' := []) (by decide +kernel) rfl ?_
        exact sm_sub [1, 2, 3, 0] rfl (ih a1 a2 (a3 + 1) τ3)
      · refine sm_seg C [(.bipush 100, 100), (.iload_n 2, 0), (.imul, 0), (.iload_n 3, 0), (.iadd, 0)] (pc' := 42) (L' := [(0, .ref 0), (1, .int a1), (2, .int a2), (3, .int a3)]) (S' := [.int ((100 * a2) + a3)]) (by decide +kernel) rfl ?_
        exact sm_iret C hr rfl (by decide +kernel)
def X11_begins_L2 (F : Nat) : Nat → Int32 → Int32 → Tau → Option (Int32 × Tau)
  | 0, _, _, _ => none
  | n + 1, a1, a2, τ =>
    if 3 ≤ a2 then (if a1 ≤ 512 then (some ((-1), τ)) else (ald τ 20 1024 (a1 - 512) fun v1 => if v1 = 0 then (some ((-1), τ)) else (some (300, τ)))) else (X11_begins_L9 F (X11_begins_L2 F n) F a1 a2 1 τ)
theorem s_X11_begins_L2 (F : Nat) {K : Ctx} (C : Cx K sysM RX11 cX11_begins 4 2) (hr : Rt K (some .int)) : ∀ (n : Nat) (a1 : Int32) (a2 : Int32) (τ : Tau), Sm K sysM 4 (Qi K sysM) (X11_begins_L2 F n a1 a2 τ) 2 [(0, .ref 0), (1, .int a1), (2, .int a2)] [] τ := by
  intro n
  induction n with
  | zero => intro a1 a2 τ; exact sm_none
  | succ n ih =>
    intro a1 a2 τ
    rw [X11_begins_L2]
    refine sm_seg C [(.iload_n 2, 0), (.iconst 3, 3)] (pc' := 4) (L' := [(0, .ref 0), (1, .int a1), (2, .int a2)]) (S' := [.int 3, .int a2]) (by decide +kernel) rfl ?_
    refine sm_icmpge 55 (off := 51) C (by decide +kernel) (by decide) (fun _ => ?_) (fun _ => ?_)
    · refine sm_seg C [(.iload_n 1, 0), (.sipush 512, 512)] (pc' := 59) (L' := [(0, .ref 0), (1, .int a1), (2, .int a2)]) (S' := [.int 512, .int a1]) (by decide +kernel) rfl ?_
      refine sm_icmple 81 (off := 22) C (by decide +kernel) (by decide) (fun _ => ?_) (fun _ => ?_)
      · refine sm_seg C [(.iconst (-1), (-1))] (pc' := 82) (L' := [(0, .ref 0), (1, .int a1), (2, .int a2)]) (S' := [.int (-1)]) (by decide +kernel) rfl ?_
        exact sm_iret C hr rfl (by decide +kernel)
      · refine sm_seg C [(.aload_n 0, 0)] (pc' := 63) (L' := [(0, .ref 0), (1, .int a1), (2, .int a2)]) (S' := [.ref 0]) (by decide +kernel) rfl ?_
        refine sm_getR 11 36 20 cls11 C (ltM (by decide +kernel : kdM 0 = 11) (by decide)) (by decide +kernel : kdM 0 = 11) (obM11 (by decide +kernel : kdM 0 = 11)) (by decide) (frM11_36 (by decide +kernel : kdM 0 = 11)) fl11_72 (by decide +kernel) ?_
        refine sm_seg C [(.iload_n 1, 0), (.sipush 512, 512), (.isub, 0)] (pc' := 71) (L' := [(0, .ref 0), (1, .int a1), (2, .int a2)]) (S' := [.int (a1 - 512), .ref 20]) (by decide +kernel) rfl ?_
        refine sm_ldz 1024 C (ltM (krM11_36 (by decide +kernel : kdM 0 = 11)) (by decide)) (krM11_36 (by decide +kernel : kdM 0 = 11)) (nrM11_36 (by decide +kernel : kdM 0 = 11)) (by decide +kernel) (fun v1 => ?_)
        refine sm_ifeq 81 (off := 9) C (by decide +kernel) (by decide) (fun _ => ?_) (fun _ => ?_)
        · refine sm_seg C [(.iconst (-1), (-1))] (pc' := 82) (L' := [(0, .ref 0), (1, .int a1), (2, .int a2)]) (S' := [.int (-1)]) (by decide +kernel) rfl ?_
          exact sm_iret C hr rfl (by decide +kernel)
        · refine sm_seg C [(.sipush 300, 300), (.goto 4, 0)] (pc' := 82) (L' := [(0, .ref 0), (1, .int a1), (2, .int a2)]) (S' := [.int 300]) (by decide +kernel) rfl ?_
          exact sm_iret C hr rfl (by decide +kernel)
    · refine sm_seg C [(.iconst 1, 1), (.istore_n 3, 0)] (pc' := 9) (L' := [(3, .int 1), (0, .ref 0), (1, .int a1), (2, .int a2)]) (S' := []) (by decide +kernel) rfl ?_
      exact sm_sub [1, 2, 3, 0] rfl (s_X11_begins_L9 F C hr (X11_begins_L2 F n) ih F a1 a2 1 τ)
def X11_begins (F : Nat) (a1 : Int32) (τ : Tau) : Option (Int32 × Tau) :=
  X11_begins_L2 F F a1 0 τ
set_option maxRecDepth 20000 in
set_option maxHeartbeats 4000000 in
theorem c_X11_begins (F : Nat) (a1 : Int32) (τ : Tau) (r : Int32) (τ' : Tau) (h : X11_begins F a1 τ = some (r, τ')) : MCi sysM yX11_begins cX11_begins 4 (some .int) 2 [.ref 0, .int a1] τ r τ' :=
  mci_of (by decide +kernel) (Nat.le_of_ble_eq_true rfl) (fun K C hr => by
    show Sm K sysM 4 (Qi K sysM) (X11_begins F a1 τ) 0 [(0, .ref 0), (1, .int a1)] [] τ
    unfold X11_begins
    refine sm_seg C [(.iconst 0, 0), (.istore_n 2, 0)] (pc' := 2) (L' := [(2, .int 0), (0, .ref 0), (1, .int a1)]) (S' := []) (by decide +kernel) rfl ?_
    exact sm_sub [1, 2, 0] rfl (s_X11_begins_L2 F C hr F a1 0 τ)) h
/-! BasketEnvoysModel.bitsOf -/
def X11_bitsOf_L4 (F : Nat) : Nat → Int32 → Int32 → Tau → Option (Int32 × Tau)
  | 0, _, _, _ => none
  | n + 1, a1, a2, τ =>
    if a2 ≤ 0 then (some (a1, τ)) else (X11_bitsOf_L4 F n (a1 + (a2 &&& 1)) (shr a2 1) τ)
theorem s_X11_bitsOf_L4 (F : Nat) {K : Ctx} (C : Cx K sysM RX11 cX11_bitsOf 3 1) (hr : Rt K (some .int)) : ∀ (n : Nat) (a1 : Int32) (a2 : Int32) (τ : Tau), Sm K sysM 3 (Qi K sysM) (X11_bitsOf_L4 F n a1 a2 τ) 4 [(1, .int a1), (2, .int a2)] [] τ := by
  intro n
  induction n with
  | zero => intro a1 a2 τ; exact sm_none
  | succ n ih =>
    intro a1 a2 τ
    rw [X11_bitsOf_L4]
    refine sm_seg C [(.iload_n 2, 0)] (pc' := 5) (L' := [(1, .int a1), (2, .int a2)]) (S' := [.int a2]) (by decide +kernel) rfl ?_
    refine sm_ifle 21 (off := 16) C (by decide +kernel) (by decide) (fun _ => ?_) (fun _ => ?_)
    · refine sm_seg C [(.iload_n 1, 0)] (pc' := 22) (L' := [(1, .int a1), (2, .int a2)]) (S' := [.int a1]) (by decide +kernel) rfl ?_
      exact sm_iret C hr rfl (by decide +kernel)
    · refine sm_seg C [(.iload_n 1, 0), (.iload_n 2, 0), (.iconst 1, 1), (.iand, 0), (.iadd, 0), (.istore_n 1, 0), (.iload_n 2, 0), (.iconst 1, 1), (.ishr, 0), (.istore_n 2, 0), (.goto (-14), 0)] (pc' := 4) (L' := [(2, .int (shr a2 1)), (1, .int (a1 + (a2 &&& 1)))]) (S' := []) (by decide +kernel) rfl ?_
      exact sm_sub [1, 0] rfl (ih (a1 + (a2 &&& 1)) (shr a2 1) τ)
def X11_bitsOf (F : Nat) (a0 : Int32) (τ : Tau) : Option (Int32 × Tau) :=
  X11_bitsOf_L4 F F 0 a0 τ
set_option maxRecDepth 20000 in
set_option maxHeartbeats 4000000 in
theorem c_X11_bitsOf (F : Nat) (a0 : Int32) (τ : Tau) (r : Int32) (τ' : Tau) (h : X11_bitsOf F a0 τ = some (r, τ')) : MCi sysM yX11_bitsOf cX11_bitsOf 3 (some .int) 1 [.int a0] τ r τ' :=
  mci_of (by decide +kernel) (Nat.le_of_ble_eq_true rfl) (fun K C hr => by
    show Sm K sysM 3 (Qi K sysM) (X11_bitsOf F a0 τ) 0 [(0, .int a0)] [] τ
    unfold X11_bitsOf
    refine sm_seg C [(.iconst 0, 0), (.istore_n 1, 0), (.iload_n 0, 0), (.istore_n 2, 0)] (pc' := 4) (L' := [(2, .int a0), (1, .int 0), (0, .int a0)]) (S' := []) (by decide +kernel) rfl ?_
    exact sm_sub [1, 0] rfl (s_X11_bitsOf_L4 F C hr F 0 a0 τ)) h
/-! BasketEnvoysModel.book -/
def X11_book (F : Nat) (a1 : Int32) (a2 : Int32) (τ : Tau) : Option (Int32 × Tau) :=
  ald τ 1 2244 4 fun v1 => cal (X11_isIn F a1 0 (v1 - 1) τ) fun r2 τ3 => if r2 = 0 then (some ((-1), τ3)) else (cal (X11_isIn F a2 0 3 τ3) fun r4 τ5 => if r4 = 0 then (some ((-1), τ5)) else (ald τ5 1 2244 ((760 + (4 * a1)) + a2) fun v6 => some (v6, τ5)))
set_option maxRecDepth 20000 in
set_option maxHeartbeats 4000000 in
theorem c_X11_book (F : Nat) (a1 : Int32) (a2 : Int32) (τ : Tau) (r : Int32) (τ' : Tau) (h : X11_book F a1 a2 τ = some (r, τ')) : MCi sysM yX11_book cX11_book 3 (some .int) 2 [.ref 0, .int a1, .int a2] τ r τ' :=
  mci_of (by decide +kernel) (Nat.le_of_ble_eq_true rfl) (fun K C hr => by
    show Sm K sysM 3 (Qi K sysM) (X11_book F a1 a2 τ) 0 [(0, .ref 0), (1, .int a1), (2, .int a2)] [] τ
    unfold X11_book
    refine sm_seg C [(.iload_n 1, 0), (.iconst 0, 0), (.aload_n 0, 0)] (pc' := 3) (L' := [(0, .ref 0), (1, .int a1), (2, .int a2)]) (S' := [.ref 0, .int 0, .int a1]) (by decide +kernel) rfl ?_
    refine sm_getR 11 0 1 cls11 C (ltM (by decide +kernel : kdM 0 = 11) (by decide)) (by decide +kernel : kdM 0 = 11) (obM11 (by decide +kernel : kdM 0 = 11)) (by decide) (frM11_0 (by decide +kernel : kdM 0 = 11)) fl11_7 (by decide +kernel) ?_
    refine sm_seg C [(.iconst 4, 4)] (pc' := 7) (L' := [(0, .ref 0), (1, .int a1), (2, .int a2)]) (S' := [.int 4, .ref 1, .int 0, .int a1]) (by decide +kernel) rfl ?_
    refine sm_ald 2244 C (ltM (krM11_0 (by decide +kernel : kdM 0 = 11)) (by decide)) (krM11_0 (by decide +kernel : kdM 0 = 11)) (nrM11_0 (by decide +kernel : kdM 0 = 11)) (by decide +kernel) (fun v1 => ?_)
    refine sm_seg C [(.iconst 1, 1), (.isub, 0)] (pc' := 10) (L' := [(0, .ref 0), (1, .int a1), (2, .int a2)]) (S' := [.int (v1 - 1), .int 0, .int a1]) (by decide +kernel) rfl ?_
    refine sm_scal [.int a1, .int 0, .int (v1 - 1)] [] rfl C mw_X11_isIn ml_11_78 rfl ⟨by decide, by decide⟩ (Nat.le_of_ble_eq_true rfl) (by decide +kernel) (c_X11_isIn F a1 0 (v1 - 1) τ) (fun r2 τ3 => ?_)
    refine sm_ifeq 42 (off := 29) C (by decide +kernel) (by decide) (fun _ => ?_) (fun _ => ?_)
    · refine sm_seg C [(.iconst (-1), (-1))] (pc' := 43) (L' := [(0, .ref 0), (1, .int a1), (2, .int a2)]) (S' := [.int (-1)]) (by decide +kernel) rfl ?_
      exact sm_iret C hr rfl (by decide +kernel)
    · refine sm_seg C [(.iload_n 2, 0), (.iconst 0, 0), (.iconst 3, 3)] (pc' := 19) (L' := [(0, .ref 0), (1, .int a1), (2, .int a2)]) (S' := [.int 3, .int 0, .int a2]) (by decide +kernel) rfl ?_
      refine sm_scal [.int a2, .int 0, .int 3] [] rfl C mw_X11_isIn ml_11_78 rfl ⟨by decide, by decide⟩ (Nat.le_of_ble_eq_true rfl) (by decide +kernel) (c_X11_isIn F a2 0 3 τ3) (fun r4 τ5 => ?_)
      refine sm_ifeq 42 (off := 20) C (by decide +kernel) (by decide) (fun _ => ?_) (fun _ => ?_)
      · refine sm_seg C [(.iconst (-1), (-1))] (pc' := 43) (L' := [(0, .ref 0), (1, .int a1), (2, .int a2)]) (S' := [.int (-1)]) (by decide +kernel) rfl ?_
        exact sm_iret C hr rfl (by decide +kernel)
      · refine sm_seg C [(.aload_n 0, 0)] (pc' := 26) (L' := [(0, .ref 0), (1, .int a1), (2, .int a2)]) (S' := [.ref 0]) (by decide +kernel) rfl ?_
        refine sm_getR 11 0 1 cls11 C (ltM (by decide +kernel : kdM 0 = 11) (by decide)) (by decide +kernel : kdM 0 = 11) (obM11 (by decide +kernel : kdM 0 = 11)) (by decide) (frM11_0 (by decide +kernel : kdM 0 = 11)) fl11_7 (by decide +kernel) ?_
        refine sm_seg C [(.sipush 760, 760), (.iconst 4, 4), (.iload_n 1, 0), (.imul, 0), (.iadd, 0), (.iload_n 2, 0), (.iadd, 0)] (pc' := 38) (L' := [(0, .ref 0), (1, .int a1), (2, .int a2)]) (S' := [.int ((760 + (4 * a1)) + a2), .ref 1]) (by decide +kernel) rfl ?_
        refine sm_ald 2244 C (ltM (krM11_0 (by decide +kernel : kdM 0 = 11)) (by decide)) (krM11_0 (by decide +kernel : kdM 0 = 11)) (nrM11_0 (by decide +kernel : kdM 0 = 11)) (by decide +kernel) (fun v6 => ?_)
        refine sm_seg C [(.goto 4, 0)] (pc' := 43) (L' := [(0, .ref 0), (1, .int a1), (2, .int a2)]) (S' := [.int v6]) (by decide +kernel) rfl ?_
        exact sm_iret C hr rfl (by decide +kernel)) h
/-! BasketEnvoysModel.endsRow -/
def X11_endsRow (F : Nat) (a1 : Int32) (τ : Tau) : Option (Int32 × Tau) :=
  ast τ 1 2244 a1 0 fun τ1 => some (0, τ1)
set_option maxRecDepth 20000 in
set_option maxHeartbeats 4000000 in
theorem c_X11_endsRow (F : Nat) (a1 : Int32) (τ : Tau) (r : Int32) (τ' : Tau) (h : X11_endsRow F a1 τ = some (r, τ')) : MCi sysM yX11_endsRow cX11_endsRow 2 (some .int) 1 [.ref 0, .int a1] τ r τ' :=
  mci_of (by decide +kernel) (Nat.le_of_ble_eq_true rfl) (fun K C hr => by
    show Sm K sysM 2 (Qi K sysM) (X11_endsRow F a1 τ) 0 [(0, .ref 0), (1, .int a1)] [] τ
    unfold X11_endsRow
    refine sm_seg C [(.aload_n 0, 0)] (pc' := 1) (L' := [(0, .ref 0), (1, .int a1)]) (S' := [.ref 0]) (by decide +kernel) rfl ?_
    refine sm_getR 11 0 1 cls11 C (ltM (by decide +kernel : kdM 0 = 11) (by decide)) (by decide +kernel : kdM 0 = 11) (obM11 (by decide +kernel : kdM 0 = 11)) (by decide) (frM11_0 (by decide +kernel : kdM 0 = 11)) fl11_7 (by decide +kernel) ?_
    refine sm_seg C [(.iload_n 1, 0), (.iconst 0, 0)] (pc' := 6) (L' := [(0, .ref 0), (1, .int a1)]) (S' := [.int 0, .int a1, .ref 1]) (by decide +kernel) rfl ?_
    refine sm_ast 2244 C (ltM (krM11_0 (by decide +kernel : kdM 0 = 11)) (by decide)) (krM11_0 (by decide +kernel : kdM 0 = 11)) (nrM11_0 (by decide +kernel : kdM 0 = 11)) (by decide +kernel) (fun τ1 => ?_)
    refine sm_seg C [(.iconst 0, 0)] (pc' := 8) (L' := [(0, .ref 0), (1, .int a1)]) (S' := [.int 0]) (by decide +kernel) rfl ?_
    exact sm_iret C hr rfl (by decide +kernel)) h
/-! BasketEnvoysModel.border -/
def X11_border (F : Nat) (a1 : Int32) (a2 : Int32) (τ : Tau) : Option (Int32 × Tau) :=
  if a1 = (-1) then (cal (X11_endsRow F 674 τ) fun r1 τ2 => some (r1, τ2)) else (cal (X11_isIn F a1 0 7 τ) fun r3 τ4 => if r3 = 0 then (some ((-1), τ4)) else (cal (X11_isIn F a2 0 7 τ4) fun r5 τ6 => if r5 = 0 then (some ((-1), τ6)) else (if a1 = a2 then (some ((-1), τ6)) else (ald τ6 1 2244 674 fun v7 => if v7 = 14 then (some ((-1), τ6)) else (ald τ6 1 2244 674 fun v8 => ast τ6 1 2244 (675 + (2 * v8)) a1 fun τ9 => ald τ9 1 2244 674 fun v10 => ast τ9 1 2244 (676 + (2 * v10)) a2 fun τ11 => ald τ11 1 2244 674 fun v12 => ast τ11 1 2244 674 (v12 + 1) fun τ13 => ald τ13 1 2244 674 fun v14 => some (v14, τ13))))))
set_option maxRecDepth 20000 in
set_option maxHeartbeats 4000000 in
theorem c_X11_border (F : Nat) (a1 : Int32) (a2 : Int32) (τ : Tau) (r : Int32) (τ' : Tau) (h : X11_border F a1 a2 τ = some (r, τ')) : MCi sysM yX11_border cX11_border 3 (some .int) 2 [.ref 0, .int a1, .int a2] τ r τ' :=
  mci_of (by decide +kernel) (Nat.le_of_ble_eq_true rfl) (fun K C hr => by
    show Sm K sysM 3 (Qi K sysM) (X11_border F a1 a2 τ) 0 [(0, .ref 0), (1, .int a1), (2, .int a2)] [] τ
    unfold X11_border
    refine sm_seg C [(.iload_n 1, 0), (.iconst (-1), (-1))] (pc' := 2) (L' := [(0, .ref 0), (1, .int a1), (2, .int a2)]) (S' := [.int (-1), .int a1]) (by decide +kernel) rfl ?_
    refine sm_icmpne 13 (off := 11) C (by decide +kernel) (by decide) (fun _ => ?_) (fun _ => ?_)
    · refine sm_seg C [(.aload_n 0, 0), (.sipush 674, 674)] (pc' := 9) (L' := [(0, .ref 0), (1, .int a1), (2, .int a2)]) (S' := [.int 674, .ref 0]) (by decide +kernel) rfl ?_
      refine sm_vcal [.int 674] [] rfl C mw_X11_endsRow ml_11_388 rfl (ci := 11) rfl (ltM (by decide +kernel : kdM 0 = 11) (by decide)) (by decide +kernel : kdM 0 = 11) (by decide) ⟨by decide, by decide⟩ (Nat.le_of_ble_eq_true rfl) (by decide +kernel) (c_X11_endsRow F 674 τ) (fun r1 τ2 => ?_)
      exact sm_iret C hr rfl (by decide +kernel)
    · refine sm_seg C [(.iload_n 1, 0), (.iconst 0, 0), (.bipush 7, 7)] (pc' := 17) (L' := [(0, .ref 0), (1, .int a1), (2, .int a2)]) (S' := [.int 7, .int 0, .int a1]) (by decide +kernel) rfl ?_
      refine sm_scal [.int a1, .int 0, .int 7] [] rfl C mw_X11_isIn ml_11_78 rfl ⟨by decide, by decide⟩ (Nat.le_of_ble_eq_true rfl) (by decide +kernel) (c_X11_isIn F a1 0 7 τ) (fun r3 τ4 => ?_)
      refine sm_ifeq 51 (off := 31) C (by decide +kernel) (by decide) (fun _ => ?_) (fun _ => ?_)
      · refine sm_seg C [(.iconst (-1), (-1))] (pc' := 52) (L' := [(0, .ref 0), (1, .int a1), (2, .int a2)]) (S' := [.int (-1)]) (by decide +kernel) rfl ?_
        exact sm_iret C hr rfl (by decide +kernel)
      · refine sm_seg C [(.iload_n 2, 0), (.iconst 0, 0), (.bipush 7, 7)] (pc' := 27) (L' := [(0, .ref 0), (1, .int a1), (2, .int a2)]) (S' := [.int 7, .int 0, .int a2]) (by decide +kernel) rfl ?_
        refine sm_scal [.int a2, .int 0, .int 7] [] rfl C mw_X11_isIn ml_11_78 rfl ⟨by decide, by decide⟩ (Nat.le_of_ble_eq_true rfl) (by decide +kernel) (c_X11_isIn F a2 0 7 τ4) (fun r5 τ6 => ?_)
        refine sm_ifeq 51 (off := 21) C (by decide +kernel) (by decide) (fun _ => ?_) (fun _ => ?_)
        · refine sm_seg C [(.iconst (-1), (-1))] (pc' := 52) (L' := [(0, .ref 0), (1, .int a1), (2, .int a2)]) (S' := [.int (-1)]) (by decide +kernel) rfl ?_
          exact sm_iret C hr rfl (by decide +kernel)
        · refine sm_seg C [(.iload_n 1, 0), (.iload_n 2, 0)] (pc' := 35) (L' := [(0, .ref 0), (1, .int a1), (2, .int a2)]) (S' := [.int a2, .int a1]) (by decide +kernel) rfl ?_
          refine sm_icmpeq 51 (off := 16) C (by decide +kernel) (by decide) (fun _ => ?_) (fun _ => ?_)
          · refine sm_seg C [(.iconst (-1), (-1))] (pc' := 52) (L' := [(0, .ref 0), (1, .int a1), (2, .int a2)]) (S' := [.int (-1)]) (by decide +kernel) rfl ?_
            exact sm_iret C hr rfl (by decide +kernel)
          · refine sm_seg C [(.aload_n 0, 0)] (pc' := 39) (L' := [(0, .ref 0), (1, .int a1), (2, .int a2)]) (S' := [.ref 0]) (by decide +kernel) rfl ?_
            refine sm_getR 11 0 1 cls11 C (ltM (by decide +kernel : kdM 0 = 11) (by decide)) (by decide +kernel : kdM 0 = 11) (obM11 (by decide +kernel : kdM 0 = 11)) (by decide) (frM11_0 (by decide +kernel : kdM 0 = 11)) fl11_7 (by decide +kernel) ?_
            refine sm_seg C [(.sipush 674, 674)] (pc' := 45) (L' := [(0, .ref 0), (1, .int a1), (2, .int a2)]) (S' := [.int 674, .ref 1]) (by decide +kernel) rfl ?_
            refine sm_ald 2244 C (ltM (krM11_0 (by decide +kernel : kdM 0 = 11)) (by decide)) (krM11_0 (by decide +kernel : kdM 0 = 11)) (nrM11_0 (by decide +kernel : kdM 0 = 11)) (by decide +kernel) (fun v7 => ?_)
            refine sm_seg C [(.bipush 14, 14)] (pc' := 48) (L' := [(0, .ref 0), (1, .int a1), (2, .int a2)]) (S' := [.int 14, .int v7]) (by decide +kernel) rfl ?_
            refine sm_icmpne 53 (off := 5) C (by decide +kernel) (by decide) (fun _ => ?_) (fun _ => ?_)
            · refine sm_seg C [(.iconst (-1), (-1))] (pc' := 52) (L' := [(0, .ref 0), (1, .int a1), (2, .int a2)]) (S' := [.int (-1)]) (by decide +kernel) rfl ?_
              exact sm_iret C hr rfl (by decide +kernel)
            · refine sm_seg C [(.aload_n 0, 0)] (pc' := 54) (L' := [(0, .ref 0), (1, .int a1), (2, .int a2)]) (S' := [.ref 0]) (by decide +kernel) rfl ?_
              refine sm_getR 11 0 1 cls11 C (ltM (by decide +kernel : kdM 0 = 11) (by decide)) (by decide +kernel : kdM 0 = 11) (obM11 (by decide +kernel : kdM 0 = 11)) (by decide) (frM11_0 (by decide +kernel : kdM 0 = 11)) fl11_7 (by decide +kernel) ?_
              refine sm_seg C [(.sipush 675, 675), (.iconst 2, 2), (.aload_n 0, 0)] (pc' := 62) (L' := [(0, .ref 0), (1, .int a1), (2, .int a2)]) (S' := [.ref 0, .int 2, .int 675, .ref 1]) (by decide +kernel) rfl ?_
              refine sm_getR 11 0 1 cls11 C (ltM (by decide +kernel : kdM 0 = 11) (by decide)) (by decide +kernel : kdM 0 = 11) (obM11 (by decide +kernel : kdM 0 = 11)) (by decide) (frM11_0 (by decide +kernel : kdM 0 = 11)) fl11_7 (by decide +kernel) ?_
              refine sm_seg C [(.sipush 674, 674)] (pc' := 68) (L' := [(0, .ref 0), (1, .int a1), (2, .int a2)]) (S' := [.int 674, .ref 1, .int 2, .int 675, .ref 1]) (by decide +kernel) rfl ?_
              refine sm_ald 2244 C (ltM (krM11_0 (by decide +kernel : kdM 0 = 11)) (by decide)) (krM11_0 (by decide +kernel : kdM 0 = 11)) (nrM11_0 (by decide +kernel : kdM 0 = 11)) (by decide +kernel) (fun v8 => ?_)
              refine sm_seg C [(.imul, 0), (.iadd, 0), (.iload_n 1, 0)] (pc' := 72) (L' := [(0, .ref 0), (1, .int a1), (2, .int a2)]) (S' := [.int a1, .int (675 + (2 * v8)), .ref 1]) (by decide +kernel) rfl ?_
              refine sm_ast 2244 C (ltM (krM11_0 (by decide +kernel : kdM 0 = 11)) (by decide)) (krM11_0 (by decide +kernel : kdM 0 = 11)) (nrM11_0 (by decide +kernel : kdM 0 = 11)) (by decide +kernel) (fun τ9 => ?_)
              refine sm_seg C [(.aload_n 0, 0)] (pc' := 74) (L' := [(0, .ref 0), (1, .int a1), (2, .int a2)]) (S' := [.ref 0]) (by decide +kernel) rfl ?_
              refine sm_getR 11 0 1 cls11 C (ltM (by decide +kernel : kdM 0 = 11) (by decide)) (by decide +kernel : kdM 0 = 11) (obM11 (by decide +kernel : kdM 0 = 11)) (by decide) (frM11_0 (by decide +kernel : kdM 0 = 11)) fl11_7 (by decide +kernel) ?_
              refine sm_seg C [(.sipush 676, 676), (.iconst 2, 2), (.aload_n 0, 0)] (pc' := 82) (L' := [(0, .ref 0), (1, .int a1), (2, .int a2)]) (S' := [.ref 0, .int 2, .int 676, .ref 1]) (by decide +kernel) rfl ?_
              refine sm_getR 11 0 1 cls11 C (ltM (by decide +kernel : kdM 0 = 11) (by decide)) (by decide +kernel : kdM 0 = 11) (obM11 (by decide +kernel : kdM 0 = 11)) (by decide) (frM11_0 (by decide +kernel : kdM 0 = 11)) fl11_7 (by decide +kernel) ?_
              refine sm_seg C [(.sipush 674, 674)] (pc' := 88) (L' := [(0, .ref 0), (1, .int a1), (2, .int a2)]) (S' := [.int 674, .ref 1, .int 2, .int 676, .ref 1]) (by decide +kernel) rfl ?_
              refine sm_ald 2244 C (ltM (krM11_0 (by decide +kernel : kdM 0 = 11)) (by decide)) (krM11_0 (by decide +kernel : kdM 0 = 11)) (nrM11_0 (by decide +kernel : kdM 0 = 11)) (by decide +kernel) (fun v10 => ?_)
              refine sm_seg C [(.imul, 0), (.iadd, 0), (.iload_n 2, 0)] (pc' := 92) (L' := [(0, .ref 0), (1, .int a1), (2, .int a2)]) (S' := [.int a2, .int (676 + (2 * v10)), .ref 1]) (by decide +kernel) rfl ?_
              refine sm_ast 2244 C (ltM (krM11_0 (by decide +kernel : kdM 0 = 11)) (by decide)) (krM11_0 (by decide +kernel : kdM 0 = 11)) (nrM11_0 (by decide +kernel : kdM 0 = 11)) (by decide +kernel) (fun τ11 => ?_)
              refine sm_seg C [(.aload_n 0, 0)] (pc' := 94) (L' := [(0, .ref 0), (1, .int a1), (2, .int a2)]) (S' := [.ref 0]) (by decide +kernel) rfl ?_
              refine sm_getR 11 0 1 cls11 C (ltM (by decide +kernel : kdM 0 = 11) (by decide)) (by decide +kernel : kdM 0 = 11) (obM11 (by decide +kernel : kdM 0 = 11)) (by decide) (frM11_0 (by decide +kernel : kdM 0 = 11)) fl11_7 (by decide +kernel) ?_
              refine sm_seg C [(.sipush 674, 674), (.dup2, 0)] (pc' := 101) (L' := [(0, .ref 0), (1, .int a1), (2, .int a2)]) (S' := [.int 674, .ref 1, .int 674, .ref 1]) (by decide +kernel) rfl ?_
              refine sm_ald 2244 C (ltM (krM11_0 (by decide +kernel : kdM 0 = 11)) (by decide)) (krM11_0 (by decide +kernel : kdM 0 = 11)) (nrM11_0 (by decide +kernel : kdM 0 = 11)) (by decide +kernel) (fun v12 => ?_)
              refine sm_seg C [(.iconst 1, 1), (.iadd, 0)] (pc' := 104) (L' := [(0, .ref 0), (1, .int a1), (2, .int a2)]) (S' := [.int (v12 + 1), .int 674, .ref 1]) (by decide +kernel) rfl ?_
              refine sm_ast 2244 C (ltM (krM11_0 (by decide +kernel : kdM 0 = 11)) (by decide)) (krM11_0 (by decide +kernel : kdM 0 = 11)) (nrM11_0 (by decide +kernel : kdM 0 = 11)) (by decide +kernel) (fun τ13 => ?_)
              refine sm_seg C [(.aload_n 0, 0)] (pc' := 106) (L' := [(0, .ref 0), (1, .int a1), (2, .int a2)]) (S' := [.ref 0]) (by decide +kernel) rfl ?_
              refine sm_getR 11 0 1 cls11 C (ltM (by decide +kernel : kdM 0 = 11) (by decide)) (by decide +kernel : kdM 0 = 11) (obM11 (by decide +kernel : kdM 0 = 11)) (by decide) (frM11_0 (by decide +kernel : kdM 0 = 11)) fl11_7 (by decide +kernel) ?_
              refine sm_seg C [(.sipush 674, 674)] (pc' := 112) (L' := [(0, .ref 0), (1, .int a1), (2, .int a2)]) (S' := [.int 674, .ref 1]) (by decide +kernel) rfl ?_
              refine sm_ald 2244 C (ltM (krM11_0 (by decide +kernel : kdM 0 = 11)) (by decide)) (krM11_0 (by decide +kernel : kdM 0 = 11)) (nrM11_0 (by decide +kernel : kdM 0 = 11)) (by decide +kernel) (fun v14 => ?_)
              exact sm_iret C hr rfl (by decide +kernel)) h
/-! BasketEnvoysModel.canBeOne -/
def X11_canBeOne_j56 (F : Nat) (self2 : Int32 → Int32 → Tau → Option (Int32 × Tau)) (a1 : Int32) (a2 : Int32) (τ : Tau) : Option (Int32 × Tau) :=
  self2 a1 (a2 + 1) τ
theorem s_X11_canBeOne_j56 (F : Nat) {K : Ctx} (C : Cx K sysM RX11 cX11_canBeOne 3 1) (hr : Rt K (some .boolean)) (self2 : Int32 → Int32 → Tau → Option (Int32 × Tau)) (ih2 : ∀ (a1 : Int32) (a2 : Int32) (τ : Tau), Sm K sysM 3 (Qi K sysM) (self2 a1 a2 τ) 2 [(0, .ref 0), (1, .int a1), (2, .int a2)] [] τ) (a1 : Int32) (a2 : Int32) (τ : Tau) : Sm K sysM 3 (Qi K sysM) (X11_canBeOne_j56 F self2 a1 a2 τ) 56 [(0, .ref 0), (1, .int a1), (2, .int a2)] [] τ := by
  unfold X11_canBeOne_j56
  refine sm_seg C [(.iinc 2 1, 1), (.goto (-57), 0)] (pc' := 2) (L' := [(2, .int (a2 + 1)), (0, .ref 0), (1, .int a1)]) (S' := []) (by decide +kernel) rfl ?_
  exact sm_sub [1, 2, 0] rfl (ih2 a1 (a2 + 1) τ)
def X11_canBeOne_L2 (F : Nat) : Nat → Int32 → Int32 → Tau → Option (Int32 × Tau)
  | 0, _, _, _ => none
  | n + 1, a1, a2, τ =>
    ald τ 1 2244 674 fun v1 => if v1 ≤ a2 then (some (1, τ)) else (ald τ 1 2244 (675 + (2 * a2)) fun v2 => if ((shr a1 v2) &&& 1) = 1 then (ald τ 1 2244 (676 + (2 * a2)) fun v3 => if ((shr a1 v3) &&& 1) = 1 then (some (0, τ)) else (X11_canBeOne_j56 F (X11_canBeOne_L2 F n) a1 a2 τ)) else (X11_canBeOne_j56 F (X11_canBeOne_L2 F n) a1 a2 τ))
theorem s_X11_canBeOne_L2 (F : Nat) {K : Ctx} (C : Cx K sysM RX11 cX11_canBeOne 3 1) (hr : Rt K (some .boolean)) : ∀ (n : Nat) (a1 : Int32) (a2 : Int32) (τ : Tau), Sm K sysM 3 (Qi K sysM) (X11_canBeOne_L2 F n a1 a2 τ) 2 [(0, .ref 0), (1, .int a1), (2, .int a2)] [] τ := by
  intro n
  induction n with
  | zero => intro a1 a2 τ; exact sm_none
  | succ n ih =>
    intro a1 a2 τ
    rw [X11_canBeOne_L2]
    refine sm_seg C [(.iload_n 2, 0), (.aload_n 0, 0)] (pc' := 4) (L' := [(0, .ref 0), (1, .int a1), (2, .int a2)]) (S' := [.ref 0, .int a2]) (by decide +kernel) rfl ?_
    refine sm_getR 11 0 1 cls11 C (ltM (by decide +kernel : kdM 0 = 11) (by decide)) (by decide +kernel : kdM 0 = 11) (obM11 (by decide +kernel : kdM 0 = 11)) (by decide) (frM11_0 (by decide +kernel : kdM 0 = 11)) fl11_7 (by decide +kernel) ?_
    refine sm_seg C [(.sipush 674, 674)] (pc' := 10) (L' := [(0, .ref 0), (1, .int a1), (2, .int a2)]) (S' := [.int 674, .ref 1, .int a2]) (by decide +kernel) rfl ?_
    refine sm_ald 2244 C (ltM (krM11_0 (by decide +kernel : kdM 0 = 11)) (by decide)) (krM11_0 (by decide +kernel : kdM 0 = 11)) (nrM11_0 (by decide +kernel : kdM 0 = 11)) (by decide +kernel) (fun v1 => ?_)
    refine sm_icmpge 62 (off := 51) C (by decide +kernel) (by decide) (fun _ => ?_) (fun _ => ?_)
    · refine sm_seg C [(.iconst 1, 1)] (pc' := 63) (L' := [(0, .ref 0), (1, .int a1), (2, .int a2)]) (S' := [.int 1]) (by decide +kernel) rfl ?_
      exact sm_iret C hr rfl (by decide +kernel)
    · refine sm_seg C [(.iload_n 1, 0), (.aload_n 0, 0)] (pc' := 16) (L' := [(0, .ref 0), (1, .int a1), (2, .int a2)]) (S' := [.ref 0, .int a1]) (by decide +kernel) rfl ?_
      refine sm_getR 11 0 1 cls11 C (ltM (by decide +kernel : kdM 0 = 11) (by decide)) (by decide +kernel : kdM 0 = 11) (obM11 (by decide +kernel : kdM 0 = 11)) (by decide) (frM11_0 (by decide +kernel : kdM 0 = 11)) fl11_7 (by decide +kernel) ?_
      refine sm_seg C [(.sipush 675, 675), (.iconst 2, 2), (.iload_n 2, 0), (.imul, 0), (.iadd, 0)] (pc' := 26) (L' := [(0, .ref 0), (1, .int a1), (2, .int a2)]) (S' := [.int (675 + (2 * a2)), .ref 1, .int a1]) (by decide +kernel) rfl ?_
      refine sm_ald 2244 C (ltM (krM11_0 (by decide +kernel : kdM 0 = 11)) (by decide)) (krM11_0 (by decide +kernel : kdM 0 = 11)) (nrM11_0 (by decide +kernel : kdM 0 = 11)) (by decide +kernel) (fun v2 => ?_)
      refine sm_seg C [(.ishr, 0), (.iconst 1, 1), (.iand, 0), (.iconst 1, 1)] (pc' := 31) (L' := [(0, .ref 0), (1, .int a1), (2, .int a2)]) (S' := [.int 1, .int ((shr a1 v2) &&& 1)]) (by decide +kernel) rfl ?_
      refine sm_icmpne 56 (off := 25) C (by decide +kernel) (by decide) (fun _ => ?_) (fun _ => ?_)
      · refine sm_seg C [(.iload_n 1, 0), (.aload_n 0, 0)] (pc' := 36) (L' := [(0, .ref 0), (1, .int a1), (2, .int a2)]) (S' := [.ref 0, .int a1]) (by decide +kernel) rfl ?_
        refine sm_getR 11 0 1 cls11 C (ltM (by decide +kernel : kdM 0 = 11) (by decide)) (by decide +kernel : kdM 0 = 11) (obM11 (by decide +kernel : kdM 0 = 11)) (by decide) (frM11_0 (by decide +kernel : kdM 0 = 11)) fl11_7 (by decide +kernel) ?_
        refine sm_seg C [(.sipush 676, 676), (.iconst 2, 2), (.iload_n 2, 0), (.imul, 0), (.iadd, 0)] (pc' := 46) (L' := [(0, .ref 0), (1, .int a1), (2, .int a2)]) (S' := [.int (676 + (2 * a2)), .ref 1, .int a1]) (by decide +kernel) rfl ?_
        refine sm_ald 2244 C (ltM (krM11_0 (by decide +kernel : kdM 0 = 11)) (by decide)) (krM11_0 (by decide +kernel : kdM 0 = 11)) (nrM11_0 (by decide +kernel : kdM 0 = 11)) (by decide +kernel) (fun v3 => ?_)
        refine sm_seg C [(.ishr, 0), (.iconst 1, 1), (.iand, 0), (.iconst 1, 1)] (pc' := 51) (L' := [(0, .ref 0), (1, .int a1), (2, .int a2)]) (S' := [.int 1, .int ((shr a1 v3) &&& 1)]) (by decide +kernel) rfl ?_
        refine sm_icmpne 56 (off := 5) C (by decide +kernel) (by decide) (fun _ => ?_) (fun _ => ?_)
        · refine sm_seg C [(.iconst 0, 0)] (pc' := 55) (L' := [(0, .ref 0), (1, .int a1), (2, .int a2)]) (S' := [.int 0]) (by decide +kernel) rfl ?_
          exact sm_iret C hr rfl (by decide +kernel)
        · exact sm_sub [0, 1, 2] rfl (s_X11_canBeOne_j56 F C hr (X11_canBeOne_L2 F n) ih a1 a2 τ)
      · exact sm_sub [0, 1, 2] rfl (s_X11_canBeOne_j56 F C hr (X11_canBeOne_L2 F n) ih a1 a2 τ)
def X11_canBeOne (F : Nat) (a1 : Int32) (τ : Tau) : Option (Int32 × Tau) :=
  X11_canBeOne_L2 F F a1 0 τ
set_option maxRecDepth 20000 in
set_option maxHeartbeats 4000000 in
theorem c_X11_canBeOne (F : Nat) (a1 : Int32) (τ : Tau) (r : Int32) (τ' : Tau) (h : X11_canBeOne F a1 τ = some (r, τ')) : MCi sysM yX11_canBeOne cX11_canBeOne 3 (some .boolean) 1 [.ref 0, .int a1] τ r τ' :=
  mci_of (by decide +kernel) (Nat.le_of_ble_eq_true rfl) (fun K C hr => by
    show Sm K sysM 3 (Qi K sysM) (X11_canBeOne F a1 τ) 0 [(0, .ref 0), (1, .int a1)] [] τ
    unfold X11_canBeOne
    refine sm_seg C [(.iconst 0, 0), (.istore_n 2, 0)] (pc' := 2) (L' := [(2, .int 0), (0, .ref 0), (1, .int a1)]) (S' := []) (by decide +kernel) rfl ?_
    exact sm_sub [1, 2, 0] rfl (s_X11_canBeOne_L2 F C hr F a1 0 τ)) h
/-! BasketEnvoysModel.canPart -/
def X11_canPart_j58 (F : Nat) (self2 : Int32 → Int32 → Int32 → Tau → Option (Int32 × Tau)) (self10 : Int32 → Int32 → Int32 → Int32 → Tau → Option (Int32 × Tau)) (a1 : Int32) (a2 : Int32) (a3 : Int32) (a4 : Int32) (τ : Tau) : Option (Int32 × Tau) :=
  self10 a1 a2 a3 (a4 + 1) τ
theorem s_X11_canPart_j58 (F : Nat) {K : Ctx} (C : Cx K sysM RX11 cX11_canPart 5 1) (hr : Rt K (some .boolean)) (self2 : Int32 → Int32 → Int32 → Tau → Option (Int32 × Tau)) (self10 : Int32 → Int32 → Int32 → Int32 → Tau → Option (Int32 × Tau)) (ih2 : ∀ (a1 : Int32) (a2 : Int32) (a3 : Int32) (τ : Tau), Sm K sysM 5 (Qi K sysM) (self2 a1 a2 a3 τ) 2 [(0, .ref 0), (1, .int a1), (2, .int a2), (3, .int a3)] [] τ) (ih10 : ∀ (a1 : Int32) (a2 : Int32) (a3 : Int32) (a4 : Int32) (τ : Tau), Sm K sysM 5 (Qi K sysM) (self10 a1 a2 a3 a4 τ) 10 [(0, .ref 0), (1, .int a1), (2, .int a2), (3, .int a3), (4, .int a4)] [] τ) (a1 : Int32) (a2 : Int32) (a3 : Int32) (a4 : Int32) (τ : Tau) : Sm K sysM 5 (Qi K sysM) (X11_canPart_j58 F self2 self10 a1 a2 a3 a4 τ) 58 [(0, .ref 0), (1, .int a1), (2, .int a2), (3, .int a3), (4, .int a4)] [] τ := by
  unfold X11_canPart_j58
  refine sm_seg C [(.iinc 4 1, 1), (.goto (-51), 0)] (pc' := 10) (L' := [(4, .int (a4 + 1)), (0, .ref 0), (1, .int a1), (2, .int a2), (3, .int a3)]) (S' := []) (by decide +kernel) rfl ?_
  exact sm_sub [1, 2, 3, 4, 0] rfl (ih10 a1 a2 a3 (a4 + 1) τ)
def X11_canPart_L10 (F : Nat) (self2 : Int32 → Int32 → Int32 → Tau → Option (Int32 × Tau)) : Nat → Int32 → Int32 → Int32 → Int32 → Tau → Option (Int32 × Tau)
  | 0, _, _, _, _, _ => none
  | n + 1, a1, a2, a3, a4, τ =>
    if a2 < a4 then (self2 a1 a2 (a3 + 1) τ) else (ald τ 12 441 ((((21 * a3) + a4) + a1) - a3) fun v1 => if v1 = 0 then (X11_canPart_j58 F self2 (X11_canPart_L10 F self2 n) a1 a2 a3 a4 τ) else (ald τ 12 441 ((((21 * (a1 - a3)) + a2) - a4) + a3) fun v2 => if v2 = 0 then (X11_canPart_j58 F self2 (X11_canPart_L10 F self2 n) a1 a2 a3 a4 τ) else (some (1, τ))))
theorem s_X11_canPart_L10 (F : Nat) {K : Ctx} (C : Cx K sysM RX11 cX11_canPart 5 1) (hr : Rt K (some .boolean)) (self2 : Int32 → Int32 → Int32 → Tau → Option (Int32 × Tau)) (ih2 : ∀ (a1 : Int32) (a2 : Int32) (a3 : Int32) (τ : Tau), Sm K sysM 5 (Qi K sysM) (self2 a1 a2 a3 τ) 2 [(0, .ref 0), (1, .int a1), (2, .int a2), (3, .int a3)] [] τ) : ∀ (n : Nat) (a1 : Int32) (a2 : Int32) (a3 : Int32) (a4 : Int32) (τ : Tau), Sm K sysM 5 (Qi K sysM) (X11_canPart_L10 F self2 n a1 a2 a3 a4 τ) 10 [(0, .ref 0), (1, .int a1), (2, .int a2), (3, .int a3), (4, .int a4)] [] τ := by
  intro n
  induction n with
  | zero => intro a1 a2 a3 a4 τ; exact sm_none
  | succ n ih =>
    intro a1 a2 a3 a4 τ
    rw [X11_canPart_L10]
    refine sm_seg C [(.iload 4, 0), (.iload_n 2, 0)] (pc' := 13) (L' := [(0, .ref 0), (1, .int a1), (2, .int a2), (3, .int a3), (4, .int a4)]) (S' := [.int a2, .int a4]) (by decide +kernel) rfl ?_
    refine sm_icmpgt 64 (off := 51) C (by decide +kernel) (by decide) (fun _ => ?_) (fun _ => ?_)
    · refine sm_seg C [(.iinc 3 1, 1), (.goto (-65), 0)] (pc' := 2) (L' := [(3, .int (a3 + 1)), (0, .ref 0), (1, .int a1), (2, .int a2), (4, .int a4)]) (S' := []) (by decide +kernel) rfl ?_
      exact sm_sub [1, 2, 3, 0] rfl (ih2 a1 a2 (a3 + 1) τ)
    · refine sm_seg C [(.aload_n 0, 0)] (pc' := 17) (L' := [(0, .ref 0), (1, .int a1), (2, .int a2), (3, .int a3), (4, .int a4)]) (S' := [.ref 0]) (by decide +kernel) rfl ?_
      refine sm_getR 11 28 12 cls11 C (ltM (by decide +kernel : kdM 0 = 11) (by decide)) (by decide +kernel : kdM 0 = 11) (obM11 (by decide +kernel : kdM 0 = 11)) (by decide) (frM11_28 (by decide +kernel : kdM 0 = 11)) fl11_47 (by decide +kernel) ?_
      refine sm_seg C [(.bipush 21, 21), (.iload_n 3, 0), (.imul, 0), (.iload 4, 0), (.iadd, 0), (.iload_n 1, 0), (.iadd, 0), (.iload_n 3, 0), (.isub, 0)] (pc' := 31) (L' := [(0, .ref 0), (1, .int a1), (2, .int a2), (3, .int a3), (4, .int a4)]) (S' := [.int ((((21 * a3) + a4) + a1) - a3), .ref 12]) (by decide +kernel) rfl ?_
      refine sm_ldz 441 C (ltM (krM11_28 (by decide +kernel : kdM 0 = 11)) (by decide)) (krM11_28 (by decide +kernel : kdM 0 = 11)) (nrM11_28 (by decide +kernel : kdM 0 = 11)) (by decide +kernel) (fun v1 => ?_)
      refine sm_ifeq 58 (off := 26) C (by decide +kernel) (by decide) (fun _ => ?_) (fun _ => ?_)
      · exact sm_sub [0, 1, 2, 3, 4] rfl (s_X11_canPart_j58 F C hr self2 (X11_canPart_L10 F self2 n) ih2 ih a1 a2 a3 a4 τ)
      · refine sm_seg C [(.aload_n 0, 0)] (pc' := 36) (L' := [(0, .ref 0), (1, .int a1), (2, .int a2), (3, .int a3), (4, .int a4)]) (S' := [.ref 0]) (by decide +kernel) rfl ?_
        refine sm_getR 11 28 12 cls11 C (ltM (by decide +kernel : kdM 0 = 11) (by decide)) (by decide +kernel : kdM 0 = 11) (obM11 (by decide +kernel : kdM 0 = 11)) (by decide) (frM11_28 (by decide +kernel : kdM 0 = 11)) fl11_47 (by decide +kernel) ?_
        refine sm_seg C [(.bipush 21, 21), (.iload_n 1, 0), (.iload_n 3, 0), (.isub, 0), (.imul, 0), (.iload_n 2, 0), (.iadd, 0), (.iload 4, 0), (.isub, 0), (.iload_n 3, 0), (.iadd, 0)] (pc' := 52) (L' := [(0, .ref 0), (1, .int a1), (2, .int a2), (3, .int a3), (4, .int a4)]) (S' := [.int ((((21 * (a1 - a3)) + a2) - a4) + a3), .ref 12]) (by decide +kernel) rfl ?_
        refine sm_ldz 441 C (ltM (krM11_28 (by decide +kernel : kdM 0 = 11)) (by decide)) (krM11_28 (by decide +kernel : kdM 0 = 11)) (nrM11_28 (by decide +kernel : kdM 0 = 11)) (by decide +kernel) (fun v2 => ?_)
        refine sm_ifeq 58 (off := 5) C (by decide +kernel) (by decide) (fun _ => ?_) (fun _ => ?_)
        · exact sm_sub [0, 1, 2, 3, 4] rfl (s_X11_canPart_j58 F C hr self2 (X11_canPart_L10 F self2 n) ih2 ih a1 a2 a3 a4 τ)
        · refine sm_seg C [(.iconst 1, 1)] (pc' := 57) (L' := [(0, .ref 0), (1, .int a1), (2, .int a2), (3, .int a3), (4, .int a4)]) (S' := [.int 1]) (by decide +kernel) rfl ?_
          exact sm_iret C hr rfl (by decide +kernel)
def X11_canPart_L2 (F : Nat) : Nat → Int32 → Int32 → Int32 → Tau → Option (Int32 × Tau)
  | 0, _, _, _, _ => none
  | n + 1, a1, a2, a3, τ =>
    if a1 < a3 then (some (0, τ)) else (X11_canPart_L10 F (X11_canPart_L2 F n) F a1 a2 a3 0 τ)
theorem s_X11_canPart_L2 (F : Nat) {K : Ctx} (C : Cx K sysM RX11 cX11_canPart 5 1) (hr : Rt K (some .boolean)) : ∀ (n : Nat) (a1 : Int32) (a2 : Int32) (a3 : Int32) (τ : Tau), Sm K sysM 5 (Qi K sysM) (X11_canPart_L2 F n a1 a2 a3 τ) 2 [(0, .ref 0), (1, .int a1), (2, .int a2), (3, .int a3)] [] τ := by
  intro n
  induction n with
  | zero => intro a1 a2 a3 τ; exact sm_none
  | succ n ih =>
    intro a1 a2 a3 τ
    rw [X11_canPart_L2]
    refine sm_seg C [(.iload_n 3, 0), (.iload_n 1, 0)] (pc' := 4) (L' := [(0, .ref 0), (1, .int a1), (2, .int a2), (3, .int a3)]) (S' := [.int a1, .int a3]) (by decide +kernel) rfl ?_
    refine sm_icmpgt 70 (off := 66) C (by decide +kernel) (by decide) (fun _ => ?_) (fun _ => ?_)
    · refine sm_seg C [(.iconst 0, 0)] (pc' := 71) (L' := [(0, .ref 0), (1, .int a1), (2, .int a2), (3, .int a3)]) (S' := [.int 0]) (by decide +kernel) rfl ?_
      exact sm_iret C hr rfl (by decide +kernel)
    · refine sm_seg C [(.iconst 0, 0), (.istore 4, 0)] (pc' := 10) (L' := [(4, .int 0), (0, .ref 0), (1, .int a1), (2, .int a2), (3, .int a3)]) (S' := []) (by decide +kernel) rfl ?_
      exact sm_sub [1, 2, 3, 4, 0] rfl (s_X11_canPart_L10 F C hr (X11_canPart_L2 F n) ih F a1 a2 a3 0 τ)
def X11_canPart (F : Nat) (a1 : Int32) (a2 : Int32) (τ : Tau) : Option (Int32 × Tau) :=
  X11_canPart_L2 F F a1 a2 0 τ
set_option maxRecDepth 20000 in
set_option maxHeartbeats 4000000 in
theorem c_X11_canPart (F : Nat) (a1 : Int32) (a2 : Int32) (τ : Tau) (r : Int32) (τ' : Tau) (h : X11_canPart F a1 a2 τ = some (r, τ')) : MCi sysM yX11_canPart cX11_canPart 5 (some .boolean) 1 [.ref 0, .int a1, .int a2] τ r τ' :=
  mci_of (by decide +kernel) (Nat.le_of_ble_eq_true rfl) (fun K C hr => by
    show Sm K sysM 5 (Qi K sysM) (X11_canPart F a1 a2 τ) 0 [(0, .ref 0), (1, .int a1), (2, .int a2)] [] τ
    unfold X11_canPart
    refine sm_seg C [(.iconst 0, 0), (.istore_n 3, 0)] (pc' := 2) (L' := [(3, .int 0), (0, .ref 0), (1, .int a1), (2, .int a2)]) (S' := []) (by decide +kernel) rfl ?_
    exact sm_sub [1, 2, 3, 0] rfl (s_X11_canPart_L2 F C hr F a1 a2 0 τ)) h
/-! BasketEnvoysModel.carried -/
def X11_carried_j72 (F : Nat) (self27 : Int32 → Int32 → Int32 → Int32 → Tau → Option (Int32 × Tau)) (a1 : Int32) (a2 : Int32) (a3 : Int32) (a4 : Int32) (τ : Tau) : Option (Int32 × Tau) :=
  self27 a1 a2 a3 (a4 + 1) τ
theorem s_X11_carried_j72 (F : Nat) {K : Ctx} (C : Cx K sysM RX11 cX11_carried 5 2) (hr : Rt K (some .int)) (self27 : Int32 → Int32 → Int32 → Int32 → Tau → Option (Int32 × Tau)) (ih27 : ∀ (a1 : Int32) (a2 : Int32) (a3 : Int32) (a4 : Int32) (τ : Tau), Sm K sysM 5 (Qi K sysM) (self27 a1 a2 a3 a4 τ) 27 [(0, .ref 0), (1, .int a1), (2, .int a2), (3, .int a3), (4, .int a4)] [] τ) (a1 : Int32) (a2 : Int32) (a3 : Int32) (a4 : Int32) (τ : Tau) : Sm K sysM 5 (Qi K sysM) (X11_carried_j72 F self27 a1 a2 a3 a4 τ) 72 [(0, .ref 0), (1, .int a1), (2, .int a2), (3, .int a3), (4, .int a4)] [] τ := by
  unfold X11_carried_j72
  refine sm_seg C [(.iinc 4 1, 1), (.goto (-48), 0)] (pc' := 27) (L' := [(4, .int (a4 + 1)), (0, .ref 0), (1, .int a1), (2, .int a2), (3, .int a3)]) (S' := []) (by decide +kernel) rfl ?_
  exact sm_sub [1, 2, 3, 4, 0] rfl (ih27 a1 a2 a3 (a4 + 1) τ)
def X11_carried_L27 (F : Nat) : Nat → Int32 → Int32 → Int32 → Int32 → Tau → Option (Int32 × Tau)
  | 0, _, _, _, _, _ => none
  | n + 1, a1, a2, a3, a4, τ =>
    ald τ 1 2244 608 fun v5 => if (shl 1 v5) ≤ a4 then (if a2 = 0 then (cal (X11_allOf F a3 1 τ) fun r6 τ7 => some (r6, τ7)) else (some (a3, τ))) else (cal (X11_allOf F a4 0 τ) fun r8 τ9 => if a1 < r8 then (X11_carried_j72 F (X11_carried_L27 F n) a1 a2 a3 a4 τ9) else (cal (X11_allOf F a4 1 τ9) fun r10 τ11 => cal (X11_allOf F a3 1 τ11) fun r12 τ13 => if r10 ≤ r12 then (X11_carried_j72 F (X11_carried_L27 F n) a1 a2 a3 a4 τ13) else (X11_carried_j72 F (X11_carried_L27 F n) a1 a2 a4 a4 τ13)))
theorem s_X11_carried_L27 (F : Nat) {K : Ctx} (C : Cx K sysM RX11 cX11_carried 5 2) (hr : Rt K (some .int)) : ∀ (n : Nat) (a1 : Int32) (a2 : Int32) (a3 : Int32) (a4 : Int32) (τ : Tau), Sm K sysM 5 (Qi K sysM) (X11_carried_L27 F n a1 a2 a3 a4 τ) 27 [(0, .ref 0), (1, .int a1), (2, .int a2), (3, .int a3), (4, .int a4)] [] τ := by
  intro n
  induction n with
  | zero => intro a1 a2 a3 a4 τ; exact sm_none
  | succ n ih =>
    intro a1 a2 a3 a4 τ
    rw [X11_carried_L27]
    refine sm_seg C [(.iload 4, 0), (.iconst 1, 1), (.aload_n 0, 0)] (pc' := 31) (L' := [(0, .ref 0), (1, .int a1), (2, .int a2), (3, .int a3), (4, .int a4)]) (S' := [.ref 0, .int 1, .int a4]) (by decide +kernel) rfl ?_
    refine sm_getR 11 0 1 cls11 C (ltM (by decide +kernel : kdM 0 = 11) (by decide)) (by decide +kernel : kdM 0 = 11) (obM11 (by decide +kernel : kdM 0 = 11)) (by decide) (frM11_0 (by decide +kernel : kdM 0 = 11)) fl11_7 (by decide +kernel) ?_
    refine sm_seg C [(.sipush 608, 608)] (pc' := 37) (L' := [(0, .ref 0), (1, .int a1), (2, .int a2), (3, .int a3), (4, .int a4)]) (S' := [.int 608, .ref 1, .int 1, .int a4]) (by decide +kernel) rfl ?_
    refine sm_ald 2244 C (ltM (krM11_0 (by decide +kernel : kdM 0 = 11)) (by decide)) (krM11_0 (by decide +kernel : kdM 0 = 11)) (nrM11_0 (by decide +kernel : kdM 0 = 11)) (by decide +kernel) (fun v5 => ?_)
    refine sm_seg C [(.ishl, 0)] (pc' := 39) (L' := [(0, .ref 0), (1, .int a1), (2, .int a2), (3, .int a3), (4, .int a4)]) (S' := [.int (shl 1 v5), .int a4]) (by decide +kernel) rfl ?_
    refine sm_icmpge 78 (off := 39) C (by decide +kernel) (by decide) (fun _ => ?_) (fun _ => ?_)
    · refine sm_seg C [(.iload_n 2, 0)] (pc' := 79) (L' := [(0, .ref 0), (1, .int a1), (2, .int a2), (3, .int a3), (4, .int a4)]) (S' := [.int a2]) (by decide +kernel) rfl ?_
      refine sm_ifne 91 (off := 12) C (by decide +kernel) (by decide) (fun _ => ?_) (fun _ => ?_)
      · refine sm_seg C [(.aload_n 0, 0), (.iload_n 3, 0), (.iconst 1, 1)] (pc' := 85) (L' := [(0, .ref 0), (1, .int a1), (2, .int a2), (3, .int a3), (4, .int a4)]) (S' := [.int 1, .int a3, .ref 0]) (by decide +kernel) rfl ?_
        refine sm_vcal [.int a3, .int 1] [] rfl C mw_X11_allOf ml_11_439 rfl (ci := 11) rfl (ltM (by decide +kernel : kdM 0 = 11) (by decide)) (by decide +kernel : kdM 0 = 11) (by decide) ⟨by decide, by decide⟩ (Nat.le_of_ble_eq_true rfl) (by decide +kernel) (c_X11_allOf F a3 1 τ) (fun r6 τ7 => ?_)
        refine sm_seg C [(.goto 4, 0)] (pc' := 92) (L' := [(0, .ref 0), (1, .int a1), (2, .int a2), (3, .int a3), (4, .int a4)]) (S' := [.int r6]) (by decide +kernel) rfl ?_
        exact sm_iret C hr rfl (by decide +kernel)
      · refine sm_seg C [(.iload_n 3, 0)] (pc' := 92) (L' := [(0, .ref 0), (1, .int a1), (2, .int a2), (3, .int a3), (4, .int a4)]) (S' := [.int a3]) (by decide +kernel) rfl ?_
        exact sm_iret C hr rfl (by decide +kernel)
    · refine sm_seg C [(.aload_n 0, 0), (.iload 4, 0), (.iconst 0, 0)] (pc' := 46) (L' := [(0, .ref 0), (1, .int a1), (2, .int a2), (3, .int a3), (4, .int a4)]) (S' := [.int 0, .int a4, .ref 0]) (by decide +kernel) rfl ?_
      refine sm_vcal [.int a4, .int 0] [] rfl C mw_X11_allOf ml_11_439 rfl (ci := 11) rfl (ltM (by decide +kernel : kdM 0 = 11) (by decide)) (by decide +kernel : kdM 0 = 11) (by decide) ⟨by decide, by decide⟩ (Nat.le_of_ble_eq_true rfl) (by decide +kernel) (c_X11_allOf F a4 0 τ) (fun r8 τ9 => ?_)
      refine sm_seg C [(.iload_n 1, 0)] (pc' := 50) (L' := [(0, .ref 0), (1, .int a1), (2, .int a2), (3, .int a3), (4, .int a4)]) (S' := [.int a1, .int r8]) (by decide +kernel) rfl ?_
      refine sm_icmpgt 72 (off := 22) C (by decide +kernel) (by decide) (fun _ => ?_) (fun _ => ?_)
      · exact sm_sub [0, 1, 2, 3, 4] rfl (s_X11_carried_j72 F C hr (X11_carried_L27 F n) ih a1 a2 a3 a4 τ9)
      · refine sm_seg C [(.aload_n 0, 0), (.iload 4, 0), (.iconst 1, 1)] (pc' := 57) (L' := [(0, .ref 0), (1, .int a1), (2, .int a2), (3, .int a3), (4, .int a4)]) (S' := [.int 1, .int a4, .ref 0]) (by decide +kernel) rfl ?_
        refine sm_vcal [.int a4, .int 1] [] rfl C mw_X11_allOf ml_11_439 rfl (ci := 11) rfl (ltM (by decide +kernel : kdM 0 = 11) (by decide)) (by decide +kernel : kdM 0 = 11) (by decide) ⟨by decide, by decide⟩ (Nat.le_of_ble_eq_true rfl) (by decide +kernel) (c_X11_allOf F a4 1 τ9) (fun r10 τ11 => ?_)
        refine sm_seg C [(.aload_n 0, 0), (.iload_n 3, 0), (.iconst 1, 1)] (pc' := 63) (L' := [(0, .ref 0), (1, .int a1), (2, .int a2), (3, .int a3), (4, .int a4)]) (S' := [.int 1, .int a3, .ref 0, .int r10]) (by decide +kernel) rfl ?_
        refine sm_vcal [.int a3, .int 1] [.int r10] rfl C mw_X11_allOf ml_11_439 rfl (ci := 11) rfl (ltM (by decide +kernel : kdM 0 = 11) (by decide)) (by decide +kernel : kdM 0 = 11) (by decide) ⟨by decide, by decide⟩ (Nat.le_of_ble_eq_true rfl) (by decide +kernel) (c_X11_allOf F a3 1 τ11) (fun r12 τ13 => ?_)
        refine sm_icmple 72 (off := 6) C (by decide +kernel) (by decide) (fun _ => ?_) (fun _ => ?_)
        · exact sm_sub [0, 1, 2, 3, 4] rfl (s_X11_carried_j72 F C hr (X11_carried_L27 F n) ih a1 a2 a3 a4 τ13)
        · refine sm_seg C [(.iload 4, 0), (.istore_n 3, 0)] (pc' := 72) (L' := [(3, .int a4), (0, .ref 0), (1, .int a1), (2, .int a2), (4, .int a4)]) (S' := []) (by decide +kernel) rfl ?_
          exact sm_sub [1, 2, 3, 0, 4] rfl (s_X11_carried_j72 F C hr (X11_carried_L27 F n) ih a1 a2 a4 a4 τ13)
def X11_carried (F : Nat) (a1 : Int32) (a2 : Int32) (τ : Tau) : Option (Int32 × Tau) :=
  cal (X11_isIn F a1 0 200 τ) fun r1 τ2 => if r1 = 0 then (some ((-1), τ2)) else (cal (X11_isIn F a2 0 1 τ2) fun r3 τ4 => if r3 = 0 then (some ((-1), τ4)) else (X11_carried_L27 F F a1 a2 0 1 τ4))
set_option maxRecDepth 20000 in
set_option maxHeartbeats 4000000 in
theorem c_X11_carried (F : Nat) (a1 : Int32) (a2 : Int32) (τ : Tau) (r : Int32) (τ' : Tau) (h : X11_carried F a1 a2 τ = some (r, τ')) : MCi sysM yX11_carried cX11_carried 5 (some .int) 2 [.ref 0, .int a1, .int a2] τ r τ' :=
  mci_of (by decide +kernel) (Nat.le_of_ble_eq_true rfl) (fun K C hr => by
    show Sm K sysM 5 (Qi K sysM) (X11_carried F a1 a2 τ) 0 [(0, .ref 0), (1, .int a1), (2, .int a2)] [] τ
    unfold X11_carried
    refine sm_seg C [(.iload_n 1, 0), (.iconst 0, 0), (.sipush 200, 200)] (pc' := 5) (L' := [(0, .ref 0), (1, .int a1), (2, .int a2)]) (S' := [.int 200, .int 0, .int a1]) (by decide +kernel) rfl ?_
    refine sm_scal [.int a1, .int 0, .int 200] [] rfl C mw_X11_isIn ml_11_78 rfl ⟨by decide, by decide⟩ (Nat.le_of_ble_eq_true rfl) (by decide +kernel) (c_X11_isIn F a1 0 200 τ) (fun r1 τ2 => ?_)
    refine sm_ifeq 20 (off := 12) C (by decide +kernel) (by decide) (fun _ => ?_) (fun _ => ?_)
    · refine sm_seg C [(.iconst (-1), (-1))] (pc' := 21) (L' := [(0, .ref 0), (1, .int a1), (2, .int a2)]) (S' := [.int (-1)]) (by decide +kernel) rfl ?_
      exact sm_iret C hr rfl (by decide +kernel)
    · refine sm_seg C [(.iload_n 2, 0), (.iconst 0, 0), (.iconst 1, 1)] (pc' := 14) (L' := [(0, .ref 0), (1, .int a1), (2, .int a2)]) (S' := [.int 1, .int 0, .int a2]) (by decide +kernel) rfl ?_
      refine sm_scal [.int a2, .int 0, .int 1] [] rfl C mw_X11_isIn ml_11_78 rfl ⟨by decide, by decide⟩ (Nat.le_of_ble_eq_true rfl) (by decide +kernel) (c_X11_isIn F a2 0 1 τ2) (fun r3 τ4 => ?_)
      refine sm_ifne 22 (off := 5) C (by decide +kernel) (by decide) (fun _ => ?_) (fun _ => ?_)
      · refine sm_seg C [(.iconst (-1), (-1))] (pc' := 21) (L' := [(0, .ref 0), (1, .int a1), (2, .int a2)]) (S' := [.int (-1)]) (by decide +kernel) rfl ?_
        exact sm_iret C hr rfl (by decide +kernel)
      · refine sm_seg C [(.iconst 0, 0), (.istore_n 3, 0), (.iconst 1, 1), (.istore 4, 0)] (pc' := 27) (L' := [(4, .int 1), (3, .int 0), (0, .ref 0), (1, .int a1), (2, .int a2)]) (S' := []) (by decide +kernel) rfl ?_
        exact sm_sub [2, 3, 4, 1, 0] rfl (s_X11_carried_L27 F C hr F a1 a2 0 1 τ4)) h
/-! BasketEnvoysModel.tellsOne -/
def X11_tellsOne (F : Nat) (a1 : Int32) (a2 : Int32) (a3 : Int32) (τ : Tau) : Option (Int32 × Tau) :=
  ald τ 1 2244 a1 fun v1 => if v1 = a2 then (some ((-1), τ)) else (ald τ 1 2244 a1 fun v2 => ast τ 1 2244 ((a1 + 1) + v2) a3 fun τ3 => ald τ3 1 2244 a1 fun v4 => ast τ3 1 2244 a1 (v4 + 1) fun τ5 => ald τ5 1 2244 a1 fun v6 => some (v6, τ5))
set_option maxRecDepth 20000 in
set_option maxHeartbeats 4000000 in
theorem c_X11_tellsOne (F : Nat) (a1 : Int32) (a2 : Int32) (a3 : Int32) (τ : Tau) (r : Int32) (τ' : Tau) (h : X11_tellsOne F a1 a2 a3 τ = some (r, τ')) : MCi sysM yX11_tellsOne cX11_tellsOne 4 (some .int) 1 [.ref 0, .int a1, .int a2, .int a3] τ r τ' :=
  mci_of (by decide +kernel) (Nat.le_of_ble_eq_true rfl) (fun K C hr => by
    show Sm K sysM 4 (Qi K sysM) (X11_tellsOne F a1 a2 a3 τ) 0 [(0, .ref 0), (1, .int a1), (2, .int a2), (3, .int a3)] [] τ
    unfold X11_tellsOne
    refine sm_seg C [(.aload_n 0, 0)] (pc' := 1) (L' := [(0, .ref 0), (1, .int a1), (2, .int a2), (3, .int a3)]) (S' := [.ref 0]) (by decide +kernel) rfl ?_
    refine sm_getR 11 0 1 cls11 C (ltM (by decide +kernel : kdM 0 = 11) (by decide)) (by decide +kernel : kdM 0 = 11) (obM11 (by decide +kernel : kdM 0 = 11)) (by decide) (frM11_0 (by decide +kernel : kdM 0 = 11)) fl11_7 (by decide +kernel) ?_
    refine sm_seg C [(.iload_n 1, 0)] (pc' := 5) (L' := [(0, .ref 0), (1, .int a1), (2, .int a2), (3, .int a3)]) (S' := [.int a1, .ref 1]) (by decide +kernel) rfl ?_
    refine sm_ald 2244 C (ltM (krM11_0 (by decide +kernel : kdM 0 = 11)) (by decide)) (krM11_0 (by decide +kernel : kdM 0 = 11)) (nrM11_0 (by decide +kernel : kdM 0 = 11)) (by decide +kernel) (fun v1 => ?_)
    refine sm_seg C [(.iload_n 2, 0)] (pc' := 7) (L' := [(0, .ref 0), (1, .int a1), (2, .int a2), (3, .int a3)]) (S' := [.int a2, .int v1]) (by decide +kernel) rfl ?_
    refine sm_icmpne 12 (off := 5) C (by decide +kernel) (by decide) (fun _ => ?_) (fun _ => ?_)
    · refine sm_seg C [(.iconst (-1), (-1))] (pc' := 11) (L' := [(0, .ref 0), (1, .int a1), (2, .int a2), (3, .int a3)]) (S' := [.int (-1)]) (by decide +kernel) rfl ?_
      exact sm_iret C hr rfl (by decide +kernel)
    · refine sm_seg C [(.aload_n 0, 0)] (pc' := 13) (L' := [(0, .ref 0), (1, .int a1), (2, .int a2), (3, .int a3)]) (S' := [.ref 0]) (by decide +kernel) rfl ?_
      refine sm_getR 11 0 1 cls11 C (ltM (by decide +kernel : kdM 0 = 11) (by decide)) (by decide +kernel : kdM 0 = 11) (obM11 (by decide +kernel : kdM 0 = 11)) (by decide) (frM11_0 (by decide +kernel : kdM 0 = 11)) fl11_7 (by decide +kernel) ?_
      refine sm_seg C [(.iload_n 1, 0), (.iconst 1, 1), (.iadd, 0), (.aload_n 0, 0)] (pc' := 20) (L' := [(0, .ref 0), (1, .int a1), (2, .int a2), (3, .int a3)]) (S' := [.ref 0, .int (a1 + 1), .ref 1]) (by decide +kernel) rfl ?_
      refine sm_getR 11 0 1 cls11 C (ltM (by decide +kernel : kdM 0 = 11) (by decide)) (by decide +kernel : kdM 0 = 11) (obM11 (by decide +kernel : kdM 0 = 11)) (by decide) (frM11_0 (by decide +kernel : kdM 0 = 11)) fl11_7 (by decide +kernel) ?_
      refine sm_seg C [(.iload_n 1, 0)] (pc' := 24) (L' := [(0, .ref 0), (1, .int a1), (2, .int a2), (3, .int a3)]) (S' := [.int a1, .ref 1, .int (a1 + 1), .ref 1]) (by decide +kernel) rfl ?_
      refine sm_ald 2244 C (ltM (krM11_0 (by decide +kernel : kdM 0 = 11)) (by decide)) (krM11_0 (by decide +kernel : kdM 0 = 11)) (nrM11_0 (by decide +kernel : kdM 0 = 11)) (by decide +kernel) (fun v2 => ?_)
      refine sm_seg C [(.iadd, 0), (.iload_n 3, 0)] (pc' := 27) (L' := [(0, .ref 0), (1, .int a1), (2, .int a2), (3, .int a3)]) (S' := [.int a3, .int ((a1 + 1) + v2), .ref 1]) (by decide +kernel) rfl ?_
      refine sm_ast 2244 C (ltM (krM11_0 (by decide +kernel : kdM 0 = 11)) (by decide)) (krM11_0 (by decide +kernel : kdM 0 = 11)) (nrM11_0 (by decide +kernel : kdM 0 = 11)) (by decide +kernel) (fun τ3 => ?_)
      refine sm_seg C [(.aload_n 0, 0)] (pc' := 29) (L' := [(0, .ref 0), (1, .int a1), (2, .int a2), (3, .int a3)]) (S' := [.ref 0]) (by decide +kernel) rfl ?_
      refine sm_getR 11 0 1 cls11 C (ltM (by decide +kernel : kdM 0 = 11) (by decide)) (by decide +kernel : kdM 0 = 11) (obM11 (by decide +kernel : kdM 0 = 11)) (by decide) (frM11_0 (by decide +kernel : kdM 0 = 11)) fl11_7 (by decide +kernel) ?_
      refine sm_seg C [(.iload_n 1, 0), (.dup2, 0)] (pc' := 34) (L' := [(0, .ref 0), (1, .int a1), (2, .int a2), (3, .int a3)]) (S' := [.int a1, .ref 1, .int a1, .ref 1]) (by decide +kernel) rfl ?_
      refine sm_ald 2244 C (ltM (krM11_0 (by decide +kernel : kdM 0 = 11)) (by decide)) (krM11_0 (by decide +kernel : kdM 0 = 11)) (nrM11_0 (by decide +kernel : kdM 0 = 11)) (by decide +kernel) (fun v4 => ?_)
      refine sm_seg C [(.iconst 1, 1), (.iadd, 0)] (pc' := 37) (L' := [(0, .ref 0), (1, .int a1), (2, .int a2), (3, .int a3)]) (S' := [.int (v4 + 1), .int a1, .ref 1]) (by decide +kernel) rfl ?_
      refine sm_ast 2244 C (ltM (krM11_0 (by decide +kernel : kdM 0 = 11)) (by decide)) (krM11_0 (by decide +kernel : kdM 0 = 11)) (nrM11_0 (by decide +kernel : kdM 0 = 11)) (by decide +kernel) (fun τ5 => ?_)
      refine sm_seg C [(.aload_n 0, 0)] (pc' := 39) (L' := [(0, .ref 0), (1, .int a1), (2, .int a2), (3, .int a3)]) (S' := [.ref 0]) (by decide +kernel) rfl ?_
      refine sm_getR 11 0 1 cls11 C (ltM (by decide +kernel : kdM 0 = 11) (by decide)) (by decide +kernel : kdM 0 = 11) (obM11 (by decide +kernel : kdM 0 = 11)) (by decide) (frM11_0 (by decide +kernel : kdM 0 = 11)) fl11_7 (by decide +kernel) ?_
      refine sm_seg C [(.iload_n 1, 0)] (pc' := 43) (L' := [(0, .ref 0), (1, .int a1), (2, .int a2), (3, .int a3)]) (S' := [.int a1, .ref 1]) (by decide +kernel) rfl ?_
      refine sm_ald 2244 C (ltM (krM11_0 (by decide +kernel : kdM 0 = 11)) (by decide)) (krM11_0 (by decide +kernel : kdM 0 = 11)) (nrM11_0 (by decide +kernel : kdM 0 = 11)) (by decide +kernel) (fun v6 => ?_)
      exact sm_iret C hr rfl (by decide +kernel)) h
/-! BasketEnvoysModel.cloth -/
def X11_cloth (F : Nat) (a1 : Int32) (a2 : Int32) (τ : Tau) : Option (Int32 × Tau) :=
  cal (X11_isIn F a1 0 1 τ) fun r1 τ2 => if r1 = 0 then (some ((-1), τ2)) else (if a2 = (-1) then (cal (X11_endsRow F (703 + (13 * a1)) τ2) fun r3 τ4 => some (r3, τ4)) else (cal (X11_isIn F a2 0 9 τ2) fun r5 τ6 => if r5 = 0 then (some ((-1), τ6)) else (cal (X11_tellsOne F (703 + (13 * a1)) 12 a2 τ6) fun r7 τ8 => some (r7, τ8))))
set_option maxRecDepth 20000 in
set_option maxHeartbeats 4000000 in
theorem c_X11_cloth (F : Nat) (a1 : Int32) (a2 : Int32) (τ : Tau) (r : Int32) (τ' : Tau) (h : X11_cloth F a1 a2 τ = some (r, τ')) : MCi sysM yX11_cloth cX11_cloth 3 (some .int) 2 [.ref 0, .int a1, .int a2] τ r τ' :=
  mci_of (by decide +kernel) (Nat.le_of_ble_eq_true rfl) (fun K C hr => by
    show Sm K sysM 3 (Qi K sysM) (X11_cloth F a1 a2 τ) 0 [(0, .ref 0), (1, .int a1), (2, .int a2)] [] τ
    unfold X11_cloth
    refine sm_seg C [(.iload_n 1, 0), (.iconst 0, 0), (.iconst 1, 1)] (pc' := 3) (L' := [(0, .ref 0), (1, .int a1), (2, .int a2)]) (S' := [.int 1, .int 0, .int a1]) (by decide +kernel) rfl ?_
    refine sm_scal [.int a1, .int 0, .int 1] [] rfl C mw_X11_isIn ml_11_78 rfl ⟨by decide, by decide⟩ (Nat.le_of_ble_eq_true rfl) (by decide +kernel) (c_X11_isIn F a1 0 1 τ) (fun r1 τ2 => ?_)
    refine sm_ifne 11 (off := 5) C (by decide +kernel) (by decide) (fun _ => ?_) (fun _ => ?_)
    · refine sm_seg C [(.iconst (-1), (-1))] (pc' := 10) (L' := [(0, .ref 0), (1, .int a1), (2, .int a2)]) (S' := [.int (-1)]) (by decide +kernel) rfl ?_
      exact sm_iret C hr rfl (by decide +kernel)
    · refine sm_seg C [(.iload_n 2, 0), (.iconst (-1), (-1))] (pc' := 13) (L' := [(0, .ref 0), (1, .int a1), (2, .int a2)]) (S' := [.int (-1), .int a2]) (by decide +kernel) rfl ?_
      refine sm_icmpne 31 (off := 18) C (by decide +kernel) (by decide) (fun _ => ?_) (fun _ => ?_)
      · refine sm_seg C [(.aload_n 0, 0), (.sipush 703, 703), (.bipush 13, 13), (.iload_n 1, 0), (.imul, 0), (.iadd, 0)] (pc' := 25) (L' := [(0, .ref 0), (1, .int a1), (2, .int a2)]) (S' := [.int (703 + (13 * a1)), .ref 0]) (by decide +kernel) rfl ?_
        refine sm_vcal [.int (703 + (13 * a1))] [] rfl C mw_X11_endsRow ml_11_388 rfl (ci := 11) rfl (ltM (by decide +kernel : kdM 0 = 11) (by decide)) (by decide +kernel : kdM 0 = 11) (by decide) ⟨by decide, by decide⟩ (Nat.le_of_ble_eq_true rfl) (by decide +kernel) (c_X11_endsRow F (703 + (13 * a1)) τ2) (fun r3 τ4 => ?_)
        refine sm_seg C [(.goto 32, 0)] (pc' := 60) (L' := [(0, .ref 0), (1, .int a1), (2, .int a2)]) (S' := [.int r3]) (by decide +kernel) rfl ?_
        exact sm_iret C hr rfl (by decide +kernel)
      · refine sm_seg C [(.iload_n 2, 0), (.iconst 0, 0), (.bipush 9, 9)] (pc' := 35) (L' := [(0, .ref 0), (1, .int a1), (2, .int a2)]) (S' := [.int 9, .int 0, .int a2]) (by decide +kernel) rfl ?_
        refine sm_scal [.int a2, .int 0, .int 9] [] rfl C mw_X11_isIn ml_11_78 rfl ⟨by decide, by decide⟩ (Nat.le_of_ble_eq_true rfl) (by decide +kernel) (c_X11_isIn F a2 0 9 τ2) (fun r5 τ6 => ?_)
        refine sm_ifeq 59 (off := 21) C (by decide +kernel) (by decide) (fun _ => ?_) (fun _ => ?_)
        · refine sm_seg C [(.iconst (-1), (-1))] (pc' := 60) (L' := [(0, .ref 0), (1, .int a1), (2, .int a2)]) (S' := [.int (-1)]) (by decide +kernel) rfl ?_
          exact sm_iret C hr rfl (by decide +kernel)
        · refine sm_seg C [(.aload_n 0, 0), (.sipush 703, 703), (.bipush 13, 13), (.iload_n 1, 0), (.imul, 0), (.iadd, 0), (.bipush 12, 12), (.iload_n 2, 0)] (pc' := 53) (L' := [(0, .ref 0), (1, .int a1), (2, .int a2)]) (S' := [.int a2, .int 12, .int (703 + (13 * a1)), .ref 0]) (by decide +kernel) rfl ?_
          refine sm_vcal [.int (703 + (13 * a1)), .int 12, .int a2] [] rfl C mw_X11_tellsOne ml_11_391 rfl (ci := 11) rfl (ltM (by decide +kernel : kdM 0 = 11) (by decide)) (by decide +kernel : kdM 0 = 11) (by decide) ⟨by decide, by decide⟩ (Nat.le_of_ble_eq_true rfl) (by decide +kernel) (c_X11_tellsOne F (703 + (13 * a1)) 12 a2 τ6) (fun r7 τ8 => ?_)
          refine sm_seg C [(.goto 4, 0)] (pc' := 60) (L' := [(0, .ref 0), (1, .int a1), (2, .int a2)]) (S' := [.int r7]) (by decide +kernel) rfl ?_
          exact sm_iret C hr rfl (by decide +kernel)) h
/-! BasketEnvoysModel.layCloths -/
def X11_layCloths_j188 (F : Nat) (self2 : Int32 → Tau → Option (Int32 × Tau)) (self16 : Int32 → Int32 → Tau → Option (Int32 × Tau)) (a1 : Int32) (a2 : Int32) (τ : Tau) : Option (Int32 × Tau) :=
  self16 a1 (a2 + 1) τ
theorem s_X11_layCloths_j188 (F : Nat) {K : Ctx} (C : Cx K sysM RX11 cX11_layCloths 5 2) (hr : Rt K none) (self2 : Int32 → Tau → Option (Int32 × Tau)) (self16 : Int32 → Int32 → Tau → Option (Int32 × Tau)) (ih2 : ∀ (a1 : Int32) (τ : Tau), Sm K sysM 5 (Qv K sysM) (self2 a1 τ) 2 [(0, .ref 0), (1, .int a1)] [] τ) (ih16 : ∀ (a1 : Int32) (a2 : Int32) (τ : Tau), Sm K sysM 5 (Qv K sysM) (self16 a1 a2 τ) 16 [(0, .ref 0), (1, .int a1), (2, .int a2)] [] τ) (a1 : Int32) (a2 : Int32) (τ : Tau) : Sm K sysM 5 (Qv K sysM) (X11_layCloths_j188 F self2 self16 a1 a2 τ) 188 [(0, .ref 0), (1, .int a1), (2, .int a2)] [] τ := by
  unfold X11_layCloths_j188
  refine sm_seg C [(.iinc 2 1, 1), (.goto (-175), 0)] (pc' := 16) (L' := [(2, .int (a2 + 1)), (0, .ref 0), (1, .int a1)]) (S' := []) (by decide +kernel) rfl ?_
  exact sm_sub [1, 2, 0] rfl (ih16 a1 (a2 + 1) τ)
def X11_layCloths_j161 (F : Nat) (self2 : Int32 → Tau → Option (Int32 × Tau)) (self16 : Int32 → Int32 → Tau → Option (Int32 × Tau)) (a1 : Int32) (a2 : Int32) (a3 : Int32) (z0 : Int32) (z1 : Int32) (z2 : Int32) (τ : Tau) : Option (Int32 × Tau) :=
  ald τ 18 169 (a3 - 13) fun v13 => ald τ 18 169 (a3 - 1) fun v14 => cal (X11_lesser F v13 v14 τ) fun r15 τ16 => cal (X11_lesser F (z1 + z0) (1 + r15) τ16) fun r17 τ18 => ast τ18 18 169 z2 r17 fun τ19 => X11_layCloths_j188 F self2 self16 a1 a2 τ19
theorem s_X11_layCloths_j161 (F : Nat) {K : Ctx} (C : Cx K sysM RX11 cX11_layCloths 5 2) (hr : Rt K none) (self2 : Int32 → Tau → Option (Int32 × Tau)) (self16 : Int32 → Int32 → Tau → Option (Int32 × Tau)) (ih2 : ∀ (a1 : Int32) (τ : Tau), Sm K sysM 5 (Qv K sysM) (self2 a1 τ) 2 [(0, .ref 0), (1, .int a1)] [] τ) (ih16 : ∀ (a1 : Int32) (a2 : Int32) (τ : Tau), Sm K sysM 5 (Qv K sysM) (self16 a1 a2 τ) 16 [(0, .ref 0), (1, .int a1), (2, .int a2)] [] τ) (a1 : Int32) (a2 : Int32) (a3 : Int32) (z0 : Int32) (z1 : Int32) (z2 : Int32) (τ : Tau) : Sm K sysM 5 (Qv K sysM) (X11_layCloths_j161 F self2 self16 a1 a2 a3 z0 z1 z2 τ) 161 [(0, .ref 0), (1, .int a1), (2, .int a2), (3, .int a3)] [.int z0, .int z1, .int z2, .ref 18] τ := by
  unfold X11_layCloths_j161
  refine sm_seg C [(.iadd, 0), (.iconst 1, 1), (.aload_n 0, 0)] (pc' := 164) (L' := [(0, .ref 0), (1, .int a1), (2, .int a2), (3, .int a3)]) (S' := [.ref 0, .int 1, .int (z1 + z0), .int z2, .ref 18]) (by decide +kernel) rfl ?_
  refine sm_getR 11 34 18 cls11 C (ltM (by decide +kernel : kdM 0 = 11) (by decide)) (by decide +kernel : kdM 0 = 11) (obM11 (by decide +kernel : kdM 0 = 11)) (by decide) (frM11_34 (by decide +kernel : kdM 0 = 11)) fl11_66 (by decide +kernel) ?_
  refine sm_seg C [(.iload_n 3, 0), (.bipush 13, 13), (.isub, 0)] (pc' := 171) (L' := [(0, .ref 0), (1, .int a1), (2, .int a2), (3, .int a3)]) (S' := [.int (a3 - 13), .ref 18, .int 1, .int (z1 + z0), .int z2, .ref 18]) (by decide +kernel) rfl ?_
  refine sm_ald 169 C (ltM (krM11_34 (by decide +kernel : kdM 0 = 11)) (by decide)) (krM11_34 (by decide +kernel : kdM 0 = 11)) (nrM11_34 (by decide +kernel : kdM 0 = 11)) (by decide +kernel) (fun v13 => ?_)
  refine sm_seg C [(.aload_n 0, 0)] (pc' := 173) (L' := [(0, .ref 0), (1, .int a1), (2, .int a2), (3, .int a3)]) (S' := [.ref 0, .int v13, .int 1, .int (z1 + z0), .int z2, .ref 18]) (by decide +kernel) rfl ?_
  refine sm_getR 11 34 18 cls11 C (ltM (by decide +kernel : kdM 0 = 11) (by decide)) (by decide +kernel : kdM 0 = 11) (obM11 (by decide +kernel : kdM 0 = 11)) (by decide) (frM11_34 (by decide +kernel : kdM 0 = 11)) fl11_66 (by decide +kernel) ?_
  refine sm_seg C [(.iload_n 3, 0), (.iconst 1, 1), (.isub, 0)] (pc' := 179) (L' := [(0, .ref 0), (1, .int a1), (2, .int a2), (3, .int a3)]) (S' := [.int (a3 - 1), .ref 18, .int v13, .int 1, .int (z1 + z0), .int z2, .ref 18]) (by decide +kernel) rfl ?_
  refine sm_ald 169 C (ltM (krM11_34 (by decide +kernel : kdM 0 = 11)) (by decide)) (krM11_34 (by decide +kernel : kdM 0 = 11)) (nrM11_34 (by decide +kernel : kdM 0 = 11)) (by decide +kernel) (fun v14 => ?_)
  refine sm_scal [.int v13, .int v14] [.int 1, .int (z1 + z0), .int z2, .ref 18] rfl C mw_X11_lesser ml_11_303 rfl ⟨by decide, by decide⟩ (Nat.le_of_ble_eq_true rfl) (by decide +kernel) (c_X11_lesser F v13 v14 τ) (fun r15 τ16 => ?_)
  refine sm_seg C [(.iadd, 0)] (pc' := 184) (L' := [(0, .ref 0), (1, .int a1), (2, .int a2), (3, .int a3)]) (S' := [.int (1 + r15), .int (z1 + z0), .int z2, .ref 18]) (by decide +kernel) rfl ?_
  refine sm_scal [.int (z1 + z0), .int (1 + r15)] [.int z2, .ref 18] rfl C mw_X11_lesser ml_11_303 rfl ⟨by decide, by decide⟩ (Nat.le_of_ble_eq_true rfl) (by decide +kernel) (c_X11_lesser F (z1 + z0) (1 + r15) τ16) (fun r17 τ18 => ?_)
  refine sm_ast 169 C (ltM (krM11_34 (by decide +kernel : kdM 0 = 11)) (by decide)) (krM11_34 (by decide +kernel : kdM 0 = 11)) (nrM11_34 (by decide +kernel : kdM 0 = 11)) (by decide +kernel) (fun τ19 => ?_)
  exact sm_sub [0, 1, 2] rfl (s_X11_layCloths_j188 F C hr self2 self16 ih2 ih16 a1 a2 τ19)
def X11_layCloths_j136 (F : Nat) (self2 : Int32 → Tau → Option (Int32 × Tau)) (self16 : Int32 → Int32 → Tau → Option (Int32 × Tau)) (a1 : Int32) (a2 : Int32) (a3 : Int32) (a4 : Int32) (z0 : Int32) (z1 : Int32) (τ : Tau) : Option (Int32 × Tau) :=
  ast τ 17 169 z1 z0 fun τ11 => ald τ11 18 169 (a3 - 14) fun v12 => if a4 = 0 then (X11_layCloths_j161 F self2 self16 a1 a2 a3 1 v12 a3 τ11) else (X11_layCloths_j161 F self2 self16 a1 a2 a3 0 v12 a3 τ11)
theorem s_X11_layCloths_j136 (F : Nat) {K : Ctx} (C : Cx K sysM RX11 cX11_layCloths 5 2) (hr : Rt K none) (self2 : Int32 → Tau → Option (Int32 × Tau)) (self16 : Int32 → Int32 → Tau → Option (Int32 × Tau)) (ih2 : ∀ (a1 : Int32) (τ : Tau), Sm K sysM 5 (Qv K sysM) (self2 a1 τ) 2 [(0, .ref 0), (1, .int a1)] [] τ) (ih16 : ∀ (a1 : Int32) (a2 : Int32) (τ : Tau), Sm K sysM 5 (Qv K sysM) (self16 a1 a2 τ) 16 [(0, .ref 0), (1, .int a1), (2, .int a2)] [] τ) (a1 : Int32) (a2 : Int32) (a3 : Int32) (a4 : Int32) (z0 : Int32) (z1 : Int32) (τ : Tau) : Sm K sysM 5 (Qv K sysM) (X11_layCloths_j136 F self2 self16 a1 a2 a3 a4 z0 z1 τ) 136 [(0, .ref 0), (1, .int a1), (2, .int a2), (3, .int a3), (4, .int a4)] [.int z0, .int z1, .ref 17] τ := by
  unfold X11_layCloths_j136
  refine sm_ast 169 C (ltM (krM11_33 (by decide +kernel : kdM 0 = 11)) (by decide)) (krM11_33 (by decide +kernel : kdM 0 = 11)) (nrM11_33 (by decide +kernel : kdM 0 = 11)) (by decide +kernel) (fun τ11 => ?_)
  refine sm_seg C [(.aload_n 0, 0)] (pc' := 138) (L' := [(0, .ref 0), (1, .int a1), (2, .int a2), (3, .int a3), (4, .int a4)]) (S' := [.ref 0]) (by decide +kernel) rfl ?_
  refine sm_getR 11 34 18 cls11 C (ltM (by decide +kernel : kdM 0 = 11) (by decide)) (by decide +kernel : kdM 0 = 11) (obM11 (by decide +kernel : kdM 0 = 11)) (by decide) (frM11_34 (by decide +kernel : kdM 0 = 11)) fl11_66 (by decide +kernel) ?_
  refine sm_seg C [(.iload_n 3, 0), (.aload_n 0, 0)] (pc' := 143) (L' := [(0, .ref 0), (1, .int a1), (2, .int a2), (3, .int a3), (4, .int a4)]) (S' := [.ref 0, .int a3, .ref 18]) (by decide +kernel) rfl ?_
  refine sm_getR 11 34 18 cls11 C (ltM (by decide +kernel : kdM 0 = 11) (by decide)) (by decide +kernel : kdM 0 = 11) (obM11 (by decide +kernel : kdM 0 = 11)) (by decide) (frM11_34 (by decide +kernel : kdM 0 = 11)) fl11_66 (by decide +kernel) ?_
  refine sm_seg C [(.iload_n 3, 0), (.bipush 14, 14), (.isub, 0)] (pc' := 150) (L' := [(0, .ref 0), (1, .int a1), (2, .int a2), (3, .int a3), (4, .int a4)]) (S' := [.int (a3 - 14), .ref 18, .int a3, .ref 18]) (by decide +kernel) rfl ?_
  refine sm_ald 169 C (ltM (krM11_34 (by decide +kernel : kdM 0 = 11)) (by decide)) (krM11_34 (by decide +kernel : kdM 0 = 11)) (nrM11_34 (by decide +kernel : kdM 0 = 11)) (by decide +kernel) (fun v12 => ?_)
  refine sm_seg C [(.iload 4, 0)] (pc' := 153) (L' := [(0, .ref 0), (1, .int a1), (2, .int a2), (3, .int a3), (4, .int a4)]) (S' := [.int a4, .int v12, .int a3, .ref 18]) (by decide +kernel) rfl ?_
  refine sm_ifeq 160 (off := 7) C (by decide +kernel) (by decide) (fun _ => ?_) (fun _ => ?_)
  · refine sm_seg C [(.iconst 1, 1)] (pc' := 161) (L' := [(0, .ref 0), (1, .int a1), (2, .int a2), (3, .int a3), (4, .int a4)]) (S' := [.int 1, .int v12, .int a3, .ref 18]) (by decide +kernel) rfl ?_
    exact sm_sub [0, 1, 2, 3] rfl (s_X11_layCloths_j161 F C hr self2 self16 ih2 ih16 a1 a2 a3 1 v12 a3 τ11)
  · refine sm_seg C [(.iconst 0, 0), (.goto 4, 0)] (pc' := 161) (L' := [(0, .ref 0), (1, .int a1), (2, .int a2), (3, .int a3), (4, .int a4)]) (S' := [.int 0, .int v12, .int a3, .ref 18]) (by decide +kernel) rfl ?_
    exact sm_sub [0, 1, 2, 3] rfl (s_X11_layCloths_j161 F C hr self2 self16 ih2 ih16 a1 a2 a3 0 v12 a3 τ11)
def X11_layCloths_j90 (F : Nat) (self2 : Int32 → Tau → Option (Int32 × Tau)) (self16 : Int32 → Int32 → Tau → Option (Int32 × Tau)) (a1 : Int32) (a2 : Int32) (a3 : Int32) (z0 : Int32) (τ : Tau) : Option (Int32 × Tau) :=
  if z0 = 0 then (ald τ 17 169 (a3 - 13) fun v7 => ald τ 17 169 (a3 - 1) fun v8 => cal (X11_greater F v7 v8 τ) fun r9 τ10 => X11_layCloths_j136 F self2 self16 a1 a2 a3 z0 r9 a3 τ10) else (ald τ 17 169 (a3 - 14) fun v20 => X11_layCloths_j136 F self2 self16 a1 a2 a3 z0 (v20 + 1) a3 τ)
theorem s_X11_layCloths_j90 (F : Nat) {K : Ctx} (C : Cx K sysM RX11 cX11_layCloths 5 2) (hr : Rt K none) (self2 : Int32 → Tau → Option (Int32 × Tau)) (self16 : Int32 → Int32 → Tau → Option (Int32 × Tau)) (ih2 : ∀ (a1 : Int32) (τ : Tau), Sm K sysM 5 (Qv K sysM) (self2 a1 τ) 2 [(0, .ref 0), (1, .int a1)] [] τ) (ih16 : ∀ (a1 : Int32) (a2 : Int32) (τ : Tau), Sm K sysM 5 (Qv K sysM) (self16 a1 a2 τ) 16 [(0, .ref 0), (1, .int a1), (2, .int a2)] [] τ) (a1 : Int32) (a2 : Int32) (a3 : Int32) (z0 : Int32) (τ : Tau) : Sm K sysM 5 (Qv K sysM) (X11_layCloths_j90 F self2 self16 a1 a2 a3 z0 τ) 90 [(0, .ref 0), (1, .int a1), (2, .int a2), (3, .int a3)] [.int z0] τ := by
  unfold X11_layCloths_j90
  refine sm_seg C [(.istore 4, 0), (.aload_n 0, 0)] (pc' := 93) (L' := [(4, .int z0), (0, .ref 0), (1, .int a1), (2, .int a2), (3, .int a3)]) (S' := [.ref 0]) (by decide +kernel) rfl ?_
  refine sm_getR 11 33 17 cls11 C (ltM (by decide +kernel : kdM 0 = 11) (by decide)) (by decide +kernel : kdM 0 = 11) (obM11 (by decide +kernel : kdM 0 = 11)) (by decide) (frM11_33 (by decide +kernel : kdM 0 = 11)) fl11_63 (by decide +kernel) ?_
  refine sm_seg C [(.iload_n 3, 0), (.iload 4, 0)] (pc' := 99) (L' := [(4, .int z0), (0, .ref 0), (1, .int a1), (2, .int a2), (3, .int a3)]) (S' := [.int z0, .int a3, .ref 17]) (by decide +kernel) rfl ?_
  refine sm_ifeq 116 (off := 17) C (by decide +kernel) (by decide) (fun _ => ?_) (fun _ => ?_)
  · refine sm_seg C [(.aload_n 0, 0)] (pc' := 117) (L' := [(4, .int z0), (0, .ref 0), (1, .int a1), (2, .int a2), (3, .int a3)]) (S' := [.ref 0, .int a3, .ref 17]) (by decide +kernel) rfl ?_
    refine sm_getR 11 33 17 cls11 C (ltM (by decide +kernel : kdM 0 = 11) (by decide)) (by decide +kernel : kdM 0 = 11) (obM11 (by decide +kernel : kdM 0 = 11)) (by decide) (frM11_33 (by decide +kernel : kdM 0 = 11)) fl11_63 (by decide +kernel) ?_
    refine sm_seg C [(.iload_n 3, 0), (.bipush 13, 13), (.isub, 0)] (pc' := 124) (L' := [(4, .int z0), (0, .ref 0), (1, .int a1), (2, .int a2), (3, .int a3)]) (S' := [.int (a3 - 13), .ref 17, .int a3, .ref 17]) (by decide +kernel) rfl ?_
    refine sm_ald 169 C (ltM (krM11_33 (by decide +kernel : kdM 0 = 11)) (by decide)) (krM11_33 (by decide +kernel : kdM 0 = 11)) (nrM11_33 (by decide +kernel : kdM 0 = 11)) (by decide +kernel) (fun v7 => ?_)
    refine sm_seg C [(.aload_n 0, 0)] (pc' := 126) (L' := [(4, .int z0), (0, .ref 0), (1, .int a1), (2, .int a2), (3, .int a3)]) (S' := [.ref 0, .int v7, .int a3, .ref 17]) (by decide +kernel) rfl ?_
    refine sm_getR 11 33 17 cls11 C (ltM (by decide +kernel : kdM 0 = 11) (by decide)) (by decide +kernel : kdM 0 = 11) (obM11 (by decide +kernel : kdM 0 = 11)) (by decide) (frM11_33 (by decide +kernel : kdM 0 = 11)) fl11_63 (by decide +kernel) ?_
    refine sm_seg C [(.iload_n 3, 0), (.iconst 1, 1), (.isub, 0)] (pc' := 132) (L' := [(4, .int z0), (0, .ref 0), (1, .int a1), (2, .int a2), (3, .int a3)]) (S' := [.int (a3 - 1), .ref 17, .int v7, .int a3, .ref 17]) (by decide +kernel) rfl ?_
    refine sm_ald 169 C (ltM (krM11_33 (by decide +kernel : kdM 0 = 11)) (by decide)) (krM11_33 (by decide +kernel : kdM 0 = 11)) (nrM11_33 (by decide +kernel : kdM 0 = 11)) (by decide +kernel) (fun v8 => ?_)
    refine sm_scal [.int v7, .int v8] [.int a3, .ref 17] rfl C mw_X11_greater ml_11_306 rfl ⟨by decide, by decide⟩ (Nat.le_of_ble_eq_true rfl) (by decide +kernel) (c_X11_greater F v7 v8 τ) (fun r9 τ10 => ?_)
    exact sm_sub [1, 2, 3, 4, 0] rfl (s_X11_layCloths_j136 F C hr self2 self16 ih2 ih16 a1 a2 a3 z0 r9 a3 τ10)
  · refine sm_seg C [(.aload_n 0, 0)] (pc' := 103) (L' := [(4, .int z0), (0, .ref 0), (1, .int a1), (2, .int a2), (3, .int a3)]) (S' := [.ref 0, .int a3, .ref 17]) (by decide +kernel) rfl ?_
    refine sm_getR 11 33 17 cls11 C (ltM (by decide +kernel : kdM 0 = 11) (by decide)) (by decide +kernel : kdM 0 = 11) (obM11 (by decide +kernel : kdM 0 = 11)) (by decide) (frM11_33 (by decide +kernel : kdM 0 = 11)) fl11_63 (by decide +kernel) ?_
    refine sm_seg C [(.iload_n 3, 0), (.bipush 14, 14), (.isub, 0)] (pc' := 110) (L' := [(4, .int z0), (0, .ref 0), (1, .int a1), (2, .int a2), (3, .int a3)]) (S' := [.int (a3 - 14), .ref 17, .int a3, .ref 17]) (by decide +kernel) rfl ?_
    refine sm_ald 169 C (ltM (krM11_33 (by decide +kernel : kdM 0 = 11)) (by decide)) (krM11_33 (by decide +kernel : kdM 0 = 11)) (nrM11_33 (by decide +kernel : kdM 0 = 11)) (by decide +kernel) (fun v20 => ?_)
    refine sm_seg C [(.iconst 1, 1), (.iadd, 0), (.goto 23, 0)] (pc' := 136) (L' := [(4, .int z0), (0, .ref 0), (1, .int a1), (2, .int a2), (3, .int a3)]) (S' := [.int (v20 + 1), .int a3, .ref 17]) (by decide +kernel) rfl ?_
    exact sm_sub [1, 2, 3, 4, 0] rfl (s_X11_layCloths_j136 F C hr self2 self16 ih2 ih16 a1 a2 a3 z0 (v20 + 1) a3 τ)
def X11_layCloths_L16 (F : Nat) (self2 : Int32 → Tau → Option (Int32 × Tau)) : Nat → Int32 → Int32 → Tau → Option (Int32 × Tau)
  | 0, _, _, _ => none
  | n + 1, a1, a2, τ =>
    ald τ 1 2244 716 fun v2 => if v2 < a2 then (self2 (a1 + 1) τ) else (ast τ 17 169 ((13 * a1) + a2) 0 fun τ3 => ast τ3 18 169 ((13 * a1) + a2) (a1 + a2) fun τ4 => if a1 = 0 then (X11_layCloths_j188 F self2 (X11_layCloths_L16 F self2 n) a1 a2 τ4) else (if a2 = 0 then (X11_layCloths_j188 F self2 (X11_layCloths_L16 F self2 n) a1 a2 τ4) else (ald τ4 1 2244 (703 + a1) fun v5 => ald τ4 1 2244 (716 + a2) fun v6 => if v5 = v6 then (X11_layCloths_j90 F self2 (X11_layCloths_L16 F self2 n) a1 a2 ((13 * a1) + a2) 1 τ4) else (X11_layCloths_j90 F self2 (X11_layCloths_L16 F self2 n) a1 a2 ((13 * a1) + a2) 0 τ4))))
theorem s_X11_layCloths_L16 (F : Nat) {K : Ctx} (C : Cx K sysM RX11 cX11_layCloths 5 2) (hr : Rt K none) (self2 : Int32 → Tau → Option (Int32 × Tau)) (ih2 : ∀ (a1 : Int32) (τ : Tau), Sm K sysM 5 (Qv K sysM) (self2 a1 τ) 2 [(0, .ref 0), (1, .int a1)] [] τ) : ∀ (n : Nat) (a1 : Int32) (a2 : Int32) (τ : Tau), Sm K sysM 5 (Qv K sysM) (X11_layCloths_L16 F self2 n a1 a2 τ) 16 [(0, .ref 0), (1, .int a1), (2, .int a2)] [] τ := by
  intro n
  induction n with
  | zero => intro a1 a2 τ; exact sm_none
  | succ n ih =>
    intro a1 a2 τ
    rw [X11_layCloths_L16]
    refine sm_seg C [(.iload_n 2, 0), (.aload_n 0, 0)] (pc' := 18) (L' := [(0, .ref 0), (1, .int a1), (2, .int a2)]) (S' := [.ref 0, .int a2]) (by decide +kernel) rfl ?_
    refine sm_getR 11 0 1 cls11 C (ltM (by decide +kernel : kdM 0 = 11) (by decide)) (by decide +kernel : kdM 0 = 11) (obM11 (by decide +kernel : kdM 0 = 11)) (by decide) (frM11_0 (by decide +kernel : kdM 0 = 11)) fl11_7 (by decide +kernel) ?_
    refine sm_seg C [(.sipush 716, 716)] (pc' := 24) (L' := [(0, .ref 0), (1, .int a1), (2, .int a2)]) (S' := [.int 716, .ref 1, .int a2]) (by decide +kernel) rfl ?_
    refine sm_ald 2244 C (ltM (krM11_0 (by decide +kernel : kdM 0 = 11)) (by decide)) (krM11_0 (by decide +kernel : kdM 0 = 11)) (nrM11_0 (by decide +kernel : kdM 0 = 11)) (by decide +kernel) (fun v2 => ?_)
    refine sm_icmpgt 194 (off := 169) C (by decide +kernel) (by decide) (fun _ => ?_) (fun _ => ?_)
    · refine sm_seg C [(.iinc 1 1, 1), (.goto (-195), 0)] (pc' := 2) (L' := [(1, .int (a1 + 1)), (0, .ref 0), (2, .int a2)]) (S' := []) (by decide +kernel) rfl ?_
      exact sm_sub [1, 0] rfl (ih2 (a1 + 1) τ)
    · refine sm_seg C [(.bipush 13, 13), (.iload_n 1, 0), (.imul, 0), (.iload_n 2, 0), (.iadd, 0), (.istore_n 3, 0), (.aload_n 0, 0)] (pc' := 36) (L' := [(3, .int ((13 * a1) + a2)), (0, .ref 0), (1, .int a1), (2, .int a2)]) (S' := [.ref 0]) (by decide +kernel) rfl ?_
      refine sm_getR 11 33 17 cls11 C (ltM (by decide +kernel : kdM 0 = 11) (by decide)) (by decide +kernel : kdM 0 = 11) (obM11 (by decide +kernel : kdM 0 = 11)) (by decide) (frM11_33 (by decide +kernel : kdM 0 = 11)) fl11_63 (by decide +kernel) ?_
      refine sm_seg C [(.iload_n 3, 0), (.iconst 0, 0)] (pc' := 41) (L' := [(3, .int ((13 * a1) + a2)), (0, .ref 0), (1, .int a1), (2, .int a2)]) (S' := [.int 0, .int ((13 * a1) + a2), .ref 17]) (by decide +kernel) rfl ?_
      refine sm_ast 169 C (ltM (krM11_33 (by decide +kernel : kdM 0 = 11)) (by decide)) (krM11_33 (by decide +kernel : kdM 0 = 11)) (nrM11_33 (by decide +kernel : kdM 0 = 11)) (by decide +kernel) (fun τ3 => ?_)
      refine sm_seg C [(.aload_n 0, 0)] (pc' := 43) (L' := [(3, .int ((13 * a1) + a2)), (0, .ref 0), (1, .int a1), (2, .int a2)]) (S' := [.ref 0]) (by decide +kernel) rfl ?_
      refine sm_getR 11 34 18 cls11 C (ltM (by decide +kernel : kdM 0 = 11) (by decide)) (by decide +kernel : kdM 0 = 11) (obM11 (by decide +kernel : kdM 0 = 11)) (by decide) (frM11_34 (by decide +kernel : kdM 0 = 11)) fl11_66 (by decide +kernel) ?_
      refine sm_seg C [(.iload_n 3, 0), (.iload_n 1, 0), (.iload_n 2, 0), (.iadd, 0)] (pc' := 50) (L' := [(3, .int ((13 * a1) + a2)), (0, .ref 0), (1, .int a1), (2, .int a2)]) (S' := [.int (a1 + a2), .int ((13 * a1) + a2), .ref 18]) (by decide +kernel) rfl ?_
      refine sm_ast 169 C (ltM (krM11_34 (by decide +kernel : kdM 0 = 11)) (by decide)) (krM11_34 (by decide +kernel : kdM 0 = 11)) (nrM11_34 (by decide +kernel : kdM 0 = 11)) (by decide +kernel) (fun τ4 => ?_)
      refine sm_seg C [(.iload_n 1, 0)] (pc' := 52) (L' := [(3, .int ((13 * a1) + a2)), (0, .ref 0), (1, .int a1), (2, .int a2)]) (S' := [.int a1]) (by decide +kernel) rfl ?_
      refine sm_ifeq 188 (off := 136) C (by decide +kernel) (by decide) (fun _ => ?_) (fun _ => ?_)
      · exact sm_sub [1, 2, 3] rfl (s_X11_layCloths_j188 F C hr self2 (X11_layCloths_L16 F self2 n) ih2 ih a1 a2 τ4)
      · refine sm_seg C [(.iload_n 2, 0)] (pc' := 56) (L' := [(3, .int ((13 * a1) + a2)), (0, .ref 0), (1, .int a1), (2, .int a2)]) (S' := [.int a2]) (by decide +kernel) rfl ?_
        refine sm_ifne 62 (off := 6) C (by decide +kernel) (by decide) (fun _ => ?_) (fun _ => ?_)
        · refine sm_seg C [(.goto 129, 0)] (pc' := 188) (L' := [(3, .int ((13 * a1) + a2)), (0, .ref 0), (1, .int a1), (2, .int a2)]) (S' := []) (by decide +kernel) rfl ?_
          exact sm_sub [1, 2, 3] rfl (s_X11_layCloths_j188 F C hr self2 (X11_layCloths_L16 F self2 n) ih2 ih a1 a2 τ4)
        · refine sm_seg C [(.aload_n 0, 0)] (pc' := 63) (L' := [(3, .int ((13 * a1) + a2)), (0, .ref 0), (1, .int a1), (2, .int a2)]) (S' := [.ref 0]) (by decide +kernel) rfl ?_
          refine sm_getR 11 0 1 cls11 C (ltM (by decide +kernel : kdM 0 = 11) (by decide)) (by decide +kernel : kdM 0 = 11) (obM11 (by decide +kernel : kdM 0 = 11)) (by decide) (frM11_0 (by decide +kernel : kdM 0 = 11)) fl11_7 (by decide +kernel) ?_
          refine sm_seg C [(.sipush 703, 703), (.iload_n 1, 0), (.iadd, 0)] (pc' := 71) (L' := [(3, .int ((13 * a1) + a2)), (0, .ref 0), (1, .int a1), (2, .int a2)]) (S' := [.int (703 + a1), .ref 1]) (by decide +kernel) rfl ?_
          refine sm_ald 2244 C (ltM (krM11_0 (by decide +kernel : kdM 0 = 11)) (by decide)) (krM11_0 (by decide +kernel : kdM 0 = 11)) (nrM11_0 (by decide +kernel : kdM 0 = 11)) (by decide +kernel) (fun v5 => ?_)
          refine sm_seg C [(.aload_n 0, 0)] (pc' := 73) (L' := [(3, .int ((13 * a1) + a2)), (0, .ref 0), (1, .int a1), (2, .int a2)]) (S' := [.ref 0, .int v5]) (by decide +kernel) rfl ?_
          refine sm_getR 11 0 1 cls11 C (ltM (by decide +kernel : kdM 0 = 11) (by decide)) (by decide +kernel : kdM 0 = 11) (obM11 (by decide +kernel : kdM 0 = 11)) (by decide) (frM11_0 (by decide +kernel : kdM 0 = 11)) fl11_7 (by decide +kernel) ?_
          refine sm_seg C [(.sipush 716, 716), (.iload_n 2, 0), (.iadd, 0)] (pc' := 81) (L' := [(3, .int ((13 * a1) + a2)), (0, .ref 0), (1, .int a1), (2, .int a2)]) (S' := [.int (716 + a2), .ref 1, .int v5]) (by decide +kernel) rfl ?_
          refine sm_ald 2244 C (ltM (krM11_0 (by decide +kernel : kdM 0 = 11)) (by decide)) (krM11_0 (by decide +kernel : kdM 0 = 11)) (nrM11_0 (by decide +kernel : kdM 0 = 11)) (by decide +kernel) (fun v6 => ?_)
          refine sm_icmpne 89 (off := 7) C (by decide +kernel) (by decide) (fun _ => ?_) (fun _ => ?_)
          · refine sm_seg C [(.iconst 1, 1), (.goto 4, 0)] (pc' := 90) (L' := [(3, .int ((13 * a1) + a2)), (0, .ref 0), (1, .int a1), (2, .int a2)]) (S' := [.int 1]) (by decide +kernel) rfl ?_
            exact sm_sub [1, 2, 3, 0] rfl (s_X11_layCloths_j90 F C hr self2 (X11_layCloths_L16 F self2 n) ih2 ih a1 a2 ((13 * a1) + a2) 1 τ4)
          · refine sm_seg C [(.iconst 0, 0)] (pc' := 90) (L' := [(3, .int ((13 * a1) + a2)), (0, .ref 0), (1, .int a1), (2, .int a2)]) (S' := [.int 0]) (by decide +kernel) rfl ?_
            exact sm_sub [1, 2, 3, 0] rfl (s_X11_layCloths_j90 F C hr self2 (X11_layCloths_L16 F self2 n) ih2 ih a1 a2 ((13 * a1) + a2) 0 τ4)
def X11_layCloths_L2 (F : Nat) : Nat → Int32 → Tau → Option (Int32 × Tau)
  | 0, _, _ => none
  | n + 1, a1, τ =>
    ald τ 1 2244 703 fun v1 => if v1 < a1 then (some (0, τ)) else (X11_layCloths_L16 F (X11_layCloths_L2 F n) F a1 0 τ)
theorem s_X11_layCloths_L2 (F : Nat) {K : Ctx} (C : Cx K sysM RX11 cX11_layCloths 5 2) (hr : Rt K none) : ∀ (n : Nat) (a1 : Int32) (τ : Tau), Sm K sysM 5 (Qv K sysM) (X11_layCloths_L2 F n a1 τ) 2 [(0, .ref 0), (1, .int a1)] [] τ := by
  intro n
  induction n with
  | zero => intro a1 τ; exact sm_none
  | succ n ih =>
    intro a1 τ
    rw [X11_layCloths_L2]
    refine sm_seg C [(.iload_n 1, 0), (.aload_n 0, 0)] (pc' := 4) (L' := [(0, .ref 0), (1, .int a1)]) (S' := [.ref 0, .int a1]) (by decide +kernel) rfl ?_
    refine sm_getR 11 0 1 cls11 C (ltM (by decide +kernel : kdM 0 = 11) (by decide)) (by decide +kernel : kdM 0 = 11) (obM11 (by decide +kernel : kdM 0 = 11)) (by decide) (frM11_0 (by decide +kernel : kdM 0 = 11)) fl11_7 (by decide +kernel) ?_
    refine sm_seg C [(.sipush 703, 703)] (pc' := 10) (L' := [(0, .ref 0), (1, .int a1)]) (S' := [.int 703, .ref 1, .int a1]) (by decide +kernel) rfl ?_
    refine sm_ald 2244 C (ltM (krM11_0 (by decide +kernel : kdM 0 = 11)) (by decide)) (krM11_0 (by decide +kernel : kdM 0 = 11)) (nrM11_0 (by decide +kernel : kdM 0 = 11)) (by decide +kernel) (fun v1 => ?_)
    refine sm_icmpgt 200 (off := 189) C (by decide +kernel) (by decide) (fun _ => ?_) (fun _ => ?_)
    · exact sm_vret C hr (by decide +kernel)
    · refine sm_seg C [(.iconst 0, 0), (.istore_n 2, 0)] (pc' := 16) (L' := [(2, .int 0), (0, .ref 0), (1, .int a1)]) (S' := []) (by decide +kernel) rfl ?_
      exact sm_sub [1, 2, 0] rfl (s_X11_layCloths_L16 F C hr (X11_layCloths_L2 F n) ih F a1 0 τ)
def X11_layCloths (F : Nat) (τ : Tau) : Option (Int32 × Tau) :=
  X11_layCloths_L2 F F 0 τ
set_option maxRecDepth 20000 in
set_option maxHeartbeats 4000000 in
theorem c_X11_layCloths (F : Nat) (τ : Tau) (r : Int32) (τ' : Tau) (h : X11_layCloths F τ = some (r, τ')) : MCv sysM yX11_layCloths cX11_layCloths 5 2 [.ref 0] τ τ' :=
  mcv_of (by decide +kernel) (Nat.le_of_ble_eq_true rfl) (fun K C hr => by
    show Sm K sysM 5 (Qv K sysM) (X11_layCloths F τ) 0 [(0, .ref 0)] [] τ
    unfold X11_layCloths
    refine sm_seg C [(.iconst 0, 0), (.istore_n 1, 0)] (pc' := 2) (L' := [(1, .int 0), (0, .ref 0)]) (S' := []) (by decide +kernel) rfl ?_
    exact sm_sub [1, 0] rfl (s_X11_layCloths_L2 F C hr F 0 τ)) h
/-! BasketEnvoysModel.cloths -/
def X11_cloths (F : Nat) (a1 : Int32) (τ : Tau) : Option (Int32 × Tau) :=
  cal (X11_isIn F a1 0 2 τ) fun r1 τ2 => if r1 = 0 then (some ((-1), τ2)) else (cal (X11_layCloths F τ2) fun r3 τ4 => ald τ4 1 2244 703 fun v5 => ald τ4 1 2244 716 fun v6 => if a1 = 0 then (ald τ4 17 169 ((13 * v5) + v6) fun v7 => some (v7, τ4)) else (if a1 = 1 then (ald τ4 1 2244 703 fun v8 => ald τ4 1 2244 716 fun v9 => ald τ4 17 169 ((13 * v5) + v6) fun v10 => some (((v8 + v9) - v10), τ4)) else (ald τ4 18 169 ((13 * v5) + v6) fun v11 => some (v11, τ4))))
set_option maxRecDepth 20000 in
set_option maxHeartbeats 4000000 in
theorem c_X11_cloths (F : Nat) (a1 : Int32) (τ : Tau) (r : Int32) (τ' : Tau) (h : X11_cloths F a1 τ = some (r, τ')) : MCi sysM yX11_cloths cX11_cloths 3 (some .int) 3 [.ref 0, .int a1] τ r τ' :=
  mci_of (by decide +kernel) (Nat.le_of_ble_eq_true rfl) (fun K C hr => by
    show Sm K sysM 3 (Qi K sysM) (X11_cloths F a1 τ) 0 [(0, .ref 0), (1, .int a1)] [] τ
    unfold X11_cloths
    refine sm_seg C [(.iload_n 1, 0), (.iconst 0, 0), (.iconst 2, 2)] (pc' := 3) (L' := [(0, .ref 0), (1, .int a1)]) (S' := [.int 2, .int 0, .int a1]) (by decide +kernel) rfl ?_
    refine sm_scal [.int a1, .int 0, .int 2] [] rfl C mw_X11_isIn ml_11_78 rfl ⟨by decide, by decide⟩ (Nat.le_of_ble_eq_true rfl) (by decide +kernel) (c_X11_isIn F a1 0 2 τ) (fun r1 τ2 => ?_)
    refine sm_ifne 11 (off := 5) C (by decide +kernel) (by decide) (fun _ => ?_) (fun _ => ?_)
    · refine sm_seg C [(.iconst (-1), (-1))] (pc' := 10) (L' := [(0, .ref 0), (1, .int a1)]) (S' := [.int (-1)]) (by decide +kernel) rfl ?_
      exact sm_iret C hr rfl (by decide +kernel)
    · refine sm_seg C [(.aload_n 0, 0)] (pc' := 12) (L' := [(0, .ref 0), (1, .int a1)]) (S' := [.ref 0]) (by decide +kernel) rfl ?_
      refine sm_vcalv [] [] rfl C mw_X11_layCloths ml_11_451 rfl (ci := 11) rfl (ltM (by decide +kernel : kdM 0 = 11) (by decide)) (by decide +kernel : kdM 0 = 11) (by decide) ⟨by decide, by decide⟩ (Nat.le_of_ble_eq_true rfl) (by decide +kernel) (c_X11_layCloths F τ2) (fun r3 τ4 => ?_)
      refine sm_seg C [(.bipush 13, 13), (.aload_n 0, 0)] (pc' := 18) (L' := [(0, .ref 0), (1, .int a1)]) (S' := [.ref 0, .int 13]) (by decide +kernel) rfl ?_
      refine sm_getR 11 0 1 cls11 C (ltM (by decide +kernel : kdM 0 = 11) (by decide)) (by decide +kernel : kdM 0 = 11) (obM11 (by decide +kernel : kdM 0 = 11)) (by decide) (frM11_0 (by decide +kernel : kdM 0 = 11)) fl11_7 (by decide +kernel) ?_
      refine sm_seg C [(.sipush 703, 703)] (pc' := 24) (L' := [(0, .ref 0), (1, .int a1)]) (S' := [.int 703, .ref 1, .int 13]) (by decide +kernel) rfl ?_
      refine sm_ald 2244 C (ltM (krM11_0 (by decide +kernel : kdM 0 = 11)) (by decide)) (krM11_0 (by decide +kernel : kdM 0 = 11)) (nrM11_0 (by decide +kernel : kdM 0 = 11)) (by decide +kernel) (fun v5 => ?_)
      refine sm_seg C [(.imul, 0), (.aload_n 0, 0)] (pc' := 27) (L' := [(0, .ref 0), (1, .int a1)]) (S' := [.ref 0, .int (13 * v5)]) (by decide +kernel) rfl ?_
      refine sm_getR 11 0 1 cls11 C (ltM (by decide +kernel : kdM 0 = 11) (by decide)) (by decide +kernel : kdM 0 = 11) (obM11 (by decide +kernel : kdM 0 = 11)) (by decide) (frM11_0 (by decide +kernel : kdM 0 = 11)) fl11_7 (by decide +kernel) ?_
      refine sm_seg C [(.sipush 716, 716)] (pc' := 33) (L' := [(0, .ref 0), (1, .int a1)]) (S' := [.int 716, .ref 1, .int (13 * v5)]) (by decide +kernel) rfl ?_
      refine sm_ald 2244 C (ltM (krM11_0 (by decide +kernel : kdM 0 = 11)) (by decide)) (krM11_0 (by decide +kernel : kdM 0 = 11)) (nrM11_0 (by decide +kernel : kdM 0 = 11)) (by decide +kernel) (fun v6 => ?_)
      refine sm_seg C [(.iadd, 0), (.istore_n 2, 0), (.iload_n 1, 0)] (pc' := 37) (L' := [(2, .int ((13 * v5) + v6)), (0, .ref 0), (1, .int a1)]) (S' := [.int a1]) (by decide +kernel) rfl ?_
      refine sm_ifne 49 (off := 12) C (by decide +kernel) (by decide) (fun _ => ?_) (fun _ => ?_)
      · refine sm_seg C [(.aload_n 0, 0)] (pc' := 41) (L' := [(2, .int ((13 * v5) + v6)), (0, .ref 0), (1, .int a1)]) (S' := [.ref 0]) (by decide +kernel) rfl ?_
        refine sm_getR 11 33 17 cls11 C (ltM (by decide +kernel : kdM 0 = 11) (by decide)) (by decide +kernel : kdM 0 = 11) (obM11 (by decide +kernel : kdM 0 = 11)) (by decide) (frM11_33 (by decide +kernel : kdM 0 = 11)) fl11_63 (by decide +kernel) ?_
        refine sm_seg C [(.iload_n 2, 0)] (pc' := 45) (L' := [(2, .int ((13 * v5) + v6)), (0, .ref 0), (1, .int a1)]) (S' := [.int ((13 * v5) + v6), .ref 17]) (by decide +kernel) rfl ?_
        refine sm_ald 169 C (ltM (krM11_33 (by decide +kernel : kdM 0 = 11)) (by decide)) (krM11_33 (by decide +kernel : kdM 0 = 11)) (nrM11_33 (by decide +kernel : kdM 0 = 11)) (by decide +kernel) (fun v7 => ?_)
        refine sm_seg C [(.goto 41, 0)] (pc' := 87) (L' := [(2, .int ((13 * v5) + v6)), (0, .ref 0), (1, .int a1)]) (S' := [.int v7]) (by decide +kernel) rfl ?_
        exact sm_iret C hr rfl (by decide +kernel)
      · refine sm_seg C [(.iload_n 1, 0), (.iconst 1, 1)] (pc' := 51) (L' := [(2, .int ((13 * v5) + v6)), (0, .ref 0), (1, .int a1)]) (S' := [.int 1, .int a1]) (by decide +kernel) rfl ?_
        refine sm_icmpne 81 (off := 30) C (by decide +kernel) (by decide) (fun _ => ?_) (fun _ => ?_)
        · refine sm_seg C [(.aload_n 0, 0)] (pc' := 55) (L' := [(2, .int ((13 * v5) + v6)), (0, .ref 0), (1, .int a1)]) (S' := [.ref 0]) (by decide +kernel) rfl ?_
          refine sm_getR 11 0 1 cls11 C (ltM (by decide +kernel : kdM 0 = 11) (by decide)) (by decide +kernel : kdM 0 = 11) (obM11 (by decide +kernel : kdM 0 = 11)) (by decide) (frM11_0 (by decide +kernel : kdM 0 = 11)) fl11_7 (by decide +kernel) ?_
          refine sm_seg C [(.sipush 703, 703)] (pc' := 61) (L' := [(2, .int ((13 * v5) + v6)), (0, .ref 0), (1, .int a1)]) (S' := [.int 703, .ref 1]) (by decide +kernel) rfl ?_
          refine sm_ald 2244 C (ltM (krM11_0 (by decide +kernel : kdM 0 = 11)) (by decide)) (krM11_0 (by decide +kernel : kdM 0 = 11)) (nrM11_0 (by decide +kernel : kdM 0 = 11)) (by decide +kernel) (fun v8 => ?_)
          refine sm_seg C [(.aload_n 0, 0)] (pc' := 63) (L' := [(2, .int ((13 * v5) + v6)), (0, .ref 0), (1, .int a1)]) (S' := [.ref 0, .int v8]) (by decide +kernel) rfl ?_
          refine sm_getR 11 0 1 cls11 C (ltM (by decide +kernel : kdM 0 = 11) (by decide)) (by decide +kernel : kdM 0 = 11) (obM11 (by decide +kernel : kdM 0 = 11)) (by decide) (frM11_0 (by decide +kernel : kdM 0 = 11)) fl11_7 (by decide +kernel) ?_
          refine sm_seg C [(.sipush 716, 716)] (pc' := 69) (L' := [(2, .int ((13 * v5) + v6)), (0, .ref 0), (1, .int a1)]) (S' := [.int 716, .ref 1, .int v8]) (by decide +kernel) rfl ?_
          refine sm_ald 2244 C (ltM (krM11_0 (by decide +kernel : kdM 0 = 11)) (by decide)) (krM11_0 (by decide +kernel : kdM 0 = 11)) (nrM11_0 (by decide +kernel : kdM 0 = 11)) (by decide +kernel) (fun v9 => ?_)
          refine sm_seg C [(.iadd, 0), (.aload_n 0, 0)] (pc' := 72) (L' := [(2, .int ((13 * v5) + v6)), (0, .ref 0), (1, .int a1)]) (S' := [.ref 0, .int (v8 + v9)]) (by decide +kernel) rfl ?_
          refine sm_getR 11 33 17 cls11 C (ltM (by decide +kernel : kdM 0 = 11) (by decide)) (by decide +kernel : kdM 0 = 11) (obM11 (by decide +kernel : kdM 0 = 11)) (by decide) (frM11_33 (by decide +kernel : kdM 0 = 11)) fl11_63 (by decide +kernel) ?_
          refine sm_seg C [(.iload_n 2, 0)] (pc' := 76) (L' := [(2, .int ((13 * v5) + v6)), (0, .ref 0), (1, .int a1)]) (S' := [.int ((13 * v5) + v6), .ref 17, .int (v8 + v9)]) (by decide +kernel) rfl ?_
          refine sm_ald 169 C (ltM (krM11_33 (by decide +kernel : kdM 0 = 11)) (by decide)) (krM11_33 (by decide +kernel : kdM 0 = 11)) (nrM11_33 (by decide +kernel : kdM 0 = 11)) (by decide +kernel) (fun v10 => ?_)
          refine sm_seg C [(.isub, 0), (.goto 9, 0)] (pc' := 87) (L' := [(2, .int ((13 * v5) + v6)), (0, .ref 0), (1, .int a1)]) (S' := [.int ((v8 + v9) - v10)]) (by decide +kernel) rfl ?_
          exact sm_iret C hr rfl (by decide +kernel)
        · refine sm_seg C [(.aload_n 0, 0)] (pc' := 82) (L' := [(2, .int ((13 * v5) + v6)), (0, .ref 0), (1, .int a1)]) (S' := [.ref 0]) (by decide +kernel) rfl ?_
          refine sm_getR 11 34 18 cls11 C (ltM (by decide +kernel : kdM 0 = 11) (by decide)) (by decide +kernel : kdM 0 = 11) (obM11 (by decide +kernel : kdM 0 = 11)) (by decide) (frM11_34 (by decide +kernel : kdM 0 = 11)) fl11_66 (by decide +kernel) ?_
          refine sm_seg C [(.iload_n 2, 0)] (pc' := 86) (L' := [(2, .int ((13 * v5) + v6)), (0, .ref 0), (1, .int a1)]) (S' := [.int ((13 * v5) + v6), .ref 18]) (by decide +kernel) rfl ?_
          refine sm_ald 169 C (ltM (krM11_34 (by decide +kernel : kdM 0 = 11)) (by decide)) (krM11_34 (by decide +kernel : kdM 0 = 11)) (nrM11_34 (by decide +kernel : kdM 0 = 11)) (by decide +kernel) (fun v11 => ?_)
          exact sm_iret C hr rfl (by decide +kernel)) h
/-! BasketEnvoysModel.common -/
def X11_common_L4 (F : Nat) : Nat → Int32 → Int32 → Tau → Option (Int32 × Tau)
  | 0, _, _, _ => none
  | n + 1, a2, a3, τ =>
    if a3 = 0 then (some (a2, τ)) else (if a3 = 0 then none else (X11_common_L4 F n a3 (rmd a2 a3) τ))
theorem s_X11_common_L4 (F : Nat) {K : Ctx} (C : Cx K sysM RX11 cX11_common 5 1) (hr : Rt K (some .int)) : ∀ (n : Nat) (a2 : Int32) (a3 : Int32) (τ : Tau), Sm K sysM 5 (Qi K sysM) (X11_common_L4 F n a2 a3 τ) 4 [(2, .int a2), (3, .int a3)] [] τ := by
  intro n
  induction n with
  | zero => intro a2 a3 τ; exact sm_none
  | succ n ih =>
    intro a2 a3 τ
    rw [X11_common_L4]
    refine sm_seg C [(.iload_n 3, 0)] (pc' := 5) (L' := [(2, .int a2), (3, .int a3)]) (S' := [.int a3]) (by decide +kernel) rfl ?_
    refine sm_ifeq 21 (off := 16) C (by decide +kernel) (by decide) (fun _ => ?_) (fun _ => ?_)
    · refine sm_seg C [(.iload_n 2, 0)] (pc' := 22) (L' := [(2, .int a2), (3, .int a3)]) (S' := [.int a2]) (by decide +kernel) rfl ?_
      exact sm_iret C hr rfl (by decide +kernel)
    · refine sm_seg C [(.iload_n 2, 0), (.iload_n 3, 0)] (pc' := 10) (L' := [(2, .int a2), (3, .int a3)]) (S' := [.int a3, .int a2]) (by decide +kernel) rfl ?_
      refine sm_ite (fun _ => sm_none) (fun hz => ?_)
      refine sm_irem C (by decide +kernel) hz ?_
      refine sm_seg C [(.istore 4, 0), (.iload_n 3, 0), (.istore_n 2, 0), (.iload 4, 0), (.istore_n 3, 0), (.goto (-14), 0)] (pc' := 4) (L' := [(3, .int (rmd a2 a3)), (2, .int a3), (4, .int (rmd a2 a3))]) (S' := []) (by decide +kernel) rfl ?_
      exact sm_sub [1, 0] rfl (ih a3 (rmd a2 a3) τ)
def X11_common (F : Nat) (a0 : Int32) (a1 : Int32) (τ : Tau) : Option (Int32 × Tau) :=
  X11_common_L4 F F a0 a1 τ
set_option maxRecDepth 20000 in
set_option maxHeartbeats 4000000 in
theorem c_X11_common (F : Nat) (a0 : Int32) (a1 : Int32) (τ : Tau) (r : Int32) (τ' : Tau) (h : X11_common F a0 a1 τ = some (r, τ')) : MCi sysM yX11_common cX11_common 5 (some .int) 1 [.int a0, .int a1] τ r τ' :=
  mci_of (by decide +kernel) (Nat.le_of_ble_eq_true rfl) (fun K C hr => by
    show Sm K sysM 5 (Qi K sysM) (X11_common F a0 a1 τ) 0 [(0, .int a0), (1, .int a1)] [] τ
    unfold X11_common
    refine sm_seg C [(.iload_n 0, 0), (.istore_n 2, 0), (.iload_n 1, 0), (.istore_n 3, 0)] (pc' := 4) (L' := [(3, .int a1), (2, .int a0), (0, .int a0), (1, .int a1)]) (S' := []) (by decide +kernel) rfl ?_
    exact sm_sub [1, 0] rfl (s_X11_common_L4 F C hr F a0 a1 τ)) h
/-! BasketEnvoysModel.count -/
def X11_count (F : Nat) (a1 : Int32) (τ : Tau) : Option (Int32 × Tau) :=
  if a1 = (-1) then (cal (X11_endsRow F 545 τ) fun r1 τ2 => some (r1, τ2)) else (cal (X11_isIn F a1 1 99 τ) fun r3 τ4 => if r3 = 0 then (some ((-1), τ4)) else (cal (X11_tellsOne F 545 8 a1 τ4) fun r5 τ6 => some (r5, τ6)))
set_option maxRecDepth 20000 in
set_option maxHeartbeats 4000000 in
theorem c_X11_count (F : Nat) (a1 : Int32) (τ : Tau) (r : Int32) (τ' : Tau) (h : X11_count F a1 τ = some (r, τ')) : MCi sysM yX11_count cX11_count 2 (some .int) 2 [.ref 0, .int a1] τ r τ' :=
  mci_of (by decide +kernel) (Nat.le_of_ble_eq_true rfl) (fun K C hr => by
    show Sm K sysM 2 (Qi K sysM) (X11_count F a1 τ) 0 [(0, .ref 0), (1, .int a1)] [] τ
    unfold X11_count
    refine sm_seg C [(.iload_n 1, 0), (.iconst (-1), (-1))] (pc' := 2) (L' := [(0, .ref 0), (1, .int a1)]) (S' := [.int (-1), .int a1]) (by decide +kernel) rfl ?_
    refine sm_icmpne 15 (off := 13) C (by decide +kernel) (by decide) (fun _ => ?_) (fun _ => ?_)
    · refine sm_seg C [(.aload_n 0, 0), (.sipush 545, 545)] (pc' := 9) (L' := [(0, .ref 0), (1, .int a1)]) (S' := [.int 545, .ref 0]) (by decide +kernel) rfl ?_
      refine sm_vcal [.int 545] [] rfl C mw_X11_endsRow ml_11_388 rfl (ci := 11) rfl (ltM (by decide +kernel : kdM 0 = 11) (by decide)) (by decide +kernel : kdM 0 = 11) (by decide) ⟨by decide, by decide⟩ (Nat.le_of_ble_eq_true rfl) (by decide +kernel) (c_X11_endsRow F 545 τ) (fun r1 τ2 => ?_)
      refine sm_seg C [(.goto 27, 0)] (pc' := 39) (L' := [(0, .ref 0), (1, .int a1)]) (S' := [.int r1]) (by decide +kernel) rfl ?_
      exact sm_iret C hr rfl (by decide +kernel)
    · refine sm_seg C [(.iload_n 1, 0), (.iconst 1, 1), (.bipush 99, 99)] (pc' := 19) (L' := [(0, .ref 0), (1, .int a1)]) (S' := [.int 99, .int 1, .int a1]) (by decide +kernel) rfl ?_
      refine sm_scal [.int a1, .int 1, .int 99] [] rfl C mw_X11_isIn ml_11_78 rfl ⟨by decide, by decide⟩ (Nat.le_of_ble_eq_true rfl) (by decide +kernel) (c_X11_isIn F a1 1 99 τ) (fun r3 τ4 => ?_)
      refine sm_ifeq 38 (off := 16) C (by decide +kernel) (by decide) (fun _ => ?_) (fun _ => ?_)
      · refine sm_seg C [(.iconst (-1), (-1))] (pc' := 39) (L' := [(0, .ref 0), (1, .int a1)]) (S' := [.int (-1)]) (by decide +kernel) rfl ?_
        exact sm_iret C hr rfl (by decide +kernel)
      · refine sm_seg C [(.aload_n 0, 0), (.sipush 545, 545), (.bipush 8, 8), (.iload_n 1, 0)] (pc' := 32) (L' := [(0, .ref 0), (1, .int a1)]) (S' := [.int a1, .int 8, .int 545, .ref 0]) (by decide +kernel) rfl ?_
        refine sm_vcal [.int 545, .int 8, .int a1] [] rfl C mw_X11_tellsOne ml_11_391 rfl (ci := 11) rfl (ltM (by decide +kernel : kdM 0 = 11) (by decide)) (by decide +kernel : kdM 0 = 11) (by decide) ⟨by decide, by decide⟩ (Nat.le_of_ble_eq_true rfl) (by decide +kernel) (c_X11_tellsOne F 545 8 a1 τ4) (fun r5 τ6 => ?_)
        refine sm_seg C [(.goto 4, 0)] (pc' := 39) (L' := [(0, .ref 0), (1, .int a1)]) (S' := [.int r5]) (by decide +kernel) rfl ?_
        exact sm_iret C hr rfl (by decide +kernel)) h
/-! BasketEnvoysModel.court -/
def X11_court_j185 (F : Nat) (self2 : Int32 → Tau → Option (Int32 × Tau)) (a1 : Int32) (τ : Tau) : Option (Int32 × Tau) :=
  self2 (a1 + 1) τ
theorem s_X11_court_j185 (F : Nat) {K : Ctx} (C : Cx K sysM RX11 cX11_court 3 3) (hr : Rt K none) (self2 : Int32 → Tau → Option (Int32 × Tau)) (ih2 : ∀ (a1 : Int32) (τ : Tau), Sm K sysM 3 (Qv K sysM) (self2 a1 τ) 2 [(0, .ref 0), (1, .int a1)] [] τ) (a1 : Int32) (τ : Tau) : Sm K sysM 3 (Qv K sysM) (X11_court_j185 F self2 a1 τ) 185 [(0, .ref 0), (1, .int a1)] [] τ := by
  unfold X11_court_j185
  refine sm_seg C [(.iinc 1 1, 1), (.goto (-186), 0)] (pc' := 2) (L' := [(1, .int (a1 + 1)), (0, .ref 0)]) (S' := []) (by decide +kernel) rfl ?_
  exact sm_sub [1, 0] rfl (ih2 (a1 + 1) τ)
def X11_court_L2 (F : Nat) : Nat → Int32 → Tau → Option (Int32 × Tau)
  | 0, _, _ => none
  | n + 1, a1, τ =>
    ald τ 1 2244 259 fun v1 => if v1 ≤ a1 then (some (0, τ)) else (ald τ 1 2244 (381 + (4 * a1)) fun v2 => ald τ 1 2244 2 fun v3 => if v2 = v3 then (ald τ 1 2244 ((381 + (4 * a1)) + 1) fun v4 => if v4 = 11 then (ald τ 1 2244 ((381 + (4 * a1)) + 2) fun v5 => ald τ 1 2244 ((381 + (4 * a1)) + 3) fun v6 => cal (X11_sends F v5 v6 τ) fun r7 τ8 => X11_court_j185 F (X11_court_L2 F n) a1 τ8) else if v4 = 12 then (ald τ 1 2244 ((381 + (4 * a1)) + 2) fun v9 => cal (X11_calls F v9 τ) fun r10 τ11 => X11_court_j185 F (X11_court_L2 F n) a1 τ11) else if v4 = 13 then (ald τ 1 2244 ((381 + (4 * a1)) + 2) fun v12 => ald τ 1 2244 ((381 + (4 * a1)) + 2) fun v13 => ald τ 1 2244 (5 + v13) fun v14 => ald τ 1 2244 ((381 + (4 * a1)) + 3) fun v15 => cal (X11_lesser F 99 (v14 + v15) τ) fun r16 τ17 => ast τ17 1 2244 (5 + v12) r16 fun τ18 => X11_court_j185 F (X11_court_L2 F n) a1 τ18) else (ald τ 1 2244 ((381 + (4 * a1)) + 2) fun v19 => ald τ 1 2244 ((381 + (4 * a1)) + 3) fun v20 => ast τ 1 2244 (59 + v19) v20 fun τ21 => X11_court_j185 F (X11_court_L2 F n) a1 τ21)) else (X11_court_j185 F (X11_court_L2 F n) a1 τ))
theorem s_X11_court_L2 (F : Nat) {K : Ctx} (C : Cx K sysM RX11 cX11_court 3 3) (hr : Rt K none) : ∀ (n : Nat) (a1 : Int32) (τ : Tau), Sm K sysM 3 (Qv K sysM) (X11_court_L2 F n a1 τ) 2 [(0, .ref 0), (1, .int a1)] [] τ := by
  intro n
  induction n with
  | zero => intro a1 τ; exact sm_none
  | succ n ih =>
    intro a1 τ
    rw [X11_court_L2]
    refine sm_seg C [(.iload_n 1, 0), (.aload_n 0, 0)] (pc' := 4) (L' := [(0, .ref 0), (1, .int a1)]) (S' := [.ref 0, .int a1]) (by decide +kernel) rfl ?_
    refine sm_getR 11 0 1 cls11 C (ltM (by decide +kernel : kdM 0 = 11) (by decide)) (by decide +kernel : kdM 0 = 11) (obM11 (by decide +kernel : kdM 0 = 11)) (by decide) (frM11_0 (by decide +kernel : kdM 0 = 11)) fl11_7 (by decide +kernel) ?_
    refine sm_seg C [(.sipush 259, 259)] (pc' := 10) (L' := [(0, .ref 0), (1, .int a1)]) (S' := [.int 259, .ref 1, .int a1]) (by decide +kernel) rfl ?_
    refine sm_ald 2244 C (ltM (krM11_0 (by decide +kernel : kdM 0 = 11)) (by decide)) (krM11_0 (by decide +kernel : kdM 0 = 11)) (nrM11_0 (by decide +kernel : kdM 0 = 11)) (by decide +kernel) (fun v1 => ?_)
    refine sm_icmpge 191 (off := 180) C (by decide +kernel) (by decide) (fun _ => ?_) (fun _ => ?_)
    · exact sm_vret C hr (by decide +kernel)
    · refine sm_seg C [(.sipush 381, 381), (.iconst 4, 4), (.iload_n 1, 0), (.imul, 0), (.iadd, 0), (.istore_n 2, 0), (.aload_n 0, 0)] (pc' := 23) (L' := [(2, .int (381 + (4 * a1))), (0, .ref 0), (1, .int a1)]) (S' := [.ref 0]) (by decide +kernel) rfl ?_
      refine sm_getR 11 0 1 cls11 C (ltM (by decide +kernel : kdM 0 = 11) (by decide)) (by decide +kernel : kdM 0 = 11) (obM11 (by decide +kernel : kdM 0 = 11)) (by decide) (frM11_0 (by decide +kernel : kdM 0 = 11)) fl11_7 (by decide +kernel) ?_
      refine sm_seg C [(.iload_n 2, 0)] (pc' := 27) (L' := [(2, .int (381 + (4 * a1))), (0, .ref 0), (1, .int a1)]) (S' := [.int (381 + (4 * a1)), .ref 1]) (by decide +kernel) rfl ?_
      refine sm_ald 2244 C (ltM (krM11_0 (by decide +kernel : kdM 0 = 11)) (by decide)) (krM11_0 (by decide +kernel : kdM 0 = 11)) (nrM11_0 (by decide +kernel : kdM 0 = 11)) (by decide +kernel) (fun v2 => ?_)
      refine sm_seg C [(.aload_n 0, 0)] (pc' := 29) (L' := [(2, .int (381 + (4 * a1))), (0, .ref 0), (1, .int a1)]) (S' := [.ref 0, .int v2]) (by decide +kernel) rfl ?_
      refine sm_getR 11 0 1 cls11 C (ltM (by decide +kernel : kdM 0 = 11) (by decide)) (by decide +kernel : kdM 0 = 11) (obM11 (by decide +kernel : kdM 0 = 11)) (by decide) (frM11_0 (by decide +kernel : kdM 0 = 11)) fl11_7 (by decide +kernel) ?_
      refine sm_seg C [(.iconst 2, 2)] (pc' := 33) (L' := [(2, .int (381 + (4 * a1))), (0, .ref 0), (1, .int a1)]) (S' := [.int 2, .ref 1, .int v2]) (by decide +kernel) rfl ?_
      refine sm_ald 2244 C (ltM (krM11_0 (by decide +kernel : kdM 0 = 11)) (by decide)) (krM11_0 (by decide +kernel : kdM 0 = 11)) (nrM11_0 (by decide +kernel : kdM 0 = 11)) (by decide +kernel) (fun v3 => ?_)
      refine sm_icmpeq 40 (off := 6) C (by decide +kernel) (by decide) (fun _ => ?_) (fun _ => ?_)
      · refine sm_seg C [(.aload_n 0, 0)] (pc' := 41) (L' := [(2, .int (381 + (4 * a1))), (0, .ref 0), (1, .int a1)]) (S' := [.ref 0]) (by decide +kernel) rfl ?_
        refine sm_getR 11 0 1 cls11 C (ltM (by decide +kernel : kdM 0 = 11) (by decide)) (by decide +kernel : kdM 0 = 11) (obM11 (by decide +kernel : kdM 0 = 11)) (by decide) (frM11_0 (by decide +kernel : kdM 0 = 11)) fl11_7 (by decide +kernel) ?_
        refine sm_seg C [(.iload_n 2, 0), (.iconst 1, 1), (.iadd, 0)] (pc' := 47) (L' := [(2, .int (381 + (4 * a1))), (0, .ref 0), (1, .int a1)]) (S' := [.int ((381 + (4 * a1)) + 1), .ref 1]) (by decide +kernel) rfl ?_
        refine sm_ald 2244 C (ltM (krM11_0 (by decide +kernel : kdM 0 = 11)) (by decide)) (krM11_0 (by decide +kernel : kdM 0 = 11)) (nrM11_0 (by decide +kernel : kdM 0 = 11)) (by decide +kernel) (fun v4 => ?_)
        have hd48 : decode cX11_court 48 = .ok (.tableswitch 113 11 13 #[28, 51, 66], 28) := by decide +kernel
        refine sm_ite (fun e => ?_) (fun n48_0 => ?_)
        · refine sm_tabIn (off := 28) 76 C hd48 (by rw [e]; decide) (by rw [e]; decide) (by rw [e]; decide) (by decide) ?_
          refine sm_seg C [(.aload_n 0, 0), (.aload_n 0, 0)] (pc' := 78) (L' := [(2, .int (381 + (4 * a1))), (0, .ref 0), (1, .int a1)]) (S' := [.ref 0, .ref 0]) (by decide +kernel) rfl ?_
          refine sm_getR 11 0 1 cls11 C (ltM (by decide +kernel : kdM 0 = 11) (by decide)) (by decide +kernel : kdM 0 = 11) (obM11 (by decide +kernel : kdM 0 = 11)) (by decide) (frM11_0 (by decide +kernel : kdM 0 = 11)) fl11_7 (by decide +kernel) ?_
          refine sm_seg C [(.iload_n 2, 0), (.iconst 2, 2), (.iadd, 0)] (pc' := 84) (L' := [(2, .int (381 + (4 * a1))), (0, .ref 0), (1, .int a1)]) (S' := [.int ((381 + (4 * a1)) + 2), .ref 1, .ref 0]) (by decide +kernel) rfl ?_
          refine sm_ald 2244 C (ltM (krM11_0 (by decide +kernel : kdM 0 = 11)) (by decide)) (krM11_0 (by decide +kernel : kdM 0 = 11)) (nrM11_0 (by decide +kernel : kdM 0 = 11)) (by decide +kernel) (fun v5 => ?_)
          refine sm_seg C [(.aload_n 0, 0)] (pc' := 86) (L' := [(2, .int (381 + (4 * a1))), (0, .ref 0), (1, .int a1)]) (S' := [.ref 0, .int v5, .ref 0]) (by decide +kernel) rfl ?_
          refine sm_getR 11 0 1 cls11 C (ltM (by decide +kernel : kdM 0 = 11) (by decide)) (by decide +kernel : kdM 0 = 11) (obM11 (by decide +kernel : kdM 0 = 11)) (by decide) (frM11_0 (by decide +kernel : kdM 0 = 11)) fl11_7 (by decide +kernel) ?_
          refine sm_seg C [(.iload_n 2, 0), (.iconst 3, 3), (.iadd, 0)] (pc' := 92) (L' := [(2, .int (381 + (4 * a1))), (0, .ref 0), (1, .int a1)]) (S' := [.int ((381 + (4 * a1)) + 3), .ref 1, .int v5, .ref 0]) (by decide +kernel) rfl ?_
          refine sm_ald 2244 C (ltM (krM11_0 (by decide +kernel : kdM 0 = 11)) (by decide)) (krM11_0 (by decide +kernel : kdM 0 = 11)) (nrM11_0 (by decide +kernel : kdM 0 = 11)) (by decide +kernel) (fun v6 => ?_)
          refine sm_vcalv [.int v5, .int v6] [] rfl C mw_X11_sends ml_11_335 rfl (ci := 11) rfl (ltM (by decide +kernel : kdM 0 = 11) (by decide)) (by decide +kernel : kdM 0 = 11) (by decide) ⟨by decide, by decide⟩ (Nat.le_of_ble_eq_true rfl) (by decide +kernel) (c_X11_sends F v5 v6 τ) (fun r7 τ8 => ?_)
          refine sm_seg C [(.goto 89, 0)] (pc' := 185) (L' := [(2, .int (381 + (4 * a1))), (0, .ref 0), (1, .int a1)]) (S' := []) (by decide +kernel) rfl ?_
          exact sm_sub [1, 2] rfl (s_X11_court_j185 F C hr (X11_court_L2 F n) ih a1 τ8)
        refine sm_ite (fun e => ?_) (fun n48_1 => ?_)
        · refine sm_tabIn (off := 51) 99 C hd48 (by rw [e]; decide) (by rw [e]; decide) (by rw [e]; decide) (by decide) ?_
          refine sm_seg C [(.aload_n 0, 0), (.aload_n 0, 0)] (pc' := 101) (L' := [(2, .int (381 + (4 * a1))), (0, .ref 0), (1, .int a1)]) (S' := [.ref 0, .ref 0]) (by decide +kernel) rfl ?_
          refine sm_getR 11 0 1 cls11 C (ltM (by decide +kernel : kdM 0 = 11) (by decide)) (by decide +kernel : kdM 0 = 11) (obM11 (by decide +kernel : kdM 0 = 11)) (by decide) (frM11_0 (by decide +kernel : kdM 0 = 11)) fl11_7 (by decide +kernel) ?_
          refine sm_seg C [(.iload_n 2, 0), (.iconst 2, 2), (.iadd, 0)] (pc' := 107) (L' := [(2, .int (381 + (4 * a1))), (0, .ref 0), (1, .int a1)]) (S' := [.int ((381 + (4 * a1)) + 2), .ref 1, .ref 0]) (by decide +kernel) rfl ?_
          refine sm_ald 2244 C (ltM (krM11_0 (by decide +kernel : kdM 0 = 11)) (by decide)) (krM11_0 (by decide +kernel : kdM 0 = 11)) (nrM11_0 (by decide +kernel : kdM 0 = 11)) (by decide +kernel) (fun v9 => ?_)
          refine sm_vcalv [.int v9] [] rfl C mw_X11_calls ml_11_338 rfl (ci := 11) rfl (ltM (by decide +kernel : kdM 0 = 11) (by decide)) (by decide +kernel : kdM 0 = 11) (by decide) ⟨by decide, by decide⟩ (Nat.le_of_ble_eq_true rfl) (by decide +kernel) (c_X11_calls F v9 τ) (fun r10 τ11 => ?_)
          refine sm_seg C [(.goto 74, 0)] (pc' := 185) (L' := [(2, .int (381 + (4 * a1))), (0, .ref 0), (1, .int a1)]) (S' := []) (by decide +kernel) rfl ?_
          exact sm_sub [1, 2] rfl (s_X11_court_j185 F C hr (X11_court_L2 F n) ih a1 τ11)
        refine sm_ite (fun e => ?_) (fun n48_2 => ?_)
        · refine sm_tabIn (off := 66) 114 C hd48 (by rw [e]; decide) (by rw [e]; decide) (by rw [e]; decide) (by decide) ?_
          refine sm_seg C [(.aload_n 0, 0)] (pc' := 115) (L' := [(2, .int (381 + (4 * a1))), (0, .ref 0), (1, .int a1)]) (S' := [.ref 0]) (by decide +kernel) rfl ?_
          refine sm_getR 11 0 1 cls11 C (ltM (by decide +kernel : kdM 0 = 11) (by decide)) (by decide +kernel : kdM 0 = 11) (obM11 (by decide +kernel : kdM 0 = 11)) (by decide) (frM11_0 (by decide +kernel : kdM 0 = 11)) fl11_7 (by decide +kernel) ?_
          refine sm_seg C [(.iconst 5, 5), (.aload_n 0, 0)] (pc' := 120) (L' := [(2, .int (381 + (4 * a1))), (0, .ref 0), (1, .int a1)]) (S' := [.ref 0, .int 5, .ref 1]) (by decide +kernel) rfl ?_
          refine sm_getR 11 0 1 cls11 C (ltM (by decide +kernel : kdM 0 = 11) (by decide)) (by decide +kernel : kdM 0 = 11) (obM11 (by decide +kernel : kdM 0 = 11)) (by decide) (frM11_0 (by decide +kernel : kdM 0 = 11)) fl11_7 (by decide +kernel) ?_
          refine sm_seg C [(.iload_n 2, 0), (.iconst 2, 2), (.iadd, 0)] (pc' := 126) (L' := [(2, .int (381 + (4 * a1))), (0, .ref 0), (1, .int a1)]) (S' := [.int ((381 + (4 * a1)) + 2), .ref 1, .int 5, .ref 1]) (by decide +kernel) rfl ?_
          refine sm_ald 2244 C (ltM (krM11_0 (by decide +kernel : kdM 0 = 11)) (by decide)) (krM11_0 (by decide +kernel : kdM 0 = 11)) (nrM11_0 (by decide +kernel : kdM 0 = 11)) (by decide +kernel) (fun v12 => ?_)
          refine sm_seg C [(.iadd, 0), (.bipush 99, 99), (.aload_n 0, 0)] (pc' := 131) (L' := [(2, .int (381 + (4 * a1))), (0, .ref 0), (1, .int a1)]) (S' := [.ref 0, .int 99, .int (5 + v12), .ref 1]) (by decide +kernel) rfl ?_
          refine sm_getR 11 0 1 cls11 C (ltM (by decide +kernel : kdM 0 = 11) (by decide)) (by decide +kernel : kdM 0 = 11) (obM11 (by decide +kernel : kdM 0 = 11)) (by decide) (frM11_0 (by decide +kernel : kdM 0 = 11)) fl11_7 (by decide +kernel) ?_
          refine sm_seg C [(.iconst 5, 5), (.aload_n 0, 0)] (pc' := 136) (L' := [(2, .int (381 + (4 * a1))), (0, .ref 0), (1, .int a1)]) (S' := [.ref 0, .int 5, .ref 1, .int 99, .int (5 + v12), .ref 1]) (by decide +kernel) rfl ?_
          refine sm_getR 11 0 1 cls11 C (ltM (by decide +kernel : kdM 0 = 11) (by decide)) (by decide +kernel : kdM 0 = 11) (obM11 (by decide +kernel : kdM 0 = 11)) (by decide) (frM11_0 (by decide +kernel : kdM 0 = 11)) fl11_7 (by decide +kernel) ?_
          refine sm_seg C [(.iload_n 2, 0), (.iconst 2, 2), (.iadd, 0)] (pc' := 142) (L' := [(2, .int (381 + (4 * a1))), (0, .ref 0), (1, .int a1)]) (S' := [.int ((381 + (4 * a1)) + 2), .ref 1, .int 5, .ref 1, .int 99, .int (5 + v12), .ref 1]) (by decide +kernel) rfl ?_
          refine sm_ald 2244 C (ltM (krM11_0 (by decide +kernel : kdM 0 = 11)) (by decide)) (krM11_0 (by decide +kernel : kdM 0 = 11)) (nrM11_0 (by decide +kernel : kdM 0 = 11)) (by decide +kernel) (fun v13 => ?_)
          refine sm_seg C [(.iadd, 0)] (pc' := 144) (L' := [(2, .int (381 + (4 * a1))), (0, .ref 0), (1, .int a1)]) (S' := [.int (5 + v13), .ref 1, .int 99, .int (5 + v12), .ref 1]) (by decide +kernel) rfl ?_
          refine sm_ald 2244 C (ltM (krM11_0 (by decide +kernel : kdM 0 = 11)) (by decide)) (krM11_0 (by decide +kernel : kdM 0 = 11)) (nrM11_0 (by decide +kernel : kdM 0 = 11)) (by decide +kernel) (fun v14 => ?_)
          refine sm_seg C [(.aload_n 0, 0)] (pc' := 146) (L' := [(2, .int (381 + (4 * a1))), (0, .ref 0), (1, .int a1)]) (S' := [.ref 0, .int v14, .int 99, .int (5 + v12), .ref 1]) (by decide +kernel) rfl ?_
          refine sm_getR 11 0 1 cls11 C (ltM (by decide +kernel : kdM 0 = 11) (by decide)) (by decide +kernel : kdM 0 = 11) (obM11 (by decide +kernel : kdM 0 = 11)) (by decide) (frM11_0 (by decide +kernel : kdM 0 = 11)) fl11_7 (by decide +kernel) ?_
          refine sm_seg C [(.iload_n 2, 0), (.iconst 3, 3), (.iadd, 0)] (pc' := 152) (L' := [(2, .int (381 + (4 * a1))), (0, .ref 0), (1, .int a1)]) (S' := [.int ((381 + (4 * a1)) + 3), .ref 1, .int v14, .int 99, .int (5 + v12), .ref 1]) (by decide +kernel) rfl ?_
          refine sm_ald 2244 C (ltM (krM11_0 (by decide +kernel : kdM 0 = 11)) (by decide)) (krM11_0 (by decide +kernel : kdM 0 = 11)) (nrM11_0 (by decide +kernel : kdM 0 = 11)) (by decide +kernel) (fun v15 => ?_)
          refine sm_seg C [(.iadd, 0)] (pc' := 154) (L' := [(2, .int (381 + (4 * a1))), (0, .ref 0), (1, .int a1)]) (S' := [.int (v14 + v15), .int 99, .int (5 + v12), .ref 1]) (by decide +kernel) rfl ?_
          refine sm_scal [.int 99, .int (v14 + v15)] [.int (5 + v12), .ref 1] rfl C mw_X11_lesser ml_11_303 rfl ⟨by decide, by decide⟩ (Nat.le_of_ble_eq_true rfl) (by decide +kernel) (c_X11_lesser F 99 (v14 + v15) τ) (fun r16 τ17 => ?_)
          refine sm_ast 2244 C (ltM (krM11_0 (by decide +kernel : kdM 0 = 11)) (by decide)) (krM11_0 (by decide +kernel : kdM 0 = 11)) (nrM11_0 (by decide +kernel : kdM 0 = 11)) (by decide +kernel) (fun τ18 => ?_)
          refine sm_seg C [(.goto 27, 0)] (pc' := 185) (L' := [(2, .int (381 + (4 * a1))), (0, .ref 0), (1, .int a1)]) (S' := []) (by decide +kernel) rfl ?_
          exact sm_sub [1, 2] rfl (s_X11_court_j185 F C hr (X11_court_L2 F n) ih a1 τ18)
        refine sm_tabOut 161 C hd48 (by have q0 := toInt_neZ (z := 11) n48_0 (by decide); have q1 := toInt_neZ (z := 12) n48_1 (by decide); have q2 := toInt_neZ (z := 13) n48_2 (by decide); omega) (by decide) ?_
        refine sm_seg C [(.aload_n 0, 0)] (pc' := 162) (L' := [(2, .int (381 + (4 * a1))), (0, .ref 0), (1, .int a1)]) (S' := [.ref 0]) (by decide +kernel) rfl ?_
        refine sm_getR 11 0 1 cls11 C (ltM (by decide +kernel : kdM 0 = 11) (by decide)) (by decide +kernel : kdM 0 = 11) (obM11 (by decide +kernel : kdM 0 = 11)) (by decide) (frM11_0 (by decide +kernel : kdM 0 = 11)) fl11_7 (by decide +kernel) ?_
        refine sm_seg C [(.bipush 59, 59), (.aload_n 0, 0)] (pc' := 168) (L' := [(2, .int (381 + (4 * a1))), (0, .ref 0), (1, .int a1)]) (S' := [.ref 0, .int 59, .ref 1]) (by decide +kernel) rfl ?_
        refine sm_getR 11 0 1 cls11 C (ltM (by decide +kernel : kdM 0 = 11) (by decide)) (by decide +kernel : kdM 0 = 11) (obM11 (by decide +kernel : kdM 0 = 11)) (by decide) (frM11_0 (by decide +kernel : kdM 0 = 11)) fl11_7 (by decide +kernel) ?_
        refine sm_seg C [(.iload_n 2, 0), (.iconst 2, 2), (.iadd, 0)] (pc' := 174) (L' := [(2, .int (381 + (4 * a1))), (0, .ref 0), (1, .int a1)]) (S' := [.int ((381 + (4 * a1)) + 2), .ref 1, .int 59, .ref 1]) (by decide +kernel) rfl ?_
        refine sm_ald 2244 C (ltM (krM11_0 (by decide +kernel : kdM 0 = 11)) (by decide)) (krM11_0 (by decide +kernel : kdM 0 = 11)) (nrM11_0 (by decide +kernel : kdM 0 = 11)) (by decide +kernel) (fun v19 => ?_)
        refine sm_seg C [(.iadd, 0), (.aload_n 0, 0)] (pc' := 177) (L' := [(2, .int (381 + (4 * a1))), (0, .ref 0), (1, .int a1)]) (S' := [.ref 0, .int (59 + v19), .ref 1]) (by decide +kernel) rfl ?_
        refine sm_getR 11 0 1 cls11 C (ltM (by decide +kernel : kdM 0 = 11) (by decide)) (by decide +kernel : kdM 0 = 11) (obM11 (by decide +kernel : kdM 0 = 11)) (by decide) (frM11_0 (by decide +kernel : kdM 0 = 11)) fl11_7 (by decide +kernel) ?_
        refine sm_seg C [(.iload_n 2, 0), (.iconst 3, 3), (.iadd, 0)] (pc' := 183) (L' := [(2, .int (381 + (4 * a1))), (0, .ref 0), (1, .int a1)]) (S' := [.int ((381 + (4 * a1)) + 3), .ref 1, .int (59 + v19), .ref 1]) (by decide +kernel) rfl ?_
        refine sm_ald 2244 C (ltM (krM11_0 (by decide +kernel : kdM 0 = 11)) (by decide)) (krM11_0 (by decide +kernel : kdM 0 = 11)) (nrM11_0 (by decide +kernel : kdM 0 = 11)) (by decide +kernel) (fun v20 => ?_)
        refine sm_ast 2244 C (ltM (krM11_0 (by decide +kernel : kdM 0 = 11)) (by decide)) (krM11_0 (by decide +kernel : kdM 0 = 11)) (nrM11_0 (by decide +kernel : kdM 0 = 11)) (by decide +kernel) (fun τ21 => ?_)
        exact sm_sub [1, 2] rfl (s_X11_court_j185 F C hr (X11_court_L2 F n) ih a1 τ21)
      · refine sm_seg C [(.goto 148, 0)] (pc' := 185) (L' := [(2, .int (381 + (4 * a1))), (0, .ref 0), (1, .int a1)]) (S' := []) (by decide +kernel) rfl ?_
        exact sm_sub [1, 2] rfl (s_X11_court_j185 F C hr (X11_court_L2 F n) ih a1 τ)
def X11_court (F : Nat) (τ : Tau) : Option (Int32 × Tau) :=
  X11_court_L2 F F 0 τ
set_option maxRecDepth 20000 in
set_option maxHeartbeats 4000000 in
theorem c_X11_court (F : Nat) (τ : Tau) (r : Int32) (τ' : Tau) (h : X11_court F τ = some (r, τ')) : MCv sysM yX11_court cX11_court 3 3 [.ref 0] τ τ' :=
  mcv_of (by decide +kernel) (Nat.le_of_ble_eq_true rfl) (fun K C hr => by
    show Sm K sysM 3 (Qv K sysM) (X11_court F τ) 0 [(0, .ref 0)] [] τ
    unfold X11_court
    refine sm_seg C [(.iconst 0, 0), (.istore_n 1, 0)] (pc' := 2) (L' := [(1, .int 0), (0, .ref 0)]) (S' := []) (by decide +kernel) rfl ?_
    exact sm_sub [1, 0] rfl (s_X11_court_L2 F C hr F 0 τ)) h
/-! BasketEnvoysModel.criesOut -/
def X11_criesOut_j49 (F : Nat) (a1 : Int32) (a2 : Int32) (τ : Tau) : Option (Int32 × Tau) :=
  ast τ 1 2244 (5 + a2) 0 fun τ4 => ast τ4 1 2244 (15 + a2) 0 fun τ5 => ast τ5 1 2244 (87 + a1) (-1) fun τ6 => ald τ6 1 2244 0 fun v7 => cal (X11_notes F 4 a1 v7 τ6) fun r8 τ9 => some (0, τ9)
theorem s_X11_criesOut_j49 (F : Nat) {K : Ctx} (C : Cx K sysM RX11 cX11_criesOut 3 2) (hr : Rt K none) (a1 : Int32) (a2 : Int32) (τ : Tau) : Sm K sysM 3 (Qv K sysM) (X11_criesOut_j49 F a1 a2 τ) 49 [(0, .ref 0), (1, .int a1), (2, .int a2)] [] τ := by
  unfold X11_criesOut_j49
  refine sm_seg C [(.aload_n 0, 0)] (pc' := 50) (L' := [(0, .ref 0), (1, .int a1), (2, .int a2)]) (S' := [.ref 0]) (by decide +kernel) rfl ?_
  refine sm_getR 11 0 1 cls11 C (ltM (by decide +kernel : kdM 0 = 11) (by decide)) (by decide +kernel : kdM 0 = 11) (obM11 (by decide +kernel : kdM 0 = 11)) (by decide) (frM11_0 (by decide +kernel : kdM 0 = 11)) fl11_7 (by decide +kernel) ?_
  refine sm_seg C [(.iconst 5, 5), (.iload_n 2, 0), (.iadd, 0), (.iconst 0, 0)] (pc' := 57) (L' := [(0, .ref 0), (1, .int a1), (2, .int a2)]) (S' := [.int 0, .int (5 + a2), .ref 1]) (by decide +kernel) rfl ?_
  refine sm_ast 2244 C (ltM (krM11_0 (by decide +kernel : kdM 0 = 11)) (by decide)) (krM11_0 (by decide +kernel : kdM 0 = 11)) (nrM11_0 (by decide +kernel : kdM 0 = 11)) (by decide +kernel) (fun τ4 => ?_)
  refine sm_seg C [(.aload_n 0, 0)] (pc' := 59) (L' := [(0, .ref 0), (1, .int a1), (2, .int a2)]) (S' := [.ref 0]) (by decide +kernel) rfl ?_
  refine sm_getR 11 0 1 cls11 C (ltM (by decide +kernel : kdM 0 = 11) (by decide)) (by decide +kernel : kdM 0 = 11) (obM11 (by decide +kernel : kdM 0 = 11)) (by decide) (frM11_0 (by decide +kernel : kdM 0 = 11)) fl11_7 (by decide +kernel) ?_
  refine sm_seg C [(.bipush 15, 15), (.iload_n 2, 0), (.iadd, 0), (.iconst 0, 0)] (pc' := 67) (L' := [(0, .ref 0), (1, .int a1), (2, .int a2)]) (S' := [.int 0, .int (15 + a2), .ref 1]) (by decide +kernel) rfl ?_
  refine sm_ast 2244 C (ltM (krM11_0 (by decide +kernel : kdM 0 = 11)) (by decide)) (krM11_0 (by decide +kernel : kdM 0 = 11)) (nrM11_0 (by decide +kernel : kdM 0 = 11)) (by decide +kernel) (fun τ5 => ?_)
  refine sm_seg C [(.aload_n 0, 0)] (pc' := 69) (L' := [(0, .ref 0), (1, .int a1), (2, .int a2)]) (S' := [.ref 0]) (by decide +kernel) rfl ?_
  refine sm_getR 11 0 1 cls11 C (ltM (by decide +kernel : kdM 0 = 11) (by decide)) (by decide +kernel : kdM 0 = 11) (obM11 (by decide +kernel : kdM 0 = 11)) (by decide) (frM11_0 (by decide +kernel : kdM 0 = 11)) fl11_7 (by decide +kernel) ?_
  refine sm_seg C [(.bipush 87, 87), (.iload_n 1, 0), (.iadd, 0), (.iconst (-1), (-1))] (pc' := 77) (L' := [(0, .ref 0), (1, .int a1), (2, .int a2)]) (S' := [.int (-1), .int (87 + a1), .ref 1]) (by decide +kernel) rfl ?_
  refine sm_ast 2244 C (ltM (krM11_0 (by decide +kernel : kdM 0 = 11)) (by decide)) (krM11_0 (by decide +kernel : kdM 0 = 11)) (nrM11_0 (by decide +kernel : kdM 0 = 11)) (by decide +kernel) (fun τ6 => ?_)
  refine sm_seg C [(.aload_n 0, 0), (.iconst 4, 4), (.iload_n 1, 0), (.aload_n 0, 0)] (pc' := 82) (L' := [(0, .ref 0), (1, .int a1), (2, .int a2)]) (S' := [.ref 0, .int a1, .int 4, .ref 0]) (by decide +kernel) rfl ?_
  refine sm_getR 11 0 1 cls11 C (ltM (by decide +kernel : kdM 0 = 11) (by decide)) (by decide +kernel : kdM 0 = 11) (obM11 (by decide +kernel : kdM 0 = 11)) (by decide) (frM11_0 (by decide +kernel : kdM 0 = 11)) fl11_7 (by decide +kernel) ?_
  refine sm_seg C [(.iconst 0, 0)] (pc' := 86) (L' := [(0, .ref 0), (1, .int a1), (2, .int a2)]) (S' := [.int 0, .ref 1, .int a1, .int 4, .ref 0]) (by decide +kernel) rfl ?_
  refine sm_ald 2244 C (ltM (krM11_0 (by decide +kernel : kdM 0 = 11)) (by decide)) (krM11_0 (by decide +kernel : kdM 0 = 11)) (nrM11_0 (by decide +kernel : kdM 0 = 11)) (by decide +kernel) (fun v7 => ?_)
  refine sm_vcalv [.int 4, .int a1, .int v7] [] rfl C mw_X11_notes ml_11_325 rfl (ci := 11) rfl (ltM (by decide +kernel : kdM 0 = 11) (by decide)) (by decide +kernel : kdM 0 = 11) (by decide) ⟨by decide, by decide⟩ (Nat.le_of_ble_eq_true rfl) (by decide +kernel) (c_X11_notes F 4 a1 v7 τ6) (fun r8 τ9 => ?_)
  exact sm_vret C hr (by decide +kernel)
def X11_criesOut (F : Nat) (a1 : Int32) (τ : Tau) : Option (Int32 × Tau) :=
  ald τ 1 2244 (87 + a1) fun v1 => ast τ 1 2244 (101 + a1) 1 fun τ2 => ald τ2 1 2244 0 fun v3 => if v3 ≤ 0 then (X11_criesOut_j49 F a1 v1 τ2) else (ald τ2 1 2244 0 fun v10 => ast τ2 1 2244 0 (v10 - 1) fun τ11 => ald τ11 1 2244 1 fun v12 => ast τ11 1 2244 1 (v12 + 1) fun τ13 => X11_criesOut_j49 F a1 v1 τ13)
set_option maxRecDepth 20000 in
set_option maxHeartbeats 4000000 in
theorem c_X11_criesOut (F : Nat) (a1 : Int32) (τ : Tau) (r : Int32) (τ' : Tau) (h : X11_criesOut F a1 τ = some (r, τ')) : MCv sysM yX11_criesOut cX11_criesOut 3 2 [.ref 0, .int a1] τ τ' :=
  mcv_of (by decide +kernel) (Nat.le_of_ble_eq_true rfl) (fun K C hr => by
    show Sm K sysM 3 (Qv K sysM) (X11_criesOut F a1 τ) 0 [(0, .ref 0), (1, .int a1)] [] τ
    unfold X11_criesOut
    refine sm_seg C [(.aload_n 0, 0)] (pc' := 1) (L' := [(0, .ref 0), (1, .int a1)]) (S' := [.ref 0]) (by decide +kernel) rfl ?_
    refine sm_getR 11 0 1 cls11 C (ltM (by decide +kernel : kdM 0 = 11) (by decide)) (by decide +kernel : kdM 0 = 11) (obM11 (by decide +kernel : kdM 0 = 11)) (by decide) (frM11_0 (by decide +kernel : kdM 0 = 11)) fl11_7 (by decide +kernel) ?_
    refine sm_seg C [(.bipush 87, 87), (.iload_n 1, 0), (.iadd, 0)] (pc' := 8) (L' := [(0, .ref 0), (1, .int a1)]) (S' := [.int (87 + a1), .ref 1]) (by decide +kernel) rfl ?_
    refine sm_ald 2244 C (ltM (krM11_0 (by decide +kernel : kdM 0 = 11)) (by decide)) (krM11_0 (by decide +kernel : kdM 0 = 11)) (nrM11_0 (by decide +kernel : kdM 0 = 11)) (by decide +kernel) (fun v1 => ?_)
    refine sm_seg C [(.istore_n 2, 0), (.aload_n 0, 0)] (pc' := 11) (L' := [(2, .int v1), (0, .ref 0), (1, .int a1)]) (S' := [.ref 0]) (by decide +kernel) rfl ?_
    refine sm_getR 11 0 1 cls11 C (ltM (by decide +kernel : kdM 0 = 11) (by decide)) (by decide +kernel : kdM 0 = 11) (obM11 (by decide +kernel : kdM 0 = 11)) (by decide) (frM11_0 (by decide +kernel : kdM 0 = 11)) fl11_7 (by decide +kernel) ?_
    refine sm_seg C [(.bipush 101, 101), (.iload_n 1, 0), (.iadd, 0), (.iconst 1, 1)] (pc' := 19) (L' := [(2, .int v1), (0, .ref 0), (1, .int a1)]) (S' := [.int 1, .int (101 + a1), .ref 1]) (by decide +kernel) rfl ?_
    refine sm_ast 2244 C (ltM (krM11_0 (by decide +kernel : kdM 0 = 11)) (by decide)) (krM11_0 (by decide +kernel : kdM 0 = 11)) (nrM11_0 (by decide +kernel : kdM 0 = 11)) (by decide +kernel) (fun τ2 => ?_)
    refine sm_seg C [(.aload_n 0, 0)] (pc' := 21) (L' := [(2, .int v1), (0, .ref 0), (1, .int a1)]) (S' := [.ref 0]) (by decide +kernel) rfl ?_
    refine sm_getR 11 0 1 cls11 C (ltM (by decide +kernel : kdM 0 = 11) (by decide)) (by decide +kernel : kdM 0 = 11) (obM11 (by decide +kernel : kdM 0 = 11)) (by decide) (frM11_0 (by decide +kernel : kdM 0 = 11)) fl11_7 (by decide +kernel) ?_
    refine sm_seg C [(.iconst 0, 0)] (pc' := 25) (L' := [(2, .int v1), (0, .ref 0), (1, .int a1)]) (S' := [.int 0, .ref 1]) (by decide +kernel) rfl ?_
    refine sm_ald 2244 C (ltM (krM11_0 (by decide +kernel : kdM 0 = 11)) (by decide)) (krM11_0 (by decide +kernel : kdM 0 = 11)) (nrM11_0 (by decide +kernel : kdM 0 = 11)) (by decide +kernel) (fun v3 => ?_)
    refine sm_ifle 49 (off := 23) C (by decide +kernel) (by decide) (fun _ => ?_) (fun _ => ?_)
    · exact sm_sub [1, 2, 0] rfl (s_X11_criesOut_j49 F C hr a1 v1 τ2)
    · refine sm_seg C [(.aload_n 0, 0)] (pc' := 30) (L' := [(2, .int v1), (0, .ref 0), (1, .int a1)]) (S' := [.ref 0]) (by decide +kernel) rfl ?_
      refine sm_getR 11 0 1 cls11 C (ltM (by decide +kernel : kdM 0 = 11) (by decide)) (by decide +kernel : kdM 0 = 11) (obM11 (by decide +kernel : kdM 0 = 11)) (by decide) (frM11_0 (by decide +kernel : kdM 0 = 11)) fl11_7 (by decide +kernel) ?_
      refine sm_seg C [(.iconst 0, 0), (.dup2, 0)] (pc' := 35) (L' := [(2, .int v1), (0, .ref 0), (1, .int a1)]) (S' := [.int 0, .ref 1, .int 0, .ref 1]) (by decide +kernel) rfl ?_
      refine sm_ald 2244 C (ltM (krM11_0 (by decide +kernel : kdM 0 = 11)) (by decide)) (krM11_0 (by decide +kernel : kdM 0 = 11)) (nrM11_0 (by decide +kernel : kdM 0 = 11)) (by decide +kernel) (fun v10 => ?_)
      refine sm_seg C [(.iconst 1, 1), (.isub, 0)] (pc' := 38) (L' := [(2, .int v1), (0, .ref 0), (1, .int a1)]) (S' := [.int (v10 - 1), .int 0, .ref 1]) (by decide +kernel) rfl ?_
      refine sm_ast 2244 C (ltM (krM11_0 (by decide +kernel : kdM 0 = 11)) (by decide)) (krM11_0 (by decide +kernel : kdM 0 = 11)) (nrM11_0 (by decide +kernel : kdM 0 = 11)) (by decide +kernel) (fun τ11 => ?_)
      refine sm_seg C [(.aload_n 0, 0)] (pc' := 40) (L' := [(2, .int v1), (0, .ref 0), (1, .int a1)]) (S' := [.ref 0]) (by decide +kernel) rfl ?_
      refine sm_getR 11 0 1 cls11 C (ltM (by decide +kernel : kdM 0 = 11) (by decide)) (by decide +kernel : kdM 0 = 11) (obM11 (by decide +kernel : kdM 0 = 11)) (by decide) (frM11_0 (by decide +kernel : kdM 0 = 11)) fl11_7 (by decide +kernel) ?_
      refine sm_seg C [(.iconst 1, 1), (.dup2, 0)] (pc' := 45) (L' := [(2, .int v1), (0, .ref 0), (1, .int a1)]) (S' := [.int 1, .ref 1, .int 1, .ref 1]) (by decide +kernel) rfl ?_
      refine sm_ald 2244 C (ltM (krM11_0 (by decide +kernel : kdM 0 = 11)) (by decide)) (krM11_0 (by decide +kernel : kdM 0 = 11)) (nrM11_0 (by decide +kernel : kdM 0 = 11)) (by decide +kernel) (fun v12 => ?_)
      refine sm_seg C [(.iconst 1, 1), (.iadd, 0)] (pc' := 48) (L' := [(2, .int v1), (0, .ref 0), (1, .int a1)]) (S' := [.int (v12 + 1), .int 1, .ref 1]) (by decide +kernel) rfl ?_
      refine sm_ast 2244 C (ltM (krM11_0 (by decide +kernel : kdM 0 = 11)) (by decide)) (krM11_0 (by decide +kernel : kdM 0 = 11)) (nrM11_0 (by decide +kernel : kdM 0 = 11)) (by decide +kernel) (fun τ13 => ?_)
      exact sm_sub [1, 2, 0] rfl (s_X11_criesOut_j49 F C hr a1 v1 τ13)) h
/-! BasketEnvoysModel.nextThing -/
def X11_nextThing (F : Nat) (a1 : Int32) (τ : Tau) : Option (Int32 × Tau) :=
  ald τ 1 2244 (129 + a1) fun v1 => ald τ 1 2244 (115 + a1) fun v2 => if v2 ≤ v1 then (some ((-1), τ)) else (ald τ 1 2244 (129 + a1) fun v3 => ald τ 1 2244 ((143 + (8 * a1)) + v3) fun v4 => some (v4, τ))
set_option maxRecDepth 20000 in
set_option maxHeartbeats 4000000 in
theorem c_X11_nextThing (F : Nat) (a1 : Int32) (τ : Tau) (r : Int32) (τ' : Tau) (h : X11_nextThing F a1 τ = some (r, τ')) : MCi sysM yX11_nextThing cX11_nextThing 2 (some .int) 1 [.ref 0, .int a1] τ r τ' :=
  mci_of (by decide +kernel) (Nat.le_of_ble_eq_true rfl) (fun K C hr => by
    show Sm K sysM 2 (Qi K sysM) (X11_nextThing F a1 τ) 0 [(0, .ref 0), (1, .int a1)] [] τ
    unfold X11_nextThing
    refine sm_seg C [(.aload_n 0, 0)] (pc' := 1) (L' := [(0, .ref 0), (1, .int a1)]) (S' := [.ref 0]) (by decide +kernel) rfl ?_
    refine sm_getR 11 0 1 cls11 C (ltM (by decide +kernel : kdM 0 = 11) (by decide)) (by decide +kernel : kdM 0 = 11) (obM11 (by decide +kernel : kdM 0 = 11)) (by decide) (frM11_0 (by decide +kernel : kdM 0 = 11)) fl11_7 (by decide +kernel) ?_
    refine sm_seg C [(.sipush 129, 129), (.iload_n 1, 0), (.iadd, 0)] (pc' := 9) (L' := [(0, .ref 0), (1, .int a1)]) (S' := [.int (129 + a1), .ref 1]) (by decide +kernel) rfl ?_
    refine sm_ald 2244 C (ltM (krM11_0 (by decide +kernel : kdM 0 = 11)) (by decide)) (krM11_0 (by decide +kernel : kdM 0 = 11)) (nrM11_0 (by decide +kernel : kdM 0 = 11)) (by decide +kernel) (fun v1 => ?_)
    refine sm_seg C [(.aload_n 0, 0)] (pc' := 11) (L' := [(0, .ref 0), (1, .int a1)]) (S' := [.ref 0, .int v1]) (by decide +kernel) rfl ?_
    refine sm_getR 11 0 1 cls11 C (ltM (by decide +kernel : kdM 0 = 11) (by decide)) (by decide +kernel : kdM 0 = 11) (obM11 (by decide +kernel : kdM 0 = 11)) (by decide) (frM11_0 (by decide +kernel : kdM 0 = 11)) fl11_7 (by decide +kernel) ?_
    refine sm_seg C [(.bipush 115, 115), (.iload_n 1, 0), (.iadd, 0)] (pc' := 18) (L' := [(0, .ref 0), (1, .int a1)]) (S' := [.int (115 + a1), .ref 1, .int v1]) (by decide +kernel) rfl ?_
    refine sm_ald 2244 C (ltM (krM11_0 (by decide +kernel : kdM 0 = 11)) (by decide)) (krM11_0 (by decide +kernel : kdM 0 = 11)) (nrM11_0 (by decide +kernel : kdM 0 = 11)) (by decide +kernel) (fun v2 => ?_)
    refine sm_icmpge 49 (off := 30) C (by decide +kernel) (by decide) (fun _ => ?_) (fun _ => ?_)
    · refine sm_seg C [(.iconst (-1), (-1))] (pc' := 50) (L' := [(0, .ref 0), (1, .int a1)]) (S' := [.int (-1)]) (by decide +kernel) rfl ?_
      exact sm_iret C hr rfl (by decide +kernel)
    · refine sm_seg C [(.aload_n 0, 0)] (pc' := 23) (L' := [(0, .ref 0), (1, .int a1)]) (S' := [.ref 0]) (by decide +kernel) rfl ?_
      refine sm_getR 11 0 1 cls11 C (ltM (by decide +kernel : kdM 0 = 11) (by decide)) (by decide +kernel : kdM 0 = 11) (obM11 (by decide +kernel : kdM 0 = 11)) (by decide) (frM11_0 (by decide +kernel : kdM 0 = 11)) fl11_7 (by decide +kernel) ?_
      refine sm_seg C [(.sipush 143, 143), (.bipush 8, 8), (.iload_n 1, 0), (.imul, 0), (.iadd, 0), (.aload_n 0, 0)] (pc' := 35) (L' := [(0, .ref 0), (1, .int a1)]) (S' := [.ref 0, .int (143 + (8 * a1)), .ref 1]) (by decide +kernel) rfl ?_
      refine sm_getR 11 0 1 cls11 C (ltM (by decide +kernel : kdM 0 = 11) (by decide)) (by decide +kernel : kdM 0 = 11) (obM11 (by decide +kernel : kdM 0 = 11)) (by decide) (frM11_0 (by decide +kernel : kdM 0 = 11)) fl11_7 (by decide +kernel) ?_
      refine sm_seg C [(.sipush 129, 129), (.iload_n 1, 0), (.iadd, 0)] (pc' := 43) (L' := [(0, .ref 0), (1, .int a1)]) (S' := [.int (129 + a1), .ref 1, .int (143 + (8 * a1)), .ref 1]) (by decide +kernel) rfl ?_
      refine sm_ald 2244 C (ltM (krM11_0 (by decide +kernel : kdM 0 = 11)) (by decide)) (krM11_0 (by decide +kernel : kdM 0 = 11)) (nrM11_0 (by decide +kernel : kdM 0 = 11)) (by decide +kernel) (fun v3 => ?_)
      refine sm_seg C [(.iadd, 0)] (pc' := 45) (L' := [(0, .ref 0), (1, .int a1)]) (S' := [.int ((143 + (8 * a1)) + v3), .ref 1]) (by decide +kernel) rfl ?_
      refine sm_ald 2244 C (ltM (krM11_0 (by decide +kernel : kdM 0 = 11)) (by decide)) (krM11_0 (by decide +kernel : kdM 0 = 11)) (nrM11_0 (by decide +kernel : kdM 0 = 11)) (by decide +kernel) (fun v4 => ?_)
      refine sm_seg C [(.goto 4, 0)] (pc' := 50) (L' := [(0, .ref 0), (1, .int a1)]) (S' := [.int v4]) (by decide +kernel) rfl ?_
      exact sm_iret C hr rfl (by decide +kernel)) h
/-! BasketEnvoysModel.nodsOf -/
def X11_nodsOf (F : Nat) (a1 : Int32) (a2 : Int32) (τ : Tau) : Option (Int32 × Tau) :=
  cal (X11_asks F a1 a2 τ) fun r1 τ2 => ald τ2 1 2244 (45 + a1) fun v3 => ald τ2 1 2244 (87 + a1) fun v4 => ald τ2 1 2244 (5 + v4) fun v5 => cal (X11_lawSays F 20 ((60 * v3) + (5 * v5)) 1000 τ2) fun r6 τ7 => some (r6, τ7)
set_option maxRecDepth 20000 in
set_option maxHeartbeats 4000000 in
theorem c_X11_nodsOf (F : Nat) (a1 : Int32) (a2 : Int32) (τ : Tau) (r : Int32) (τ' : Tau) (h : X11_nodsOf F a1 a2 τ = some (r, τ')) : MCi sysM yX11_nodsOf cX11_nodsOf 3 (some .int) 5 [.ref 0, .int a1, .int a2] τ r τ' :=
  mci_of (by decide +kernel) (Nat.le_of_ble_eq_true rfl) (fun K C hr => by
    show Sm K sysM 3 (Qi K sysM) (X11_nodsOf F a1 a2 τ) 0 [(0, .ref 0), (1, .int a1), (2, .int a2)] [] τ
    unfold X11_nodsOf
    refine sm_seg C [(.aload_n 0, 0), (.iload_n 1, 0), (.iload_n 2, 0)] (pc' := 3) (L' := [(0, .ref 0), (1, .int a1), (2, .int a2)]) (S' := [.int a2, .int a1, .ref 0]) (by decide +kernel) rfl ?_
    refine sm_vcalv [.int a1, .int a2] [] rfl C mw_X11_asks ml_11_312 rfl (ci := 11) rfl (ltM (by decide +kernel : kdM 0 = 11) (by decide)) (by decide +kernel : kdM 0 = 11) (by decide) ⟨by decide, by decide⟩ (Nat.le_of_ble_eq_true rfl) (by decide +kernel) (c_X11_asks F a1 a2 τ) (fun r1 τ2 => ?_)
    refine sm_seg C [(.aload_n 0, 0), (.bipush 20, 20), (.bipush 60, 60), (.aload_n 0, 0)] (pc' := 12) (L' := [(0, .ref 0), (1, .int a1), (2, .int a2)]) (S' := [.ref 0, .int 60, .int 20, .ref 0]) (by decide +kernel) rfl ?_
    refine sm_getR 11 0 1 cls11 C (ltM (by decide +kernel : kdM 0 = 11) (by decide)) (by decide +kernel : kdM 0 = 11) (obM11 (by decide +kernel : kdM 0 = 11)) (by decide) (frM11_0 (by decide +kernel : kdM 0 = 11)) fl11_7 (by decide +kernel) ?_
    refine sm_seg C [(.bipush 45, 45), (.iload_n 1, 0), (.iadd, 0)] (pc' := 19) (L' := [(0, .ref 0), (1, .int a1), (2, .int a2)]) (S' := [.int (45 + a1), .ref 1, .int 60, .int 20, .ref 0]) (by decide +kernel) rfl ?_
    refine sm_ald 2244 C (ltM (krM11_0 (by decide +kernel : kdM 0 = 11)) (by decide)) (krM11_0 (by decide +kernel : kdM 0 = 11)) (nrM11_0 (by decide +kernel : kdM 0 = 11)) (by decide +kernel) (fun v3 => ?_)
    refine sm_seg C [(.imul, 0), (.iconst 5, 5), (.aload_n 0, 0)] (pc' := 23) (L' := [(0, .ref 0), (1, .int a1), (2, .int a2)]) (S' := [.ref 0, .int 5, .int (60 * v3), .int 20, .ref 0]) (by decide +kernel) rfl ?_
    refine sm_getR 11 0 1 cls11 C (ltM (by decide +kernel : kdM 0 = 11) (by decide)) (by decide +kernel : kdM 0 = 11) (obM11 (by decide +kernel : kdM 0 = 11)) (by decide) (frM11_0 (by decide +kernel : kdM 0 = 11)) fl11_7 (by decide +kernel) ?_
    refine sm_seg C [(.iconst 5, 5), (.aload_n 0, 0)] (pc' := 28) (L' := [(0, .ref 0), (1, .int a1), (2, .int a2)]) (S' := [.ref 0, .int 5, .ref 1, .int 5, .int (60 * v3), .int 20, .ref 0]) (by decide +kernel) rfl ?_
    refine sm_getR 11 0 1 cls11 C (ltM (by decide +kernel : kdM 0 = 11) (by decide)) (by decide +kernel : kdM 0 = 11) (obM11 (by decide +kernel : kdM 0 = 11)) (by decide) (frM11_0 (by decide +kernel : kdM 0 = 11)) fl11_7 (by decide +kernel) ?_
    refine sm_seg C [(.bipush 87, 87), (.iload_n 1, 0), (.iadd, 0)] (pc' := 35) (L' := [(0, .ref 0), (1, .int a1), (2, .int a2)]) (S' := [.int (87 + a1), .ref 1, .int 5, .ref 1, .int 5, .int (60 * v3), .int 20, .ref 0]) (by decide +kernel) rfl ?_
    refine sm_ald 2244 C (ltM (krM11_0 (by decide +kernel : kdM 0 = 11)) (by decide)) (krM11_0 (by decide +kernel : kdM 0 = 11)) (nrM11_0 (by decide +kernel : kdM 0 = 11)) (by decide +kernel) (fun v4 => ?_)
    refine sm_seg C [(.iadd, 0)] (pc' := 37) (L' := [(0, .ref 0), (1, .int a1), (2, .int a2)]) (S' := [.int (5 + v4), .ref 1, .int 5, .int (60 * v3), .int 20, .ref 0]) (by decide +kernel) rfl ?_
    refine sm_ald 2244 C (ltM (krM11_0 (by decide +kernel : kdM 0 = 11)) (by decide)) (krM11_0 (by decide +kernel : kdM 0 = 11)) (nrM11_0 (by decide +kernel : kdM 0 = 11)) (by decide +kernel) (fun v5 => ?_)
    refine sm_seg C [(.imul, 0), (.iadd, 0), (.sipush 1000, 1000)] (pc' := 43) (L' := [(0, .ref 0), (1, .int a1), (2, .int a2)]) (S' := [.int 1000, .int ((60 * v3) + (5 * v5)), .int 20, .ref 0]) (by decide +kernel) rfl ?_
    refine sm_vcal [.int 20, .int ((60 * v3) + (5 * v5)), .int 1000] [] rfl C mw_X11_lawSays ml_11_315 rfl (ci := 11) rfl (ltM (by decide +kernel : kdM 0 = 11) (by decide)) (by decide +kernel : kdM 0 = 11) (by decide) ⟨by decide, by decide⟩ (Nat.le_of_ble_eq_true rfl) (by decide +kernel) (c_X11_lawSays F 20 ((60 * v3) + (5 * v5)) 1000 τ2) (fun r6 τ7 => ?_)
    exact sm_iret C hr rfl (by decide +kernel)) h
/-! BasketEnvoysModel.winsOf -/
def X11_winsOf (F : Nat) (a1 : Int32) (a2 : Int32) (τ : Tau) : Option (Int32 × Tau) :=
  cal (X11_asks F a1 a2 τ) fun r1 τ2 => cal (X11_lawSays F 22 1 99 τ2) fun r3 τ4 => some (r3, τ4)
set_option maxRecDepth 20000 in
set_option maxHeartbeats 4000000 in
theorem c_X11_winsOf (F : Nat) (a1 : Int32) (a2 : Int32) (τ : Tau) (r : Int32) (τ' : Tau) (h : X11_winsOf F a1 a2 τ = some (r, τ')) : MCi sysM yX11_winsOf cX11_winsOf 3 (some .int) 5 [.ref 0, .int a1, .int a2] τ r τ' :=
  mci_of (by decide +kernel) (Nat.le_of_ble_eq_true rfl) (fun K C hr => by
    show Sm K sysM 3 (Qi K sysM) (X11_winsOf F a1 a2 τ) 0 [(0, .ref 0), (1, .int a1), (2, .int a2)] [] τ
    unfold X11_winsOf
    refine sm_seg C [(.aload_n 0, 0), (.iload_n 1, 0), (.iload_n 2, 0)] (pc' := 3) (L' := [(0, .ref 0), (1, .int a1), (2, .int a2)]) (S' := [.int a2, .int a1, .ref 0]) (by decide +kernel) rfl ?_
    refine sm_vcalv [.int a1, .int a2] [] rfl C mw_X11_asks ml_11_312 rfl (ci := 11) rfl (ltM (by decide +kernel : kdM 0 = 11) (by decide)) (by decide +kernel : kdM 0 = 11) (by decide) ⟨by decide, by decide⟩ (Nat.le_of_ble_eq_true rfl) (by decide +kernel) (c_X11_asks F a1 a2 τ) (fun r1 τ2 => ?_)
    refine sm_seg C [(.aload_n 0, 0), (.bipush 22, 22), (.iconst 1, 1), (.bipush 99, 99)] (pc' := 12) (L' := [(0, .ref 0), (1, .int a1), (2, .int a2)]) (S' := [.int 99, .int 1, .int 22, .ref 0]) (by decide +kernel) rfl ?_
    refine sm_vcal [.int 22, .int 1, .int 99] [] rfl C mw_X11_lawSays ml_11_315 rfl (ci := 11) rfl (ltM (by decide +kernel : kdM 0 = 11) (by decide)) (by decide +kernel : kdM 0 = 11) (by decide) ⟨by decide, by decide⟩ (Nat.le_of_ble_eq_true rfl) (by decide +kernel) (c_X11_lawSays F 22 1 99 τ2) (fun r3 τ4 => ?_)
    exact sm_iret C hr rfl (by decide +kernel)) h
/-! BasketEnvoysModel.isRead -/
def X11_isRead (F : Nat) (a1 : Int32) (a2 : Int32) (a3 : Int32) (τ : Tau) : Option (Int32 × Tau) :=
  ald τ 1 2244 (445 + (7 * a2)) fun v1 => if v1 = 0 then (some (0, τ)) else (ald τ 1 2244 (15 + a2) fun v2 => ald τ 1 2244 (((445 + (7 * a2)) + 1) + v2) fun v3 => if v3 = a3 then (ald τ 1 2244 (15 + a2) fun v4 => ast τ 1 2244 (15 + a2) (v4 + 1) fun τ5 => ald τ5 1 2244 (15 + a2) fun v6 => if v1 ≤ v6 then (ald τ5 1 2244 (35 + a2) fun v7 => ast τ5 1 2244 (35 + a2) (v7 + 1) fun τ8 => ast τ8 1 2244 (15 + a2) 0 fun τ9 => cal (X11_notes F 3 a1 a2 τ9) fun r10 τ11 => some (0, τ11)) else (some (0, τ5))) else (ast τ 1 2244 (15 + a2) 0 fun τ12 => some (0, τ12)))
set_option maxRecDepth 20000 in
set_option maxHeartbeats 4000000 in
theorem c_X11_isRead (F : Nat) (a1 : Int32) (a2 : Int32) (a3 : Int32) (τ : Tau) (r : Int32) (τ' : Tau) (h : X11_isRead F a1 a2 a3 τ = some (r, τ')) : MCv sysM yX11_isRead cX11_isRead 5 2 [.ref 0, .int a1, .int a2, .int a3] τ τ' :=
  mcv_of (by decide +kernel) (Nat.le_of_ble_eq_true rfl) (fun K C hr => by
    show Sm K sysM 5 (Qv K sysM) (X11_isRead F a1 a2 a3 τ) 0 [(0, .ref 0), (1, .int a1), (2, .int a2), (3, .int a3)] [] τ
    unfold X11_isRead
    refine sm_seg C [(.aload_n 0, 0)] (pc' := 1) (L' := [(0, .ref 0), (1, .int a1), (2, .int a2), (3, .int a3)]) (S' := [.ref 0]) (by decide +kernel) rfl ?_
    refine sm_getR 11 0 1 cls11 C (ltM (by decide +kernel : kdM 0 = 11) (by decide)) (by decide +kernel : kdM 0 = 11) (obM11 (by decide +kernel : kdM 0 = 11)) (by decide) (frM11_0 (by decide +kernel : kdM 0 = 11)) fl11_7 (by decide +kernel) ?_
    refine sm_seg C [(.sipush 445, 445), (.bipush 7, 7), (.iload_n 2, 0), (.imul, 0), (.iadd, 0)] (pc' := 12) (L' := [(0, .ref 0), (1, .int a1), (2, .int a2), (3, .int a3)]) (S' := [.int (445 + (7 * a2)), .ref 1]) (by decide +kernel) rfl ?_
    refine sm_ald 2244 C (ltM (krM11_0 (by decide +kernel : kdM 0 = 11)) (by decide)) (krM11_0 (by decide +kernel : kdM 0 = 11)) (nrM11_0 (by decide +kernel : kdM 0 = 11)) (by decide +kernel) (fun v1 => ?_)
    refine sm_seg C [(.istore 4, 0), (.iload 4, 0)] (pc' := 17) (L' := [(4, .int v1), (0, .ref 0), (1, .int a1), (2, .int a2), (3, .int a3)]) (S' := [.int v1]) (by decide +kernel) rfl ?_
    refine sm_ifne 21 (off := 4) C (by decide +kernel) (by decide) (fun _ => ?_) (fun _ => ?_)
    · exact sm_vret C hr (by decide +kernel)
    · refine sm_seg C [(.aload_n 0, 0)] (pc' := 22) (L' := [(4, .int v1), (0, .ref 0), (1, .int a1), (2, .int a2), (3, .int a3)]) (S' := [.ref 0]) (by decide +kernel) rfl ?_
      refine sm_getR 11 0 1 cls11 C (ltM (by decide +kernel : kdM 0 = 11) (by decide)) (by decide +kernel : kdM 0 = 11) (obM11 (by decide +kernel : kdM 0 = 11)) (by decide) (frM11_0 (by decide +kernel : kdM 0 = 11)) fl11_7 (by decide +kernel) ?_
      refine sm_seg C [(.sipush 445, 445), (.bipush 7, 7), (.iload_n 2, 0), (.imul, 0), (.iadd, 0), (.iconst 1, 1), (.iadd, 0), (.aload_n 0, 0)] (pc' := 36) (L' := [(4, .int v1), (0, .ref 0), (1, .int a1), (2, .int a2), (3, .int a3)]) (S' := [.ref 0, .int ((445 + (7 * a2)) + 1), .ref 1]) (by decide +kernel) rfl ?_
      refine sm_getR 11 0 1 cls11 C (ltM (by decide +kernel : kdM 0 = 11) (by decide)) (by decide +kernel : kdM 0 = 11) (obM11 (by decide +kernel : kdM 0 = 11)) (by decide) (frM11_0 (by decide +kernel : kdM 0 = 11)) fl11_7 (by decide +kernel) ?_
      refine sm_seg C [(.bipush 15, 15), (.iload_n 2, 0), (.iadd, 0)] (pc' := 43) (L' := [(4, .int v1), (0, .ref 0), (1, .int a1), (2, .int a2), (3, .int a3)]) (S' := [.int (15 + a2), .ref 1, .int ((445 + (7 * a2)) + 1), .ref 1]) (by decide +kernel) rfl ?_
      refine sm_ald 2244 C (ltM (krM11_0 (by decide +kernel : kdM 0 = 11)) (by decide)) (krM11_0 (by decide +kernel : kdM 0 = 11)) (nrM11_0 (by decide +kernel : kdM 0 = 11)) (by decide +kernel) (fun v2 => ?_)
      refine sm_seg C [(.iadd, 0)] (pc' := 45) (L' := [(4, .int v1), (0, .ref 0), (1, .int a1), (2, .int a2), (3, .int a3)]) (S' := [.int (((445 + (7 * a2)) + 1) + v2), .ref 1]) (by decide +kernel) rfl ?_
      refine sm_ald 2244 C (ltM (krM11_0 (by decide +kernel : kdM 0 = 11)) (by decide)) (krM11_0 (by decide +kernel : kdM 0 = 11)) (nrM11_0 (by decide +kernel : kdM 0 = 11)) (by decide +kernel) (fun v3 => ?_)
      refine sm_seg C [(.iload_n 3, 0)] (pc' := 47) (L' := [(4, .int v1), (0, .ref 0), (1, .int a1), (2, .int a2), (3, .int a3)]) (S' := [.int a3, .int v3]) (by decide +kernel) rfl ?_
      refine sm_icmpeq 61 (off := 14) C (by decide +kernel) (by decide) (fun _ => ?_) (fun _ => ?_)
      · refine sm_seg C [(.aload_n 0, 0)] (pc' := 62) (L' := [(4, .int v1), (0, .ref 0), (1, .int a1), (2, .int a2), (3, .int a3)]) (S' := [.ref 0]) (by decide +kernel) rfl ?_
        refine sm_getR 11 0 1 cls11 C (ltM (by decide +kernel : kdM 0 = 11) (by decide)) (by decide +kernel : kdM 0 = 11) (obM11 (by decide +kernel : kdM 0 = 11)) (by decide) (frM11_0 (by decide +kernel : kdM 0 = 11)) fl11_7 (by decide +kernel) ?_
        refine sm_seg C [(.bipush 15, 15), (.iload_n 2, 0), (.iadd, 0), (.dup2, 0)] (pc' := 70) (L' := [(4, .int v1), (0, .ref 0), (1, .int a1), (2, .int a2), (3, .int a3)]) (S' := [.int (15 + a2), .ref 1, .int (15 + a2), .ref 1]) (by decide +kernel) rfl ?_
        refine sm_ald 2244 C (ltM (krM11_0 (by decide +kernel : kdM 0 = 11)) (by decide)) (krM11_0 (by decide +kernel : kdM 0 = 11)) (nrM11_0 (by decide +kernel : kdM 0 = 11)) (by decide +kernel) (fun v4 => ?_)
        refine sm_seg C [(.iconst 1, 1), (.iadd, 0)] (pc' := 73) (L' := [(4, .int v1), (0, .ref 0), (1, .int a1), (2, .int a2), (3, .int a3)]) (S' := [.int (v4 + 1), .int (15 + a2), .ref 1]) (by decide +kernel) rfl ?_
        refine sm_ast 2244 C (ltM (krM11_0 (by decide +kernel : kdM 0 = 11)) (by decide)) (krM11_0 (by decide +kernel : kdM 0 = 11)) (nrM11_0 (by decide +kernel : kdM 0 = 11)) (by decide +kernel) (fun τ5 => ?_)
        refine sm_seg C [(.aload_n 0, 0)] (pc' := 75) (L' := [(4, .int v1), (0, .ref 0), (1, .int a1), (2, .int a2), (3, .int a3)]) (S' := [.ref 0]) (by decide +kernel) rfl ?_
        refine sm_getR 11 0 1 cls11 C (ltM (by decide +kernel : kdM 0 = 11) (by decide)) (by decide +kernel : kdM 0 = 11) (obM11 (by decide +kernel : kdM 0 = 11)) (by decide) (frM11_0 (by decide +kernel : kdM 0 = 11)) fl11_7 (by decide +kernel) ?_
        refine sm_seg C [(.bipush 15, 15), (.iload_n 2, 0), (.iadd, 0)] (pc' := 82) (L' := [(4, .int v1), (0, .ref 0), (1, .int a1), (2, .int a2), (3, .int a3)]) (S' := [.int (15 + a2), .ref 1]) (by decide +kernel) rfl ?_
        refine sm_ald 2244 C (ltM (krM11_0 (by decide +kernel : kdM 0 = 11)) (by decide)) (krM11_0 (by decide +kernel : kdM 0 = 11)) (nrM11_0 (by decide +kernel : kdM 0 = 11)) (by decide +kernel) (fun v6 => ?_)
        refine sm_seg C [(.iload 4, 0)] (pc' := 85) (L' := [(4, .int v1), (0, .ref 0), (1, .int a1), (2, .int a2), (3, .int a3)]) (S' := [.int v1, .int v6]) (by decide +kernel) rfl ?_
        refine sm_icmpge 89 (off := 4) C (by decide +kernel) (by decide) (fun _ => ?_) (fun _ => ?_)
        · refine sm_seg C [(.aload_n 0, 0)] (pc' := 90) (L' := [(4, .int v1), (0, .ref 0), (1, .int a1), (2, .int a2), (3, .int a3)]) (S' := [.ref 0]) (by decide +kernel) rfl ?_
          refine sm_getR 11 0 1 cls11 C (ltM (by decide +kernel : kdM 0 = 11) (by decide)) (by decide +kernel : kdM 0 = 11) (obM11 (by decide +kernel : kdM 0 = 11)) (by decide) (frM11_0 (by decide +kernel : kdM 0 = 11)) fl11_7 (by decide +kernel) ?_
          refine sm_seg C [(.bipush 35, 35), (.iload_n 2, 0), (.iadd, 0), (.dup2, 0)] (pc' := 98) (L' := [(4, .int v1), (0, .ref 0), (1, .int a1), (2, .int a2), (3, .int a3)]) (S' := [.int (35 + a2), .ref 1, .int (35 + a2), .ref 1]) (by decide +kernel) rfl ?_
          refine sm_ald 2244 C (ltM (krM11_0 (by decide +kernel : kdM 0 = 11)) (by decide)) (krM11_0 (by decide +kernel : kdM 0 = 11)) (nrM11_0 (by decide +kernel : kdM 0 = 11)) (by decide +kernel) (fun v7 => ?_)
          refine sm_seg C [(.iconst 1, 1), (.iadd, 0)] (pc' := 101) (L' := [(4, .int v1), (0, .ref 0), (1, .int a1), (2, .int a2), (3, .int a3)]) (S' := [.int (v7 + 1), .int (35 + a2), .ref 1]) (by decide +kernel) rfl ?_
          refine sm_ast 2244 C (ltM (krM11_0 (by decide +kernel : kdM 0 = 11)) (by decide)) (krM11_0 (by decide +kernel : kdM 0 = 11)) (nrM11_0 (by decide +kernel : kdM 0 = 11)) (by decide +kernel) (fun τ8 => ?_)
          refine sm_seg C [(.aload_n 0, 0)] (pc' := 103) (L' := [(4, .int v1), (0, .ref 0), (1, .int a1), (2, .int a2), (3, .int a3)]) (S' := [.ref 0]) (by decide +kernel) rfl ?_
          refine sm_getR 11 0 1 cls11 C (ltM (by decide +kernel : kdM 0 = 11) (by decide)) (by decide +kernel : kdM 0 = 11) (obM11 (by decide +kernel : kdM 0 = 11)) (by decide) (frM11_0 (by decide +kernel : kdM 0 = 11)) fl11_7 (by decide +kernel) ?_
          refine sm_seg C [(.bipush 15, 15), (.iload_n 2, 0), (.iadd, 0), (.iconst 0, 0)] (pc' := 111) (L' := [(4, .int v1), (0, .ref 0), (1, .int a1), (2, .int a2), (3, .int a3)]) (S' := [.int 0, .int (15 + a2), .ref 1]) (by decide +kernel) rfl ?_
          refine sm_ast 2244 C (ltM (krM11_0 (by decide +kernel : kdM 0 = 11)) (by decide)) (krM11_0 (by decide +kernel : kdM 0 = 11)) (nrM11_0 (by decide +kernel : kdM 0 = 11)) (by decide +kernel) (fun τ9 => ?_)
          refine sm_seg C [(.aload_n 0, 0), (.iconst 3, 3), (.iload_n 1, 0), (.iload_n 2, 0)] (pc' := 116) (L' := [(4, .int v1), (0, .ref 0), (1, .int a1), (2, .int a2), (3, .int a3)]) (S' := [.int a2, .int a1, .int 3, .ref 0]) (by decide +kernel) rfl ?_
          refine sm_vcalv [.int 3, .int a1, .int a2] [] rfl C mw_X11_notes ml_11_325 rfl (ci := 11) rfl (ltM (by decide +kernel : kdM 0 = 11) (by decide)) (by decide +kernel : kdM 0 = 11) (by decide) ⟨by decide, by decide⟩ (Nat.le_of_ble_eq_true rfl) (by decide +kernel) (c_X11_notes F 3 a1 a2 τ9) (fun r10 τ11 => ?_)
          exact sm_vret C hr (by decide +kernel)
        · exact sm_vret C hr (by decide +kernel)
      · refine sm_seg C [(.aload_n 0, 0)] (pc' := 51) (L' := [(4, .int v1), (0, .ref 0), (1, .int a1), (2, .int a2), (3, .int a3)]) (S' := [.ref 0]) (by decide +kernel) rfl ?_
        refine sm_getR 11 0 1 cls11 C (ltM (by decide +kernel : kdM 0 = 11) (by decide)) (by decide +kernel : kdM 0 = 11) (obM11 (by decide +kernel : kdM 0 = 11)) (by decide) (frM11_0 (by decide +kernel : kdM 0 = 11)) fl11_7 (by decide +kernel) ?_
        refine sm_seg C [(.bipush 15, 15), (.iload_n 2, 0), (.iadd, 0), (.iconst 0, 0)] (pc' := 59) (L' := [(4, .int v1), (0, .ref 0), (1, .int a1), (2, .int a2), (3, .int a3)]) (S' := [.int 0, .int (15 + a2), .ref 1]) (by decide +kernel) rfl ?_
        refine sm_ast 2244 C (ltM (krM11_0 (by decide +kernel : kdM 0 = 11)) (by decide)) (krM11_0 (by decide +kernel : kdM 0 = 11)) (nrM11_0 (by decide +kernel : kdM 0 = 11)) (by decide +kernel) (fun τ12 => ?_)
        exact sm_vret C hr (by decide +kernel)) h
