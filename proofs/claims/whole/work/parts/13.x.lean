/-! BasketEnvoys_Tokens.numberOfWord -/
def X6_numberOfWord_j72 (F : Nat) (self9 : Int32 → Int32 → Int32 → Int32 → Int32 → Tau → Option (Int32 × Tau)) (s1 : Nat) (a2 : Int32) (a3 : Int32) (a4 : Int32) (a5 : Int32) (a6 : Int32) (τ : Tau) : Option (Int32 × Tau) :=
  self9 a2 a3 a4 a5 (a6 + 1) τ
theorem s_X6_numberOfWord_j72 (F : Nat) (s1 : Nat) {K : Ctx} (C : Cx K sysX RX6 cX6_numberOfWord 7 6) (hr : Rt K (some .int)) (h1 : s1 < 30) (self9 : Int32 → Int32 → Int32 → Int32 → Int32 → Tau → Option (Int32 × Tau)) (ih9 : ∀ (a2 : Int32) (a3 : Int32) (a4 : Int32) (a5 : Int32) (a6 : Int32) (τ : Tau), Sm K sysX 7 (Qi K sysX) (self9 a2 a3 a4 a5 a6 τ) 9 [(0, .ref 197), (1, .ref (100000 + s1)), (2, .int a2), (3, .int a3), (4, .int a4), (5, .int a5), (6, .int a6)] [] τ) (a2 : Int32) (a3 : Int32) (a4 : Int32) (a5 : Int32) (a6 : Int32) (τ : Tau) : Sm K sysX 7 (Qi K sysX) (X6_numberOfWord_j72 F self9 s1 a2 a3 a4 a5 a6 τ) 72 [(0, .ref 197), (1, .ref (100000 + s1)), (2, .int a2), (3, .int a3), (4, .int a4), (5, .int a5), (6, .int a6)] [] τ := by
  unfold X6_numberOfWord_j72
  refine sm_seg C [(.iinc 6 1, 1), (.goto (-66), 0)] (pc' := 9) (L' := [(6, .int (a6 + 1)), (0, .ref 197), (1, .ref (100000 + s1)), (2, .int a2), (3, .int a3), (4, .int a4), (5, .int a5)]) (S' := []) (by decide +kernel) rfl ?_
  exact sm_sub [1, 2, 3, 4, 5, 6, 0] rfl (ih9 a2 a3 a4 a5 (a6 + 1) τ)
def X6_numberOfWord_j63 (F : Nat) (self9 : Int32 → Int32 → Int32 → Int32 → Int32 → Tau → Option (Int32 × Tau)) (s1 : Nat) (a2 : Int32) (a3 : Int32) (a4 : Int32) (a6 : Int32) (τ : Tau) : Option (Int32 × Tau) :=
  X6_numberOfWord_j72 F self9 s1 a2 a3 (a4 + 1) (a6 + 1) a6 τ
theorem s_X6_numberOfWord_j63 (F : Nat) (s1 : Nat) {K : Ctx} (C : Cx K sysX RX6 cX6_numberOfWord 7 6) (hr : Rt K (some .int)) (h1 : s1 < 30) (self9 : Int32 → Int32 → Int32 → Int32 → Int32 → Tau → Option (Int32 × Tau)) (ih9 : ∀ (a2 : Int32) (a3 : Int32) (a4 : Int32) (a5 : Int32) (a6 : Int32) (τ : Tau), Sm K sysX 7 (Qi K sysX) (self9 a2 a3 a4 a5 a6 τ) 9 [(0, .ref 197), (1, .ref (100000 + s1)), (2, .int a2), (3, .int a3), (4, .int a4), (5, .int a5), (6, .int a6)] [] τ) (a2 : Int32) (a3 : Int32) (a4 : Int32) (a6 : Int32) (τ : Tau) : Sm K sysX 7 (Qi K sysX) (X6_numberOfWord_j63 F self9 s1 a2 a3 a4 a6 τ) 63 [(0, .ref 197), (1, .ref (100000 + s1)), (2, .int a2), (3, .int a3), (4, .int a4), (6, .int a6)] [] τ := by
  unfold X6_numberOfWord_j63
  refine sm_seg C [(.iinc 4 1, 1), (.iload 6, 0), (.iconst 1, 1), (.iadd, 0), (.istore 5, 0)] (pc' := 72) (L' := [(5, .int (a6 + 1)), (4, .int (a4 + 1)), (0, .ref 197), (1, .ref (100000 + s1)), (2, .int a2), (3, .int a3), (6, .int a6)]) (S' := []) (by decide +kernel) rfl ?_
  exact sm_sub [2, 3, 4, 5, 1, 0, 6] rfl (s_X6_numberOfWord_j72 F s1 C hr h1 self9 ih9 a2 a3 (a4 + 1) (a6 + 1) a6 τ)
def X6_numberOfWord_j38 (F : Nat) (self9 : Int32 → Int32 → Int32 → Int32 → Int32 → Tau → Option (Int32 × Tau)) (s1 : Nat) (a2 : Int32) (a3 : Int32) (a4 : Int32) (a5 : Int32) (a6 : Int32) (τ : Tau) : Option (Int32 × Tau) :=
  if (a6 - a5) = a3 then (cal (X6_isAt F s1 a5 a6 a2 τ) fun r5 τ6 => if r5 = 0 then (X6_numberOfWord_j63 F self9 s1 a2 a3 a4 a6 τ6) else (some (a4, τ6))) else (X6_numberOfWord_j63 F self9 s1 a2 a3 a4 a6 τ)
theorem s_X6_numberOfWord_j38 (F : Nat) (s1 : Nat) {K : Ctx} (C : Cx K sysX RX6 cX6_numberOfWord 7 6) (hr : Rt K (some .int)) (h1 : s1 < 30) (self9 : Int32 → Int32 → Int32 → Int32 → Int32 → Tau → Option (Int32 × Tau)) (ih9 : ∀ (a2 : Int32) (a3 : Int32) (a4 : Int32) (a5 : Int32) (a6 : Int32) (τ : Tau), Sm K sysX 7 (Qi K sysX) (self9 a2 a3 a4 a5 a6 τ) 9 [(0, .ref 197), (1, .ref (100000 + s1)), (2, .int a2), (3, .int a3), (4, .int a4), (5, .int a5), (6, .int a6)] [] τ) (a2 : Int32) (a3 : Int32) (a4 : Int32) (a5 : Int32) (a6 : Int32) (τ : Tau) : Sm K sysX 7 (Qi K sysX) (X6_numberOfWord_j38 F self9 s1 a2 a3 a4 a5 a6 τ) 38 [(0, .ref 197), (1, .ref (100000 + s1)), (2, .int a2), (3, .int a3), (4, .int a4), (5, .int a5), (6, .int a6)] [] τ := by
  unfold X6_numberOfWord_j38
  refine sm_seg C [(.iload 6, 0), (.iload 5, 0), (.isub, 0), (.iload_n 3, 0)] (pc' := 44) (L' := [(0, .ref 197), (1, .ref (100000 + s1)), (2, .int a2), (3, .int a3), (4, .int a4), (5, .int a5), (6, .int a6)]) (S' := [.int a3, .int (a6 - a5)]) (by decide +kernel) rfl ?_
  refine sm_icmpne 63 (off := 19) C (by decide +kernel) (by decide) (fun _ => ?_) (fun _ => ?_)
  · refine sm_seg C [(.aload_n 0, 0), (.aload_n 1, 0), (.iload 5, 0), (.iload 6, 0), (.iload_n 2, 0)] (pc' := 54) (L' := [(0, .ref 197), (1, .ref (100000 + s1)), (2, .int a2), (3, .int a3), (4, .int a4), (5, .int a5), (6, .int a6)]) (S' := [.int a2, .int a6, .int a5, .ref (100000 + s1), .ref 197]) (by decide +kernel) rfl ?_
    refine sm_vcal [.ref (100000 + s1), .int a5, .int a6, .int a2] [] rfl C mw_X6_isAt ml_6_97 rfl (ci := 6) rfl (ltX (by decide +kernel : kdX 197 = 6) (by decide)) (by decide +kernel : kdX 197 = 6) (by decide) ⟨by decide, by decide⟩ (Nat.le_of_ble_eq_true rfl) (by decide +kernel) (c_X6_isAt F s1 h1 a5 a6 a2 τ) (fun r5 τ6 => ?_)
    refine sm_ifeq 63 (off := 6) C (by decide +kernel) (by decide) (fun _ => ?_) (fun _ => ?_)
    · exact sm_sub [0, 1, 2, 3, 4, 6] rfl (s_X6_numberOfWord_j63 F s1 C hr h1 self9 ih9 a2 a3 a4 a6 τ6)
    · refine sm_seg C [(.iload 4, 0)] (pc' := 62) (L' := [(0, .ref 197), (1, .ref (100000 + s1)), (2, .int a2), (3, .int a3), (4, .int a4), (5, .int a5), (6, .int a6)]) (S' := [.int a4]) (by decide +kernel) rfl ?_
      exact sm_iret C hr rfl (by decide +kernel)
  · exact sm_sub [0, 1, 2, 3, 4, 6] rfl (s_X6_numberOfWord_j63 F s1 C hr h1 self9 ih9 a2 a3 a4 a6 τ)
def X6_numberOfWord_L9 (F : Nat) (s1 : Nat) : Nat → Int32 → Int32 → Int32 → Int32 → Int32 → Tau → Option (Int32 × Tau)
  | 0, _, _, _, _, _, _ => none
  | n + 1, a2, a3, a4, a5, a6, τ =>
    cal (X_String_length___I F s1 τ) fun r1 τ2 => if r1 < a6 then (some ((-1), τ2)) else (cal (X_String_length___I F s1 τ2) fun r3 τ4 => if a6 = r3 then (X6_numberOfWord_j38 F (X6_numberOfWord_L9 F s1 n) s1 a2 a3 a4 a5 a6 τ4) else (cal (X_String_charAt__I_C F s1 a6 τ4) fun r7 τ8 => if r7 = 32 then (X6_numberOfWord_j38 F (X6_numberOfWord_L9 F s1 n) s1 a2 a3 a4 a5 a6 τ8) else (X6_numberOfWord_j72 F (X6_numberOfWord_L9 F s1 n) s1 a2 a3 a4 a5 a6 τ8)))
theorem s_X6_numberOfWord_L9 (F : Nat) (s1 : Nat) {K : Ctx} (C : Cx K sysX RX6 cX6_numberOfWord 7 6) (hr : Rt K (some .int)) (h1 : s1 < 30) : ∀ (n : Nat) (a2 : Int32) (a3 : Int32) (a4 : Int32) (a5 : Int32) (a6 : Int32) (τ : Tau), Sm K sysX 7 (Qi K sysX) (X6_numberOfWord_L9 F s1 n a2 a3 a4 a5 a6 τ) 9 [(0, .ref 197), (1, .ref (100000 + s1)), (2, .int a2), (3, .int a3), (4, .int a4), (5, .int a5), (6, .int a6)] [] τ := by
  intro n
  induction n with
  | zero => intro a2 a3 a4 a5 a6 τ; exact sm_none
  | succ n ih =>
    intro a2 a3 a4 a5 a6 τ
    rw [X6_numberOfWord_L9]
    refine sm_seg C [(.iload 6, 0), (.aload_n 1, 0)] (pc' := 12) (L' := [(0, .ref 197), (1, .ref (100000 + s1)), (2, .int a2), (3, .int a3), (4, .int a4), (5, .int a5), (6, .int a6)]) (S' := [.ref (100000 + s1), .int a6]) (by decide +kernel) rfl ?_
    refine sm_vstr [] [.int a6] rfl C h1 mw_String_length___I rfl ml_6_91 rfl ⟨by decide, by decide⟩ (Nat.le_of_ble_eq_true rfl) (by decide +kernel) (c_X_String_length___I F s1 h1 τ) (fun r1 τ2 => ?_)
    refine sm_icmpgt 78 (off := 63) C (by decide +kernel) (by decide) (fun _ => ?_) (fun _ => ?_)
    · refine sm_seg C [(.iconst (-1), (-1))] (pc' := 79) (L' := [(0, .ref 197), (1, .ref (100000 + s1)), (2, .int a2), (3, .int a3), (4, .int a4), (5, .int a5), (6, .int a6)]) (S' := [.int (-1)]) (by decide +kernel) rfl ?_
      exact sm_iret C hr rfl (by decide +kernel)
    · refine sm_seg C [(.iload 6, 0), (.aload_n 1, 0)] (pc' := 21) (L' := [(0, .ref 197), (1, .ref (100000 + s1)), (2, .int a2), (3, .int a3), (4, .int a4), (5, .int a5), (6, .int a6)]) (S' := [.ref (100000 + s1), .int a6]) (by decide +kernel) rfl ?_
      refine sm_vstr [] [.int a6] rfl C h1 mw_String_length___I rfl ml_6_91 rfl ⟨by decide, by decide⟩ (Nat.le_of_ble_eq_true rfl) (by decide +kernel) (c_X_String_length___I F s1 h1 τ2) (fun r3 τ4 => ?_)
      refine sm_icmpeq 38 (off := 14) C (by decide +kernel) (by decide) (fun _ => ?_) (fun _ => ?_)
      · exact sm_sub [0, 1, 2, 3, 4, 5, 6] rfl (s_X6_numberOfWord_j38 F s1 C hr h1 (X6_numberOfWord_L9 F s1 n) ih a2 a3 a4 a5 a6 τ4)
      · refine sm_seg C [(.aload_n 1, 0), (.iload 6, 0)] (pc' := 30) (L' := [(0, .ref 197), (1, .ref (100000 + s1)), (2, .int a2), (3, .int a3), (4, .int a4), (5, .int a5), (6, .int a6)]) (S' := [.int a6, .ref (100000 + s1)]) (by decide +kernel) rfl ?_
        refine sm_vstr [.int a6] [] rfl C h1 mw_String_charAt__I_C rfl ml_6_94 rfl ⟨by decide, by decide⟩ (Nat.le_of_ble_eq_true rfl) (by decide +kernel) (c_X_String_charAt__I_C F s1 h1 a6 τ4) (fun r7 τ8 => ?_)
        refine sm_seg C [(.bipush 32, 32)] (pc' := 35) (L' := [(0, .ref 197), (1, .ref (100000 + s1)), (2, .int a2), (3, .int a3), (4, .int a4), (5, .int a5), (6, .int a6)]) (S' := [.int 32, .int r7]) (by decide +kernel) rfl ?_
        refine sm_icmpne 72 (off := 37) C (by decide +kernel) (by decide) (fun _ => ?_) (fun _ => ?_)
        · exact sm_sub [0, 1, 2, 3, 4, 5, 6] rfl (s_X6_numberOfWord_j38 F s1 C hr h1 (X6_numberOfWord_L9 F s1 n) ih a2 a3 a4 a5 a6 τ8)
        · exact sm_sub [0, 1, 2, 3, 4, 5, 6] rfl (s_X6_numberOfWord_j72 F s1 C hr h1 (X6_numberOfWord_L9 F s1 n) ih a2 a3 a4 a5 a6 τ8)
def X6_numberOfWord (F : Nat) (s1 : Nat) (a2 : Int32) (a3 : Int32) (τ : Tau) : Option (Int32 × Tau) :=
  X6_numberOfWord_L9 F s1 F a2 a3 0 0 0 τ
set_option maxRecDepth 20000 in
set_option maxHeartbeats 4000000 in
theorem c_X6_numberOfWord (F : Nat) (s1 : Nat) (h1 : s1 < 30) (a2 : Int32) (a3 : Int32) (τ : Tau) (r : Int32) (τ' : Tau) (h : X6_numberOfWord F s1 a2 a3 τ = some (r, τ')) : MCi sysX yX6_numberOfWord cX6_numberOfWord 7 (some .int) 6 [.ref 197, .ref (100000 + s1), .int a2, .int a3] τ r τ' :=
  mci_of (by decide +kernel) (Nat.le_of_ble_eq_true rfl) (fun K C hr => by
    show Sm K sysX 7 (Qi K sysX) (X6_numberOfWord F s1 a2 a3 τ) 0 [(0, .ref 197), (1, .ref (100000 + s1)), (2, .int a2), (3, .int a3)] [] τ
    unfold X6_numberOfWord
    refine sm_seg C [(.iconst 0, 0), (.istore 4, 0), (.iconst 0, 0), (.istore 5, 0), (.iconst 0, 0), (.istore 6, 0)] (pc' := 9) (L' := [(6, .int 0), (5, .int 0), (4, .int 0), (0, .ref 197), (1, .ref (100000 + s1)), (2, .int a2), (3, .int a3)]) (S' := []) (by decide +kernel) rfl ?_
    exact sm_sub [3, 4, 5, 6, 2, 1, 0] rfl (s_X6_numberOfWord_L9 F s1 C hr h1 F a2 a3 0 0 0 τ)) h
/-! BasketEnvoys_Tokens.readNumber -/
def X6_readNumber_L12 (F : Nat) : Nat → Int32 → Int32 → Int32 → Int32 → Tau → Option (Int32 × Tau)
  | 0, _, _, _, _, _ => none
  | n + 1, a1, a2, a3, a4, τ =>
    if a2 ≤ a4 then (some (a3, τ)) else (cal (X6_signAt F (a1 + a4) τ) fun r1 τ2 => X6_readNumber_L12 F n a1 a2 (((10 * a3) + r1) - 48) (a4 + 1) τ2)
theorem s_X6_readNumber_L12 (F : Nat) {K : Ctx} (C : Cx K sysX RX6 cX6_readNumber 5 2) (hr : Rt K (some .int)) : ∀ (n : Nat) (a1 : Int32) (a2 : Int32) (a3 : Int32) (a4 : Int32) (τ : Tau), Sm K sysX 5 (Qi K sysX) (X6_readNumber_L12 F n a1 a2 a3 a4 τ) 12 [(0, .ref 197), (1, .int a1), (2, .int a2), (3, .int a3), (4, .int a4)] [] τ := by
  intro n
  induction n with
  | zero => intro a1 a2 a3 a4 τ; exact sm_none
  | succ n ih =>
    intro a1 a2 a3 a4 τ
    rw [X6_readNumber_L12]
    refine sm_seg C [(.iload 4, 0), (.iload_n 2, 0)] (pc' := 15) (L' := [(0, .ref 197), (1, .int a1), (2, .int a2), (3, .int a3), (4, .int a4)]) (S' := [.int a2, .int a4]) (by decide +kernel) rfl ?_
    refine sm_icmpge 41 (off := 26) C (by decide +kernel) (by decide) (fun _ => ?_) (fun _ => ?_)
    · refine sm_seg C [(.iload_n 3, 0)] (pc' := 42) (L' := [(0, .ref 197), (1, .int a1), (2, .int a2), (3, .int a3), (4, .int a4)]) (S' := [.int a3]) (by decide +kernel) rfl ?_
      exact sm_iret C hr rfl (by decide +kernel)
    · refine sm_seg C [(.bipush 10, 10), (.iload_n 3, 0), (.imul, 0), (.aload_n 0, 0), (.iload_n 1, 0), (.iload 4, 0), (.iadd, 0)] (pc' := 27) (L' := [(0, .ref 197), (1, .int a1), (2, .int a2), (3, .int a3), (4, .int a4)]) (S' := [.int (a1 + a4), .ref 197, .int (10 * a3)]) (by decide +kernel) rfl ?_
      refine sm_vcal [.int (a1 + a4)] [.int (10 * a3)] rfl C mw_X6_signAt ml_6_87 rfl (ci := 6) rfl (ltX (by decide +kernel : kdX 197 = 6) (by decide)) (by decide +kernel : kdX 197 = 6) (by decide) ⟨by decide, by decide⟩ (Nat.le_of_ble_eq_true rfl) (by decide +kernel) (c_X6_signAt F (a1 + a4) τ) (fun r1 τ2 => ?_)
      refine sm_seg C [(.iadd, 0), (.bipush 48, 48), (.isub, 0), (.istore_n 3, 0), (.iinc 4 1, 1), (.goto (-26), 0)] (pc' := 12) (L' := [(4, .int (a4 + 1)), (3, .int (((10 * a3) + r1) - 48)), (0, .ref 197), (1, .int a1), (2, .int a2)]) (S' := []) (by decide +kernel) rfl ?_
      exact sm_sub [2, 3, 4, 1, 0] rfl (ih a1 a2 (((10 * a3) + r1) - 48) (a4 + 1) τ2)
def X6_readNumber (F : Nat) (a1 : Int32) (a2 : Int32) (τ : Tau) : Option (Int32 × Tau) :=
  if a2 ≤ 4 then (X6_readNumber_L12 F F a1 a2 0 0 τ) else (some ((-1), τ))
set_option maxRecDepth 20000 in
set_option maxHeartbeats 4000000 in
theorem c_X6_readNumber (F : Nat) (a1 : Int32) (a2 : Int32) (τ : Tau) (r : Int32) (τ' : Tau) (h : X6_readNumber F a1 a2 τ = some (r, τ')) : MCi sysX yX6_readNumber cX6_readNumber 5 (some .int) 2 [.ref 197, .int a1, .int a2] τ r τ' :=
  mci_of (by decide +kernel) (Nat.le_of_ble_eq_true rfl) (fun K C hr => by
    show Sm K sysX 5 (Qi K sysX) (X6_readNumber F a1 a2 τ) 0 [(0, .ref 197), (1, .int a1), (2, .int a2)] [] τ
    unfold X6_readNumber
    refine sm_seg C [(.iload_n 2, 0), (.iconst 4, 4)] (pc' := 2) (L' := [(0, .ref 197), (1, .int a1), (2, .int a2)]) (S' := [.int 4, .int a2]) (by decide +kernel) rfl ?_
    refine sm_icmple 7 (off := 5) C (by decide +kernel) (by decide) (fun _ => ?_) (fun _ => ?_)
    · refine sm_seg C [(.iconst 0, 0), (.istore_n 3, 0), (.iconst 0, 0), (.istore 4, 0)] (pc' := 12) (L' := [(4, .int 0), (3, .int 0), (0, .ref 197), (1, .int a1), (2, .int a2)]) (S' := []) (by decide +kernel) rfl ?_
      exact sm_sub [2, 3, 4, 1, 0] rfl (s_X6_readNumber_L12 F C hr F a1 a2 0 0 τ)
    · refine sm_seg C [(.iconst (-1), (-1))] (pc' := 6) (L' := [(0, .ref 197), (1, .int a1), (2, .int a2)]) (S' := [.int (-1)]) (by decide +kernel) rfl ?_
      exact sm_iret C hr rfl (by decide +kernel)) h
/-! BasketEnvoys_Tokens.settle -/
def X6_settle_j75 (F : Nat) (s2 : Nat) (z0 : Int32) (z1 : Int32) (τ : Tau) : Option (Int32 × Tau) :=
  ast τ 199 401 z1 z0 fun τ8 => some (0, τ8)
theorem s_X6_settle_j75 (F : Nat) (s2 : Nat) {K : Ctx} (C : Cx K sysX RX6 cX6_settle 3 7) (hr : Rt K none) (h2 : s2 < 30) (z0 : Int32) (z1 : Int32) (τ : Tau) : Sm K sysX 3 (Qv K sysX) (X6_settle_j75 F s2 z0 z1 τ) 75 [] [.int z0, .int z1, .ref 199] τ := by
  unfold X6_settle_j75
  refine sm_ast 401 C (ltX (krX6_9 (by decide +kernel : kdX 197 = 6)) (by decide)) (krX6_9 (by decide +kernel : kdX 197 = 6)) (nrX6_9 (by decide +kernel : kdX 197 = 6)) (by decide +kernel) (fun τ8 => ?_)
  refine sm_seg C [(.goto 65, 0)] (pc' := 141) (L' := []) (S' := []) (by decide +kernel) rfl ?_
  exact sm_vret C hr (by decide +kernel)
def X6_settle_j121 (F : Nat) (s2 : Nat) (z0 : Int32) (z1 : Int32) (τ : Tau) : Option (Int32 × Tau) :=
  ast τ 199 401 z1 z0 fun τ15 => some (0, τ15)
theorem s_X6_settle_j121 (F : Nat) (s2 : Nat) {K : Ctx} (C : Cx K sysX RX6 cX6_settle 3 7) (hr : Rt K none) (h2 : s2 < 30) (z0 : Int32) (z1 : Int32) (τ : Tau) : Sm K sysX 3 (Qv K sysX) (X6_settle_j121 F s2 z0 z1 τ) 121 [] [.int z0, .int z1, .ref 199] τ := by
  unfold X6_settle_j121
  refine sm_ast 401 C (ltX (krX6_9 (by decide +kernel : kdX 197 = 6)) (by decide)) (krX6_9 (by decide +kernel : kdX 197 = 6)) (nrX6_9 (by decide +kernel : kdX 197 = 6)) (by decide +kernel) (fun τ15 => ?_)
  refine sm_seg C [(.goto 19, 0)] (pc' := 141) (L' := []) (S' := []) (by decide +kernel) rfl ?_
  exact sm_vret C hr (by decide +kernel)
def X6_settle (F : Nat) (s2 : Nat) (a1 : Int32) (τ : Tau) : Option (Int32 × Tau) :=
  ald τ 199 401 a1 fun v1 => if v1 = 1 then (ald τ 200 401 a1 fun v2 => ald τ 201 401 a1 fun v3 => cal (X6_numberOfWord F s2 v2 v3 τ) fun r4 τ5 => ast τ5 202 401 a1 r4 fun τ6 => ald τ6 202 401 a1 fun v7 => if v7 = (-1) then (X6_settle_j75 F s2 4 a1 τ6) else (X6_settle_j75 F s2 1 a1 τ6)) else if v1 = 2 then (ald τ 200 401 a1 fun v9 => ald τ 201 401 a1 fun v10 => cal (X6_readNumber F v9 v10 τ) fun r11 τ12 => ast τ12 202 401 a1 r11 fun τ13 => ald τ13 202 401 a1 fun v14 => if v14 = (-1) then (X6_settle_j121 F s2 4 a1 τ13) else (X6_settle_j121 F s2 2 a1 τ13)) else (ald τ 200 401 a1 fun v16 => cal (X6_signAt F v16 τ) fun r17 τ18 => ast τ18 202 401 a1 r17 fun τ19 => some (0, τ19))
set_option maxRecDepth 20000 in
set_option maxHeartbeats 4000000 in
theorem c_X6_settle (F : Nat) (s2 : Nat) (h2 : s2 < 30) (a1 : Int32) (τ : Tau) (r : Int32) (τ' : Tau) (h : X6_settle F s2 a1 τ = some (r, τ')) : MCv sysX yX6_settle cX6_settle 3 7 [.ref 197, .int a1, .ref (100000 + s2)] τ τ' :=
  mcv_of (by decide +kernel) (Nat.le_of_ble_eq_true rfl) (fun K C hr => by
    show Sm K sysX 3 (Qv K sysX) (X6_settle F s2 a1 τ) 0 [(0, .ref 197), (1, .int a1), (2, .ref (100000 + s2))] [] τ
    unfold X6_settle
    refine sm_seg C [(.aload_n 0, 0)] (pc' := 1) (L' := [(0, .ref 197), (1, .int a1), (2, .ref (100000 + s2))]) (S' := [.ref 197]) (by decide +kernel) rfl ?_
    refine sm_getR 6 9 199 cls6 C (ltX (by decide +kernel : kdX 197 = 6) (by decide)) (by decide +kernel : kdX 197 = 6) (obX6 (by decide +kernel : kdX 197 = 6)) (by decide) (frX6_9 (by decide +kernel : kdX 197 = 6)) fl6_40 (by decide +kernel) ?_
    refine sm_seg C [(.iload_n 1, 0)] (pc' := 5) (L' := [(0, .ref 197), (1, .int a1), (2, .ref (100000 + s2))]) (S' := [.int a1, .ref 199]) (by decide +kernel) rfl ?_
    refine sm_ald 401 C (ltX (krX6_9 (by decide +kernel : kdX 197 = 6)) (by decide)) (krX6_9 (by decide +kernel : kdX 197 = 6)) (nrX6_9 (by decide +kernel : kdX 197 = 6)) (by decide +kernel) (fun v1 => ?_)
    have hd6 : decode cX6_settle 6 = .ok (.lookupswitch 119 #[(1, 26), (2, 73)], 26) := by decide +kernel
    refine sm_ite (fun e => ?_) (fun n6_0 => ?_)
    · refine sm_look (off := 26) 32 C hd6 (by decide) (by rw [e]; decide) (by decide) ?_
      refine sm_seg C [(.aload_n 0, 0)] (pc' := 33) (L' := [(0, .ref 197), (1, .int a1), (2, .ref (100000 + s2))]) (S' := [.ref 197]) (by decide +kernel) rfl ?_
      refine sm_getR 6 12 202 cls6 C (ltX (by decide +kernel : kdX 197 = 6) (by decide)) (by decide +kernel : kdX 197 = 6) (obX6 (by decide +kernel : kdX 197 = 6)) (by decide) (frX6_12 (by decide +kernel : kdX 197 = 6)) fl6_50 (by decide +kernel) ?_
      refine sm_seg C [(.iload_n 1, 0), (.aload_n 0, 0), (.aload_n 2, 0), (.aload_n 0, 0)] (pc' := 40) (L' := [(0, .ref 197), (1, .int a1), (2, .ref (100000 + s2))]) (S' := [.ref 197, .ref (100000 + s2), .ref 197, .int a1, .ref 202]) (by decide +kernel) rfl ?_
      refine sm_getR 6 10 200 cls6 C (ltX (by decide +kernel : kdX 197 = 6) (by decide)) (by decide +kernel : kdX 197 = 6) (obX6 (by decide +kernel : kdX 197 = 6)) (by decide) (frX6_10 (by decide +kernel : kdX 197 = 6)) fl6_44 (by decide +kernel) ?_
      refine sm_seg C [(.iload_n 1, 0)] (pc' := 44) (L' := [(0, .ref 197), (1, .int a1), (2, .ref (100000 + s2))]) (S' := [.int a1, .ref 200, .ref (100000 + s2), .ref 197, .int a1, .ref 202]) (by decide +kernel) rfl ?_
      refine sm_ald 401 C (ltX (krX6_10 (by decide +kernel : kdX 197 = 6)) (by decide)) (krX6_10 (by decide +kernel : kdX 197 = 6)) (nrX6_10 (by decide +kernel : kdX 197 = 6)) (by decide +kernel) (fun v2 => ?_)
      refine sm_seg C [(.aload_n 0, 0)] (pc' := 46) (L' := [(0, .ref 197), (1, .int a1), (2, .ref (100000 + s2))]) (S' := [.ref 197, .int v2, .ref (100000 + s2), .ref 197, .int a1, .ref 202]) (by decide +kernel) rfl ?_
      refine sm_getR 6 11 201 cls6 C (ltX (by decide +kernel : kdX 197 = 6) (by decide)) (by decide +kernel : kdX 197 = 6) (obX6 (by decide +kernel : kdX 197 = 6)) (by decide) (frX6_11 (by decide +kernel : kdX 197 = 6)) fl6_47 (by decide +kernel) ?_
      refine sm_seg C [(.iload_n 1, 0)] (pc' := 50) (L' := [(0, .ref 197), (1, .int a1), (2, .ref (100000 + s2))]) (S' := [.int a1, .ref 201, .int v2, .ref (100000 + s2), .ref 197, .int a1, .ref 202]) (by decide +kernel) rfl ?_
      refine sm_ald 401 C (ltX (krX6_11 (by decide +kernel : kdX 197 = 6)) (by decide)) (krX6_11 (by decide +kernel : kdX 197 = 6)) (nrX6_11 (by decide +kernel : kdX 197 = 6)) (by decide +kernel) (fun v3 => ?_)
      refine sm_vcal [.ref (100000 + s2), .int v2, .int v3] [.int a1, .ref 202] rfl C mw_X6_numberOfWord ml_6_79 rfl (ci := 6) rfl (ltX (by decide +kernel : kdX 197 = 6) (by decide)) (by decide +kernel : kdX 197 = 6) (by decide) ⟨by decide, by decide⟩ (Nat.le_of_ble_eq_true rfl) (by decide +kernel) (c_X6_numberOfWord F s2 h2 v2 v3 τ) (fun r4 τ5 => ?_)
      refine sm_ast 401 C (ltX (krX6_12 (by decide +kernel : kdX 197 = 6)) (by decide)) (krX6_12 (by decide +kernel : kdX 197 = 6)) (nrX6_12 (by decide +kernel : kdX 197 = 6)) (by decide +kernel) (fun τ6 => ?_)
      refine sm_seg C [(.aload_n 0, 0)] (pc' := 56) (L' := [(0, .ref 197), (1, .int a1), (2, .ref (100000 + s2))]) (S' := [.ref 197]) (by decide +kernel) rfl ?_
      refine sm_getR 6 9 199 cls6 C (ltX (by decide +kernel : kdX 197 = 6) (by decide)) (by decide +kernel : kdX 197 = 6) (obX6 (by decide +kernel : kdX 197 = 6)) (by decide) (frX6_9 (by decide +kernel : kdX 197 = 6)) fl6_40 (by decide +kernel) ?_
      refine sm_seg C [(.iload_n 1, 0), (.aload_n 0, 0)] (pc' := 61) (L' := [(0, .ref 197), (1, .int a1), (2, .ref (100000 + s2))]) (S' := [.ref 197, .int a1, .ref 199]) (by decide +kernel) rfl ?_
      refine sm_getR 6 12 202 cls6 C (ltX (by decide +kernel : kdX 197 = 6) (by decide)) (by decide +kernel : kdX 197 = 6) (obX6 (by decide +kernel : kdX 197 = 6)) (by decide) (frX6_12 (by decide +kernel : kdX 197 = 6)) fl6_50 (by decide +kernel) ?_
      refine sm_seg C [(.iload_n 1, 0)] (pc' := 65) (L' := [(0, .ref 197), (1, .int a1), (2, .ref (100000 + s2))]) (S' := [.int a1, .ref 202, .int a1, .ref 199]) (by decide +kernel) rfl ?_
      refine sm_ald 401 C (ltX (krX6_12 (by decide +kernel : kdX 197 = 6)) (by decide)) (krX6_12 (by decide +kernel : kdX 197 = 6)) (nrX6_12 (by decide +kernel : kdX 197 = 6)) (by decide +kernel) (fun v7 => ?_)
      refine sm_seg C [(.iconst (-1), (-1))] (pc' := 67) (L' := [(0, .ref 197), (1, .int a1), (2, .ref (100000 + s2))]) (S' := [.int (-1), .int v7, .int a1, .ref 199]) (by decide +kernel) rfl ?_
      refine sm_icmpne 74 (off := 7) C (by decide +kernel) (by decide) (fun _ => ?_) (fun _ => ?_)
      · refine sm_seg C [(.iconst 4, 4), (.goto 4, 0)] (pc' := 75) (L' := [(0, .ref 197), (1, .int a1), (2, .ref (100000 + s2))]) (S' := [.int 4, .int a1, .ref 199]) (by decide +kernel) rfl ?_
        exact sm_sub [] rfl (s_X6_settle_j75 F s2 C hr h2 4 a1 τ6)
      · refine sm_seg C [(.iconst 1, 1)] (pc' := 75) (L' := [(0, .ref 197), (1, .int a1), (2, .ref (100000 + s2))]) (S' := [.int 1, .int a1, .ref 199]) (by decide +kernel) rfl ?_
        exact sm_sub [] rfl (s_X6_settle_j75 F s2 C hr h2 1 a1 τ6)
    refine sm_ite (fun e => ?_) (fun n6_1 => ?_)
    · refine sm_look (off := 73) 79 C hd6 (by decide) (by rw [e]; decide) (by decide) ?_
      refine sm_seg C [(.aload_n 0, 0)] (pc' := 80) (L' := [(0, .ref 197), (1, .int a1), (2, .ref (100000 + s2))]) (S' := [.ref 197]) (by decide +kernel) rfl ?_
      refine sm_getR 6 12 202 cls6 C (ltX (by decide +kernel : kdX 197 = 6) (by decide)) (by decide +kernel : kdX 197 = 6) (obX6 (by decide +kernel : kdX 197 = 6)) (by decide) (frX6_12 (by decide +kernel : kdX 197 = 6)) fl6_50 (by decide +kernel) ?_
      refine sm_seg C [(.iload_n 1, 0), (.aload_n 0, 0), (.aload_n 0, 0)] (pc' := 86) (L' := [(0, .ref 197), (1, .int a1), (2, .ref (100000 + s2))]) (S' := [.ref 197, .ref 197, .int a1, .ref 202]) (by decide +kernel) rfl ?_
      refine sm_getR 6 10 200 cls6 C (ltX (by decide +kernel : kdX 197 = 6) (by decide)) (by decide +kernel : kdX 197 = 6) (obX6 (by decide +kernel : kdX 197 = 6)) (by decide) (frX6_10 (by decide +kernel : kdX 197 = 6)) fl6_44 (by decide +kernel) ?_
      refine sm_seg C [(.iload_n 1, 0)] (pc' := 90) (L' := [(0, .ref 197), (1, .int a1), (2, .ref (100000 + s2))]) (S' := [.int a1, .ref 200, .ref 197, .int a1, .ref 202]) (by decide +kernel) rfl ?_
      refine sm_ald 401 C (ltX (krX6_10 (by decide +kernel : kdX 197 = 6)) (by decide)) (krX6_10 (by decide +kernel : kdX 197 = 6)) (nrX6_10 (by decide +kernel : kdX 197 = 6)) (by decide +kernel) (fun v9 => ?_)
      refine sm_seg C [(.aload_n 0, 0)] (pc' := 92) (L' := [(0, .ref 197), (1, .int a1), (2, .ref (100000 + s2))]) (S' := [.ref 197, .int v9, .ref 197, .int a1, .ref 202]) (by decide +kernel) rfl ?_
      refine sm_getR 6 11 201 cls6 C (ltX (by decide +kernel : kdX 197 = 6) (by decide)) (by decide +kernel : kdX 197 = 6) (obX6 (by decide +kernel : kdX 197 = 6)) (by decide) (frX6_11 (by decide +kernel : kdX 197 = 6)) fl6_47 (by decide +kernel) ?_
      refine sm_seg C [(.iload_n 1, 0)] (pc' := 96) (L' := [(0, .ref 197), (1, .int a1), (2, .ref (100000 + s2))]) (S' := [.int a1, .ref 201, .int v9, .ref 197, .int a1, .ref 202]) (by decide +kernel) rfl ?_
      refine sm_ald 401 C (ltX (krX6_11 (by decide +kernel : kdX 197 = 6)) (by decide)) (krX6_11 (by decide +kernel : kdX 197 = 6)) (nrX6_11 (by decide +kernel : kdX 197 = 6)) (by decide +kernel) (fun v10 => ?_)
      refine sm_vcal [.int v9, .int v10] [.int a1, .ref 202] rfl C mw_X6_readNumber ml_6_83 rfl (ci := 6) rfl (ltX (by decide +kernel : kdX 197 = 6) (by decide)) (by decide +kernel : kdX 197 = 6) (by decide) ⟨by decide, by decide⟩ (Nat.le_of_ble_eq_true rfl) (by decide +kernel) (c_X6_readNumber F v9 v10 τ) (fun r11 τ12 => ?_)
      refine sm_ast 401 C (ltX (krX6_12 (by decide +kernel : kdX 197 = 6)) (by decide)) (krX6_12 (by decide +kernel : kdX 197 = 6)) (nrX6_12 (by decide +kernel : kdX 197 = 6)) (by decide +kernel) (fun τ13 => ?_)
      refine sm_seg C [(.aload_n 0, 0)] (pc' := 102) (L' := [(0, .ref 197), (1, .int a1), (2, .ref (100000 + s2))]) (S' := [.ref 197]) (by decide +kernel) rfl ?_
      refine sm_getR 6 9 199 cls6 C (ltX (by decide +kernel : kdX 197 = 6) (by decide)) (by decide +kernel : kdX 197 = 6) (obX6 (by decide +kernel : kdX 197 = 6)) (by decide) (frX6_9 (by decide +kernel : kdX 197 = 6)) fl6_40 (by decide +kernel) ?_
      refine sm_seg C [(.iload_n 1, 0), (.aload_n 0, 0)] (pc' := 107) (L' := [(0, .ref 197), (1, .int a1), (2, .ref (100000 + s2))]) (S' := [.ref 197, .int a1, .ref 199]) (by decide +kernel) rfl ?_
      refine sm_getR 6 12 202 cls6 C (ltX (by decide +kernel : kdX 197 = 6) (by decide)) (by decide +kernel : kdX 197 = 6) (obX6 (by decide +kernel : kdX 197 = 6)) (by decide) (frX6_12 (by decide +kernel : kdX 197 = 6)) fl6_50 (by decide +kernel) ?_
      refine sm_seg C [(.iload_n 1, 0)] (pc' := 111) (L' := [(0, .ref 197), (1, .int a1), (2, .ref (100000 + s2))]) (S' := [.int a1, .ref 202, .int a1, .ref 199]) (by decide +kernel) rfl ?_
      refine sm_ald 401 C (ltX (krX6_12 (by decide +kernel : kdX 197 = 6)) (by decide)) (krX6_12 (by decide +kernel : kdX 197 = 6)) (nrX6_12 (by decide +kernel : kdX 197 = 6)) (by decide +kernel) (fun v14 => ?_)
      refine sm_seg C [(.iconst (-1), (-1))] (pc' := 113) (L' := [(0, .ref 197), (1, .int a1), (2, .ref (100000 + s2))]) (S' := [.int (-1), .int v14, .int a1, .ref 199]) (by decide +kernel) rfl ?_
      refine sm_icmpne 120 (off := 7) C (by decide +kernel) (by decide) (fun _ => ?_) (fun _ => ?_)
      · refine sm_seg C [(.iconst 4, 4), (.goto 4, 0)] (pc' := 121) (L' := [(0, .ref 197), (1, .int a1), (2, .ref (100000 + s2))]) (S' := [.int 4, .int a1, .ref 199]) (by decide +kernel) rfl ?_
        exact sm_sub [] rfl (s_X6_settle_j121 F s2 C hr h2 4 a1 τ13)
      · refine sm_seg C [(.iconst 2, 2)] (pc' := 121) (L' := [(0, .ref 197), (1, .int a1), (2, .ref (100000 + s2))]) (S' := [.int 2, .int a1, .ref 199]) (by decide +kernel) rfl ?_
        exact sm_sub [] rfl (s_X6_settle_j121 F s2 C hr h2 2 a1 τ13)
    refine sm_look (off := 119) 125 C hd6 (by decide) (by show Op.lookupswitch.offset [(1, 26), (2, 73)] 119 _ = _; rw [look_ne (toInt_neZ (z := 1) n6_0 (by decide)), look_ne (toInt_neZ (z := 2) n6_1 (by decide))]; rfl) (by decide) ?_
    refine sm_seg C [(.aload_n 0, 0)] (pc' := 126) (L' := [(0, .ref 197), (1, .int a1), (2, .ref (100000 + s2))]) (S' := [.ref 197]) (by decide +kernel) rfl ?_
    refine sm_getR 6 12 202 cls6 C (ltX (by decide +kernel : kdX 197 = 6) (by decide)) (by decide +kernel : kdX 197 = 6) (obX6 (by decide +kernel : kdX 197 = 6)) (by decide) (frX6_12 (by decide +kernel : kdX 197 = 6)) fl6_50 (by decide +kernel) ?_
    refine sm_seg C [(.iload_n 1, 0), (.aload_n 0, 0), (.aload_n 0, 0)] (pc' := 132) (L' := [(0, .ref 197), (1, .int a1), (2, .ref (100000 + s2))]) (S' := [.ref 197, .ref 197, .int a1, .ref 202]) (by decide +kernel) rfl ?_
    refine sm_getR 6 10 200 cls6 C (ltX (by decide +kernel : kdX 197 = 6) (by decide)) (by decide +kernel : kdX 197 = 6) (obX6 (by decide +kernel : kdX 197 = 6)) (by decide) (frX6_10 (by decide +kernel : kdX 197 = 6)) fl6_44 (by decide +kernel) ?_
    refine sm_seg C [(.iload_n 1, 0)] (pc' := 136) (L' := [(0, .ref 197), (1, .int a1), (2, .ref (100000 + s2))]) (S' := [.int a1, .ref 200, .ref 197, .int a1, .ref 202]) (by decide +kernel) rfl ?_
    refine sm_ald 401 C (ltX (krX6_10 (by decide +kernel : kdX 197 = 6)) (by decide)) (krX6_10 (by decide +kernel : kdX 197 = 6)) (nrX6_10 (by decide +kernel : kdX 197 = 6)) (by decide +kernel) (fun v16 => ?_)
    refine sm_vcal [.int v16] [.int a1, .ref 202] rfl C mw_X6_signAt ml_6_87 rfl (ci := 6) rfl (ltX (by decide +kernel : kdX 197 = 6) (by decide)) (by decide +kernel : kdX 197 = 6) (by decide) ⟨by decide, by decide⟩ (Nat.le_of_ble_eq_true rfl) (by decide +kernel) (c_X6_signAt F v16 τ) (fun r17 τ18 => ?_)
    refine sm_ast 401 C (ltX (krX6_12 (by decide +kernel : kdX 197 = 6)) (by decide)) (krX6_12 (by decide +kernel : kdX 197 = 6)) (nrX6_12 (by decide +kernel : kdX 197 = 6)) (by decide +kernel) (fun τ19 => ?_)
    exact sm_vret C hr (by decide +kernel)) h
/-! BasketEnvoys_Tokens.skip -/
def X6_skip (F : Nat) (τ : Tau) : Option (Int32 × Tau) :=
  if (τ 197 1) = 0 then (if (τ 197 3) ≤ ((τ 197 4) + 1) then (some (0, τ)) else (pst τ 197 4 ((τ 197 4) + 1) fun τ1 => ald τ1 199 401 (τ1 197 4) fun v2 => pst τ1 197 5 v2 fun τ3 => ald τ3 202 401 (τ3 197 4) fun v4 => pst τ3 197 6 v4 fun τ5 => ald τ5 200 401 (τ5 197 4) fun v6 => pst τ5 197 7 v6 fun τ7 => some (0, τ7))) else (some (0, τ))
set_option maxRecDepth 20000 in
set_option maxHeartbeats 4000000 in
theorem c_X6_skip (F : Nat) (τ : Tau) (r : Int32) (τ' : Tau) (h : X6_skip F τ = some (r, τ')) : MCv sysX yX6_skip cX6_skip 1 1 [.ref 197] τ τ' :=
  mcv_of (by decide +kernel) (Nat.le_of_ble_eq_true rfl) (fun K C hr => by
    show Sm K sysX 1 (Qv K sysX) (X6_skip F τ) 0 [(0, .ref 197)] [] τ
    unfold X6_skip
    refine sm_seg C [(.aload_n 0, 0)] (pc' := 1) (L' := [(0, .ref 197)]) (S' := [.ref 197]) (by decide +kernel) rfl ?_
    refine sm_getI 6 1 cls6 C (ltX (by decide +kernel : kdX 197 = 6) (by decide)) (by decide +kernel : kdX 197 = 6) (obX6 (by decide +kernel : kdX 197 = 6)) (by decide) (fiX6_1 (by decide +kernel : kdX 197 = 6)) fl6_15 (by decide +kernel) ?_
    refine sm_ifne 69 (off := 65) C (by decide +kernel) (by decide) (fun _ => ?_) (fun _ => ?_)
    · refine sm_seg C [(.aload_n 0, 0)] (pc' := 8) (L' := [(0, .ref 197)]) (S' := [.ref 197]) (by decide +kernel) rfl ?_
      refine sm_getI 6 4 cls6 C (ltX (by decide +kernel : kdX 197 = 6) (by decide)) (by decide +kernel : kdX 197 = 6) (obX6 (by decide +kernel : kdX 197 = 6)) (by decide) (fiX6_4 (by decide +kernel : kdX 197 = 6)) fl6_24 (by decide +kernel) ?_
      refine sm_seg C [(.iconst 1, 1), (.iadd, 0), (.aload_n 0, 0)] (pc' := 14) (L' := [(0, .ref 197)]) (S' := [.ref 197, .int ((τ 197 4) + 1)]) (by decide +kernel) rfl ?_
      refine sm_getI 6 3 cls6 C (ltX (by decide +kernel : kdX 197 = 6) (by decide)) (by decide +kernel : kdX 197 = 6) (obX6 (by decide +kernel : kdX 197 = 6)) (by decide) (fiX6_3 (by decide +kernel : kdX 197 = 6)) fl6_21 (by decide +kernel) ?_
      refine sm_icmpge 69 (off := 52) C (by decide +kernel) (by decide) (fun _ => ?_) (fun _ => ?_)
      · exact sm_vret C hr (by decide +kernel)
      · refine sm_seg C [(.aload_n 0, 0), (.dup, 0)] (pc' := 22) (L' := [(0, .ref 197)]) (S' := [.ref 197, .ref 197]) (by decide +kernel) rfl ?_
        refine sm_getI 6 4 cls6 C (ltX (by decide +kernel : kdX 197 = 6) (by decide)) (by decide +kernel : kdX 197 = 6) (obX6 (by decide +kernel : kdX 197 = 6)) (by decide) (fiX6_4 (by decide +kernel : kdX 197 = 6)) fl6_24 (by decide +kernel) ?_
        refine sm_seg C [(.iconst 1, 1), (.iadd, 0)] (pc' := 27) (L' := [(0, .ref 197)]) (S' := [.int ((τ 197 4) + 1), .ref 197]) (by decide +kernel) rfl ?_
        refine sm_pst 6 4 cls6 C (ltX (by decide +kernel : kdX 197 = 6) (by decide)) (by decide +kernel : kdX 197 = 6) (obX6 (by decide +kernel : kdX 197 = 6)) (by decide) (fiX6_4 (by decide +kernel : kdX 197 = 6)) rfl rfl rfl fl6_24 (by decide +kernel) (fun τ1 => ?_)
        refine sm_seg C [(.aload_n 0, 0), (.aload_n 0, 0)] (pc' := 32) (L' := [(0, .ref 197)]) (S' := [.ref 197, .ref 197]) (by decide +kernel) rfl ?_
        refine sm_getR 6 9 199 cls6 C (ltX (by decide +kernel : kdX 197 = 6) (by decide)) (by decide +kernel : kdX 197 = 6) (obX6 (by decide +kernel : kdX 197 = 6)) (by decide) (frX6_9 (by decide +kernel : kdX 197 = 6)) fl6_40 (by decide +kernel) ?_
        refine sm_seg C [(.aload_n 0, 0)] (pc' := 36) (L' := [(0, .ref 197)]) (S' := [.ref 197, .ref 199, .ref 197]) (by decide +kernel) rfl ?_
        refine sm_getI 6 4 cls6 C (ltX (by decide +kernel : kdX 197 = 6) (by decide)) (by decide +kernel : kdX 197 = 6) (obX6 (by decide +kernel : kdX 197 = 6)) (by decide) (fiX6_4 (by decide +kernel : kdX 197 = 6)) fl6_24 (by decide +kernel) ?_
        refine sm_ald 401 C (ltX (krX6_9 (by decide +kernel : kdX 197 = 6)) (by decide)) (krX6_9 (by decide +kernel : kdX 197 = 6)) (nrX6_9 (by decide +kernel : kdX 197 = 6)) (by decide +kernel) (fun v2 => ?_)
        refine sm_pst 6 5 cls6 C (ltX (by decide +kernel : kdX 197 = 6) (by decide)) (by decide +kernel : kdX 197 = 6) (obX6 (by decide +kernel : kdX 197 = 6)) (by decide) (fiX6_5 (by decide +kernel : kdX 197 = 6)) rfl rfl rfl fl6_27 (by decide +kernel) (fun τ3 => ?_)
        refine sm_seg C [(.aload_n 0, 0), (.aload_n 0, 0)] (pc' := 45) (L' := [(0, .ref 197)]) (S' := [.ref 197, .ref 197]) (by decide +kernel) rfl ?_
        refine sm_getR 6 12 202 cls6 C (ltX (by decide +kernel : kdX 197 = 6) (by decide)) (by decide +kernel : kdX 197 = 6) (obX6 (by decide +kernel : kdX 197 = 6)) (by decide) (frX6_12 (by decide +kernel : kdX 197 = 6)) fl6_50 (by decide +kernel) ?_
        refine sm_seg C [(.aload_n 0, 0)] (pc' := 49) (L' := [(0, .ref 197)]) (S' := [.ref 197, .ref 202, .ref 197]) (by decide +kernel) rfl ?_
        refine sm_getI 6 4 cls6 C (ltX (by decide +kernel : kdX 197 = 6) (by decide)) (by decide +kernel : kdX 197 = 6) (obX6 (by decide +kernel : kdX 197 = 6)) (by decide) (fiX6_4 (by decide +kernel : kdX 197 = 6)) fl6_24 (by decide +kernel) ?_
        refine sm_ald 401 C (ltX (krX6_12 (by decide +kernel : kdX 197 = 6)) (by decide)) (krX6_12 (by decide +kernel : kdX 197 = 6)) (nrX6_12 (by decide +kernel : kdX 197 = 6)) (by decide +kernel) (fun v4 => ?_)
        refine sm_pst 6 6 cls6 C (ltX (by decide +kernel : kdX 197 = 6) (by decide)) (by decide +kernel : kdX 197 = 6) (obX6 (by decide +kernel : kdX 197 = 6)) (by decide) (fiX6_6 (by decide +kernel : kdX 197 = 6)) rfl rfl rfl fl6_30 (by decide +kernel) (fun τ5 => ?_)
        refine sm_seg C [(.aload_n 0, 0), (.aload_n 0, 0)] (pc' := 58) (L' := [(0, .ref 197)]) (S' := [.ref 197, .ref 197]) (by decide +kernel) rfl ?_
        refine sm_getR 6 10 200 cls6 C (ltX (by decide +kernel : kdX 197 = 6) (by decide)) (by decide +kernel : kdX 197 = 6) (obX6 (by decide +kernel : kdX 197 = 6)) (by decide) (frX6_10 (by decide +kernel : kdX 197 = 6)) fl6_44 (by decide +kernel) ?_
        refine sm_seg C [(.aload_n 0, 0)] (pc' := 62) (L' := [(0, .ref 197)]) (S' := [.ref 197, .ref 200, .ref 197]) (by decide +kernel) rfl ?_
        refine sm_getI 6 4 cls6 C (ltX (by decide +kernel : kdX 197 = 6) (by decide)) (by decide +kernel : kdX 197 = 6) (obX6 (by decide +kernel : kdX 197 = 6)) (by decide) (fiX6_4 (by decide +kernel : kdX 197 = 6)) fl6_24 (by decide +kernel) ?_
        refine sm_ald 401 C (ltX (krX6_10 (by decide +kernel : kdX 197 = 6)) (by decide)) (krX6_10 (by decide +kernel : kdX 197 = 6)) (nrX6_10 (by decide +kernel : kdX 197 = 6)) (by decide +kernel) (fun v6 => ?_)
        refine sm_pst 6 7 cls6 C (ltX (by decide +kernel : kdX 197 = 6) (by decide)) (by decide +kernel : kdX 197 = 6) (obX6 (by decide +kernel : kdX 197 = 6)) (by decide) (fiX6_7 (by decide +kernel : kdX 197 = 6)) rfl rfl rfl fl6_33 (by decide +kernel) (fun τ7 => ?_)
        exact sm_vret C hr (by decide +kernel)
    · exact sm_vret C hr (by decide +kernel)) h
/-! BasketEnvoys_Tokens.scan -/
def X6_scan_L122 (F : Nat) (s1 : Nat) : Nat → Int32 → Tau → Option (Int32 × Tau)
  | 0, _, _ => none
  | n + 1, a3, τ =>
    if (τ 197 3) ≤ a3 then (cal (X6_add F 5 (τ 197 0) τ) fun r5 τ6 => cal (X6_skip F τ6) fun r7 τ8 => some (0, τ8)) else (cal (X6_settle F s1 a3 τ) fun r9 τ10 => X6_scan_L122 F s1 n (a3 + 1) τ10)
theorem s_X6_scan_L122 (F : Nat) (s1 : Nat) {K : Ctx} (C : Cx K sysX RX6 cX6_scan 6 8) (hr : Rt K none) (h1 : s1 < 30) : ∀ (n : Nat) (a3 : Int32) (τ : Tau), Sm K sysX 6 (Qv K sysX) (X6_scan_L122 F s1 n a3 τ) 122 [(0, .ref 197), (1, .ref (100000 + s1)), (3, .int a3)] [] τ := by
  intro n
  induction n with
  | zero => intro a3 τ; exact sm_none
  | succ n ih =>
    intro a3 τ
    rw [X6_scan_L122]
    refine sm_seg C [(.iload_n 3, 0), (.aload_n 0, 0)] (pc' := 124) (L' := [(0, .ref 197), (1, .ref (100000 + s1)), (3, .int a3)]) (S' := [.ref 197, .int a3]) (by decide +kernel) rfl ?_
    refine sm_getI 6 3 cls6 C (ltX (by decide +kernel : kdX 197 = 6) (by decide)) (by decide +kernel : kdX 197 = 6) (obX6 (by decide +kernel : kdX 197 = 6)) (by decide) (fiX6_3 (by decide +kernel : kdX 197 = 6)) fl6_21 (by decide +kernel) ?_
    refine sm_icmpge 142 (off := 15) C (by decide +kernel) (by decide) (fun _ => ?_) (fun _ => ?_)
    · refine sm_seg C [(.aload_n 0, 0), (.iconst 5, 5), (.aload_n 0, 0)] (pc' := 145) (L' := [(0, .ref 197), (1, .ref (100000 + s1)), (3, .int a3)]) (S' := [.ref 197, .int 5, .ref 197]) (by decide +kernel) rfl ?_
      refine sm_getI 6 0 cls6 C (ltX (by decide +kernel : kdX 197 = 6) (by decide)) (by decide +kernel : kdX 197 = 6) (obX6 (by decide +kernel : kdX 197 = 6)) (by decide) (fiX6_0 (by decide +kernel : kdX 197 = 6)) fl6_9 (by decide +kernel) ?_
      refine sm_vcalv [.int 5, .int (τ 197 0)] [] rfl C mw_X6_add ml_6_60 rfl (ci := 6) rfl (ltX (by decide +kernel : kdX 197 = 6) (by decide)) (by decide +kernel : kdX 197 = 6) (by decide) ⟨by decide, by decide⟩ (Nat.le_of_ble_eq_true rfl) (by decide +kernel) (c_X6_add F 5 (τ 197 0) τ) (fun r5 τ6 => ?_)
      refine sm_seg C [(.aload_n 0, 0)] (pc' := 152) (L' := [(0, .ref 197), (1, .ref (100000 + s1)), (3, .int a3)]) (S' := [.ref 197]) (by decide +kernel) rfl ?_
      refine sm_vcalv [] [] rfl C mw_X6_skip ml_6_68 rfl (ci := 6) rfl (ltX (by decide +kernel : kdX 197 = 6) (by decide)) (by decide +kernel : kdX 197 = 6) (by decide) ⟨by decide, by decide⟩ (Nat.le_of_ble_eq_true rfl) (by decide +kernel) (c_X6_skip F τ6) (fun r7 τ8 => ?_)
      exact sm_vret C hr (by decide +kernel)
    · refine sm_seg C [(.aload_n 0, 0), (.iload_n 3, 0), (.aload_n 1, 0)] (pc' := 133) (L' := [(0, .ref 197), (1, .ref (100000 + s1)), (3, .int a3)]) (S' := [.ref (100000 + s1), .int a3, .ref 197]) (by decide +kernel) rfl ?_
      refine sm_vcalv [.int a3, .ref (100000 + s1)] [] rfl C mw_X6_settle ml_6_64 rfl (ci := 6) rfl (ltX (by decide +kernel : kdX 197 = 6) (by decide)) (by decide +kernel : kdX 197 = 6) (by decide) ⟨by decide, by decide⟩ (Nat.le_of_ble_eq_true rfl) (by decide +kernel) (c_X6_settle F s1 h1 a3 τ) (fun r9 τ10 => ?_)
      refine sm_seg C [(.iinc 3 1, 1), (.goto (-17), 0)] (pc' := 122) (L' := [(3, .int (a3 + 1)), (0, .ref 197), (1, .ref (100000 + s1))]) (S' := []) (by decide +kernel) rfl ?_
      exact sm_sub [1, 2, 0] rfl (ih (a3 + 1) τ10)
def X6_scan_j120 (F : Nat) (s1 : Nat) (τ : Tau) : Option (Int32 × Tau) :=
  X6_scan_L122 F s1 F 0 τ
theorem s_X6_scan_j120 (F : Nat) (s1 : Nat) {K : Ctx} (C : Cx K sysX RX6 cX6_scan 6 8) (hr : Rt K none) (h1 : s1 < 30) (τ : Tau) : Sm K sysX 6 (Qv K sysX) (X6_scan_j120 F s1 τ) 120 [(0, .ref 197), (1, .ref (100000 + s1))] [] τ := by
  unfold X6_scan_j120
  refine sm_seg C [(.iconst 0, 0), (.istore_n 3, 0)] (pc' := 122) (L' := [(3, .int 0), (0, .ref 197), (1, .ref (100000 + s1))]) (S' := []) (by decide +kernel) rfl ?_
  exact sm_sub [1, 2, 0] rfl (s_X6_scan_L122 F s1 C hr h1 F 0 τ)
def X6_scan_j111 (F : Nat) (self18 : Int32 → Int32 → Tau → Option (Int32 × Tau)) (s1 : Nat) (a3 : Int32) (a4 : Int32) (τ : Tau) : Option (Int32 × Tau) :=
  self18 a4 (a3 + 1) τ
theorem s_X6_scan_j111 (F : Nat) (s1 : Nat) {K : Ctx} (C : Cx K sysX RX6 cX6_scan 6 8) (hr : Rt K none) (h1 : s1 < 30) (self18 : Int32 → Int32 → Tau → Option (Int32 × Tau)) (ih18 : ∀ (a2 : Int32) (a3 : Int32) (τ : Tau), Sm K sysX 6 (Qv K sysX) (self18 a2 a3 τ) 18 [(0, .ref 197), (1, .ref (100000 + s1)), (2, .int a2), (3, .int a3)] [] τ) (a3 : Int32) (a4 : Int32) (τ : Tau) : Sm K sysX 6 (Qv K sysX) (X6_scan_j111 F self18 s1 a3 a4 τ) 111 [(0, .ref 197), (1, .ref (100000 + s1)), (3, .int a3), (4, .int a4)] [] τ := by
  unfold X6_scan_j111
  refine sm_seg C [(.iload 4, 0), (.istore_n 2, 0), (.iinc 3 1, 1), (.goto (-99), 0)] (pc' := 18) (L' := [(3, .int (a3 + 1)), (2, .int a4), (0, .ref 197), (1, .ref (100000 + s1)), (4, .int a4)]) (S' := []) (by decide +kernel) rfl ?_
  exact sm_sub [2, 3, 1, 0] rfl (ih18 a4 (a3 + 1) τ)
def X6_scan_j99 (F : Nat) (self18 : Int32 → Int32 → Tau → Option (Int32 × Tau)) (s1 : Nat) (a3 : Int32) (a4 : Int32) (τ : Tau) : Option (Int32 × Tau) :=
  if a4 = 0 then (X6_scan_j111 F self18 s1 a3 a4 τ) else (cal (X6_add F a4 a3 τ) fun r14 τ15 => X6_scan_j111 F self18 s1 a3 a4 τ15)
theorem s_X6_scan_j99 (F : Nat) (s1 : Nat) {K : Ctx} (C : Cx K sysX RX6 cX6_scan 6 8) (hr : Rt K none) (h1 : s1 < 30) (self18 : Int32 → Int32 → Tau → Option (Int32 × Tau)) (ih18 : ∀ (a2 : Int32) (a3 : Int32) (τ : Tau), Sm K sysX 6 (Qv K sysX) (self18 a2 a3 τ) 18 [(0, .ref 197), (1, .ref (100000 + s1)), (2, .int a2), (3, .int a3)] [] τ) (a3 : Int32) (a4 : Int32) (τ : Tau) : Sm K sysX 6 (Qv K sysX) (X6_scan_j99 F self18 s1 a3 a4 τ) 99 [(0, .ref 197), (1, .ref (100000 + s1)), (3, .int a3), (4, .int a4)] [] τ := by
  unfold X6_scan_j99
  refine sm_seg C [(.iload 4, 0)] (pc' := 101) (L' := [(0, .ref 197), (1, .ref (100000 + s1)), (3, .int a3), (4, .int a4)]) (S' := [.int a4]) (by decide +kernel) rfl ?_
  refine sm_ifeq 111 (off := 10) C (by decide +kernel) (by decide) (fun _ => ?_) (fun _ => ?_)
  · exact sm_sub [0, 1, 2, 3] rfl (s_X6_scan_j111 F s1 C hr h1 self18 ih18 a3 a4 τ)
  · refine sm_seg C [(.aload_n 0, 0), (.iload 4, 0), (.iload_n 3, 0)] (pc' := 108) (L' := [(0, .ref 197), (1, .ref (100000 + s1)), (3, .int a3), (4, .int a4)]) (S' := [.int a3, .int a4, .ref 197]) (by decide +kernel) rfl ?_
    refine sm_vcalv [.int a4, .int a3] [] rfl C mw_X6_add ml_6_60 rfl (ci := 6) rfl (ltX (by decide +kernel : kdX 197 = 6) (by decide)) (by decide +kernel : kdX 197 = 6) (by decide) ⟨by decide, by decide⟩ (Nat.le_of_ble_eq_true rfl) (by decide +kernel) (c_X6_add F a4 a3 τ) (fun r14 τ15 => ?_)
    exact sm_sub [0, 1, 2, 3] rfl (s_X6_scan_j111 F s1 C hr h1 self18 ih18 a3 a4 τ15)
def X6_scan_j61 (F : Nat) (self18 : Int32 → Int32 → Tau → Option (Int32 × Tau)) (s1 : Nat) (a2 : Int32) (a3 : Int32) (a4 : Int32) (z0 : Int32) (τ : Tau) : Option (Int32 × Tau) :=
  if z0 = 0 then (X6_scan_j99 F self18 s1 a3 a4 τ) else (if a4 = a2 then (if (τ 197 3) ≤ 0 then (X6_scan_j99 F self18 s1 a3 a4 τ) else (ald τ 201 401 ((τ 197 3) - 1) fun v16 => ast τ 201 401 ((τ 197 3) - 1) (v16 + 1) fun τ17 => X6_scan_j111 F self18 s1 a3 a4 τ17)) else (X6_scan_j99 F self18 s1 a3 a4 τ))
theorem s_X6_scan_j61 (F : Nat) (s1 : Nat) {K : Ctx} (C : Cx K sysX RX6 cX6_scan 6 8) (hr : Rt K none) (h1 : s1 < 30) (self18 : Int32 → Int32 → Tau → Option (Int32 × Tau)) (ih18 : ∀ (a2 : Int32) (a3 : Int32) (τ : Tau), Sm K sysX 6 (Qv K sysX) (self18 a2 a3 τ) 18 [(0, .ref 197), (1, .ref (100000 + s1)), (2, .int a2), (3, .int a3)] [] τ) (a2 : Int32) (a3 : Int32) (a4 : Int32) (z0 : Int32) (τ : Tau) : Sm K sysX 6 (Qv K sysX) (X6_scan_j61 F self18 s1 a2 a3 a4 z0 τ) 61 [(0, .ref 197), (1, .ref (100000 + s1)), (2, .int a2), (3, .int a3), (4, .int a4)] [.int z0] τ := by
  unfold X6_scan_j61
  refine sm_seg C [(.istore 5, 0), (.iload 5, 0)] (pc' := 65) (L' := [(5, .int z0), (0, .ref 197), (1, .ref (100000 + s1)), (2, .int a2), (3, .int a3), (4, .int a4)]) (S' := [.int z0]) (by decide +kernel) rfl ?_
  refine sm_ifeq 99 (off := 34) C (by decide +kernel) (by decide) (fun _ => ?_) (fun _ => ?_)
  · exact sm_sub [1, 2, 4, 5] rfl (s_X6_scan_j99 F s1 C hr h1 self18 ih18 a3 a4 τ)
  · refine sm_seg C [(.iload 4, 0), (.iload_n 2, 0)] (pc' := 71) (L' := [(5, .int z0), (0, .ref 197), (1, .ref (100000 + s1)), (2, .int a2), (3, .int a3), (4, .int a4)]) (S' := [.int a2, .int a4]) (by decide +kernel) rfl ?_
    refine sm_icmpne 99 (off := 28) C (by decide +kernel) (by decide) (fun _ => ?_) (fun _ => ?_)
    · refine sm_seg C [(.aload_n 0, 0)] (pc' := 75) (L' := [(5, .int z0), (0, .ref 197), (1, .ref (100000 + s1)), (2, .int a2), (3, .int a3), (4, .int a4)]) (S' := [.ref 197]) (by decide +kernel) rfl ?_
      refine sm_getI 6 3 cls6 C (ltX (by decide +kernel : kdX 197 = 6) (by decide)) (by decide +kernel : kdX 197 = 6) (obX6 (by decide +kernel : kdX 197 = 6)) (by decide) (fiX6_3 (by decide +kernel : kdX 197 = 6)) fl6_21 (by decide +kernel) ?_
      refine sm_ifle 99 (off := 21) C (by decide +kernel) (by decide) (fun _ => ?_) (fun _ => ?_)
      · exact sm_sub [1, 2, 4, 5] rfl (s_X6_scan_j99 F s1 C hr h1 self18 ih18 a3 a4 τ)
      · refine sm_seg C [(.aload_n 0, 0)] (pc' := 82) (L' := [(5, .int z0), (0, .ref 197), (1, .ref (100000 + s1)), (2, .int a2), (3, .int a3), (4, .int a4)]) (S' := [.ref 197]) (by decide +kernel) rfl ?_
        refine sm_getR 6 11 201 cls6 C (ltX (by decide +kernel : kdX 197 = 6) (by decide)) (by decide +kernel : kdX 197 = 6) (obX6 (by decide +kernel : kdX 197 = 6)) (by decide) (frX6_11 (by decide +kernel : kdX 197 = 6)) fl6_47 (by decide +kernel) ?_
        refine sm_seg C [(.aload_n 0, 0)] (pc' := 86) (L' := [(5, .int z0), (0, .ref 197), (1, .ref (100000 + s1)), (2, .int a2), (3, .int a3), (4, .int a4)]) (S' := [.ref 197, .ref 201]) (by decide +kernel) rfl ?_
        refine sm_getI 6 3 cls6 C (ltX (by decide +kernel : kdX 197 = 6) (by decide)) (by decide +kernel : kdX 197 = 6) (obX6 (by decide +kernel : kdX 197 = 6)) (by decide) (fiX6_3 (by decide +kernel : kdX 197 = 6)) fl6_21 (by decide +kernel) ?_
        refine sm_seg C [(.iconst 1, 1), (.isub, 0), (.dup2, 0)] (pc' := 92) (L' := [(5, .int z0), (0, .ref 197), (1, .ref (100000 + s1)), (2, .int a2), (3, .int a3), (4, .int a4)]) (S' := [.int ((τ 197 3) - 1), .ref 201, .int ((τ 197 3) - 1), .ref 201]) (by decide +kernel) rfl ?_
        refine sm_ald 401 C (ltX (krX6_11 (by decide +kernel : kdX 197 = 6)) (by decide)) (krX6_11 (by decide +kernel : kdX 197 = 6)) (nrX6_11 (by decide +kernel : kdX 197 = 6)) (by decide +kernel) (fun v16 => ?_)
        refine sm_seg C [(.iconst 1, 1), (.iadd, 0)] (pc' := 95) (L' := [(5, .int z0), (0, .ref 197), (1, .ref (100000 + s1)), (2, .int a2), (3, .int a3), (4, .int a4)]) (S' := [.int (v16 + 1), .int ((τ 197 3) - 1), .ref 201]) (by decide +kernel) rfl ?_
        refine sm_ast 401 C (ltX (krX6_11 (by decide +kernel : kdX 197 = 6)) (by decide)) (krX6_11 (by decide +kernel : kdX 197 = 6)) (nrX6_11 (by decide +kernel : kdX 197 = 6)) (by decide +kernel) (fun τ17 => ?_)
        refine sm_seg C [(.goto 15, 0)] (pc' := 111) (L' := [(5, .int z0), (0, .ref 197), (1, .ref (100000 + s1)), (2, .int a2), (3, .int a3), (4, .int a4)]) (S' := []) (by decide +kernel) rfl ?_
        exact sm_sub [1, 2, 4, 5] rfl (s_X6_scan_j111 F s1 C hr h1 self18 ih18 a3 a4 τ17)
    · exact sm_sub [1, 2, 4, 5] rfl (s_X6_scan_j99 F s1 C hr h1 self18 ih18 a3 a4 τ)
def X6_scan_j56 (F : Nat) (self18 : Int32 → Int32 → Tau → Option (Int32 × Tau)) (s1 : Nat) (a2 : Int32) (a3 : Int32) (a4 : Int32) (τ : Tau) : Option (Int32 × Tau) :=
  X6_scan_j61 F self18 s1 a2 a3 a4 1 τ
theorem s_X6_scan_j56 (F : Nat) (s1 : Nat) {K : Ctx} (C : Cx K sysX RX6 cX6_scan 6 8) (hr : Rt K none) (h1 : s1 < 30) (self18 : Int32 → Int32 → Tau → Option (Int32 × Tau)) (ih18 : ∀ (a2 : Int32) (a3 : Int32) (τ : Tau), Sm K sysX 6 (Qv K sysX) (self18 a2 a3 τ) 18 [(0, .ref 197), (1, .ref (100000 + s1)), (2, .int a2), (3, .int a3)] [] τ) (a2 : Int32) (a3 : Int32) (a4 : Int32) (τ : Tau) : Sm K sysX 6 (Qv K sysX) (X6_scan_j56 F self18 s1 a2 a3 a4 τ) 56 [(0, .ref 197), (1, .ref (100000 + s1)), (2, .int a2), (3, .int a3), (4, .int a4)] [] τ := by
  unfold X6_scan_j56
  refine sm_seg C [(.iconst 1, 1), (.goto 4, 0)] (pc' := 61) (L' := [(0, .ref 197), (1, .ref (100000 + s1)), (2, .int a2), (3, .int a3), (4, .int a4)]) (S' := [.int 1]) (by decide +kernel) rfl ?_
  exact sm_sub [0, 1, 2, 3, 4] rfl (s_X6_scan_j61 F s1 C hr h1 self18 ih18 a2 a3 a4 1 τ)
def X6_scan_L18 (F : Nat) (s1 : Nat) : Nat → Int32 → Int32 → Tau → Option (Int32 × Tau)
  | 0, _, _, _ => none
  | n + 1, a2, a3, τ =>
    if (τ 197 0) ≤ a3 then (X6_scan_j120 F s1 τ) else (if 400 ≤ a3 then (X6_scan_j120 F s1 τ) else (ald τ 198 400 a3 fun v11 => cal (X6_kindOf F v11 τ) fun r12 τ13 => if r12 = 1 then (X6_scan_j56 F (X6_scan_L18 F s1 n) s1 a2 a3 r12 τ13) else (if r12 = 2 then (X6_scan_j56 F (X6_scan_L18 F s1 n) s1 a2 a3 r12 τ13) else (X6_scan_j61 F (X6_scan_L18 F s1 n) s1 a2 a3 r12 0 τ13))))
theorem s_X6_scan_L18 (F : Nat) (s1 : Nat) {K : Ctx} (C : Cx K sysX RX6 cX6_scan 6 8) (hr : Rt K none) (h1 : s1 < 30) : ∀ (n : Nat) (a2 : Int32) (a3 : Int32) (τ : Tau), Sm K sysX 6 (Qv K sysX) (X6_scan_L18 F s1 n a2 a3 τ) 18 [(0, .ref 197), (1, .ref (100000 + s1)), (2, .int a2), (3, .int a3)] [] τ := by
  intro n
  induction n with
  | zero => intro a2 a3 τ; exact sm_none
  | succ n ih =>
    intro a2 a3 τ
    rw [X6_scan_L18]
    refine sm_seg C [(.iload_n 3, 0), (.aload_n 0, 0)] (pc' := 20) (L' := [(0, .ref 197), (1, .ref (100000 + s1)), (2, .int a2), (3, .int a3)]) (S' := [.ref 197, .int a3]) (by decide +kernel) rfl ?_
    refine sm_getI 6 0 cls6 C (ltX (by decide +kernel : kdX 197 = 6) (by decide)) (by decide +kernel : kdX 197 = 6) (obX6 (by decide +kernel : kdX 197 = 6)) (by decide) (fiX6_0 (by decide +kernel : kdX 197 = 6)) fl6_9 (by decide +kernel) ?_
    refine sm_icmpge 120 (off := 97) C (by decide +kernel) (by decide) (fun _ => ?_) (fun _ => ?_)
    · exact sm_sub [0, 1] rfl (s_X6_scan_j120 F s1 C hr h1 τ)
    · refine sm_seg C [(.iload_n 3, 0), (.sipush 400, 400)] (pc' := 30) (L' := [(0, .ref 197), (1, .ref (100000 + s1)), (2, .int a2), (3, .int a3)]) (S' := [.int 400, .int a3]) (by decide +kernel) rfl ?_
      refine sm_icmpge 120 (off := 90) C (by decide +kernel) (by decide) (fun _ => ?_) (fun _ => ?_)
      · exact sm_sub [0, 1] rfl (s_X6_scan_j120 F s1 C hr h1 τ)
      · refine sm_seg C [(.aload_n 0, 0)] (pc' := 34) (L' := [(0, .ref 197), (1, .ref (100000 + s1)), (2, .int a2), (3, .int a3)]) (S' := [.ref 197]) (by decide +kernel) rfl ?_
        refine sm_getR 6 8 198 cls6 C (ltX (by decide +kernel : kdX 197 = 6) (by decide)) (by decide +kernel : kdX 197 = 6) (obX6 (by decide +kernel : kdX 197 = 6)) (by decide) (frX6_8 (by decide +kernel : kdX 197 = 6)) fl6_36 (by decide +kernel) ?_
        refine sm_seg C [(.iload_n 3, 0)] (pc' := 38) (L' := [(0, .ref 197), (1, .ref (100000 + s1)), (2, .int a2), (3, .int a3)]) (S' := [.int a3, .ref 198]) (by decide +kernel) rfl ?_
        refine sm_ldc_ 400 C (ltX (krX6_8 (by decide +kernel : kdX 197 = 6)) (by decide)) (krX6_8 (by decide +kernel : kdX 197 = 6)) (nrX6_8 (by decide +kernel : kdX 197 = 6)) (by decide +kernel) (fun v11 => ?_)
        refine sm_scal [.int v11] [] rfl C mw_X6_kindOf ml_6_56 rfl ⟨by decide, by decide⟩ (Nat.le_of_ble_eq_true rfl) (by decide +kernel) (c_X6_kindOf F v11 τ) (fun r12 τ13 => ?_)
        refine sm_seg C [(.istore 4, 0), (.iload 4, 0), (.iconst 1, 1)] (pc' := 47) (L' := [(4, .int r12), (0, .ref 197), (1, .ref (100000 + s1)), (2, .int a2), (3, .int a3)]) (S' := [.int 1, .int r12]) (by decide +kernel) rfl ?_
        refine sm_icmpeq 56 (off := 9) C (by decide +kernel) (by decide) (fun _ => ?_) (fun _ => ?_)
        · exact sm_sub [1, 2, 3, 4, 0] rfl (s_X6_scan_j56 F s1 C hr h1 (X6_scan_L18 F s1 n) ih a2 a3 r12 τ13)
        · refine sm_seg C [(.iload 4, 0), (.iconst 2, 2)] (pc' := 53) (L' := [(4, .int r12), (0, .ref 197), (1, .ref (100000 + s1)), (2, .int a2), (3, .int a3)]) (S' := [.int 2, .int r12]) (by decide +kernel) rfl ?_
          refine sm_icmpne 60 (off := 7) C (by decide +kernel) (by decide) (fun _ => ?_) (fun _ => ?_)
          · exact sm_sub [1, 2, 3, 4, 0] rfl (s_X6_scan_j56 F s1 C hr h1 (X6_scan_L18 F s1 n) ih a2 a3 r12 τ13)
          · refine sm_seg C [(.iconst 0, 0)] (pc' := 61) (L' := [(4, .int r12), (0, .ref 197), (1, .ref (100000 + s1)), (2, .int a2), (3, .int a3)]) (S' := [.int 0]) (by decide +kernel) rfl ?_
            exact sm_sub [1, 2, 3, 4, 0] rfl (s_X6_scan_j61 F s1 C hr h1 (X6_scan_L18 F s1 n) ih a2 a3 r12 0 τ13)
def X6_scan (F : Nat) (s1 : Nat) (τ : Tau) : Option (Int32 × Tau) :=
  cal (X6_clearFault F τ) fun r1 τ2 => pst τ2 197 3 0 fun τ3 => pst τ3 197 4 (-1) fun τ4 => X6_scan_L18 F s1 F 0 0 τ4
set_option maxRecDepth 20000 in
set_option maxHeartbeats 4000000 in
theorem c_X6_scan (F : Nat) (s1 : Nat) (h1 : s1 < 30) (τ : Tau) (r : Int32) (τ' : Tau) (h : X6_scan F s1 τ = some (r, τ')) : MCv sysX yX6_scan cX6_scan 6 8 [.ref 197, .ref (100000 + s1)] τ τ' :=
  mcv_of (by decide +kernel) (Nat.le_of_ble_eq_true rfl) (fun K C hr => by
    show Sm K sysX 6 (Qv K sysX) (X6_scan F s1 τ) 0 [(0, .ref 197), (1, .ref (100000 + s1))] [] τ
    unfold X6_scan
    refine sm_seg C [(.aload_n 0, 0)] (pc' := 1) (L' := [(0, .ref 197), (1, .ref (100000 + s1))]) (S' := [.ref 197]) (by decide +kernel) rfl ?_
    refine sm_vcalv [] [] rfl C mw_X6_clearFault ml_6_53 rfl (ci := 6) rfl (ltX (by decide +kernel : kdX 197 = 6) (by decide)) (by decide +kernel : kdX 197 = 6) (by decide) ⟨by decide, by decide⟩ (Nat.le_of_ble_eq_true rfl) (by decide +kernel) (c_X6_clearFault F τ) (fun r1 τ2 => ?_)
    refine sm_seg C [(.aload_n 0, 0), (.iconst 0, 0)] (pc' := 6) (L' := [(0, .ref 197), (1, .ref (100000 + s1))]) (S' := [.int 0, .ref 197]) (by decide +kernel) rfl ?_
    refine sm_pst 6 3 cls6 C (ltX (by decide +kernel : kdX 197 = 6) (by decide)) (by decide +kernel : kdX 197 = 6) (obX6 (by decide +kernel : kdX 197 = 6)) (by decide) (fiX6_3 (by decide +kernel : kdX 197 = 6)) rfl rfl rfl fl6_21 (by decide +kernel) (fun τ3 => ?_)
    refine sm_seg C [(.aload_n 0, 0), (.iconst (-1), (-1))] (pc' := 11) (L' := [(0, .ref 197), (1, .ref (100000 + s1))]) (S' := [.int (-1), .ref 197]) (by decide +kernel) rfl ?_
    refine sm_pst 6 4 cls6 C (ltX (by decide +kernel : kdX 197 = 6) (by decide)) (by decide +kernel : kdX 197 = 6) (obX6 (by decide +kernel : kdX 197 = 6)) (by decide) (fiX6_4 (by decide +kernel : kdX 197 = 6)) rfl rfl rfl fl6_24 (by decide +kernel) (fun τ4 => ?_)
    refine sm_seg C [(.iconst 0, 0), (.istore_n 2, 0), (.iconst 0, 0), (.istore_n 3, 0)] (pc' := 18) (L' := [(3, .int 0), (2, .int 0), (0, .ref 197), (1, .ref (100000 + s1))]) (S' := []) (by decide +kernel) rfl ?_
    exact sm_sub [2, 3, 1, 0] rfl (s_X6_scan_L18 F s1 C hr h1 F 0 0 τ4)) h
/-! BasketEnvoys_Law.clear -/
def X2_clear (F : Nat) (t0 : Nat) (τ : Tau) : Option (Int32 × Tau) :=
  pst τ t0 0 0 fun τ1 => pst τ1 t0 1 0 fun τ2 => some (0, τ2)
set_option maxRecDepth 20000 in
set_option maxHeartbeats 4000000 in
theorem c_X2_clear (F : Nat) (t0 : Nat) (h0 : kdX t0 = 2) (τ : Tau) (r : Int32) (τ' : Tau) (h : X2_clear F t0 τ = some (r, τ')) : MCv sysX yX2_clear cX2_clear 1 1 [.ref t0] τ τ' :=
  mcv_of (by decide +kernel) (Nat.le_of_ble_eq_true rfl) (fun K C hr => by
    show Sm K sysX 1 (Qv K sysX) (X2_clear F t0 τ) 0 [(0, .ref t0)] [] τ
    unfold X2_clear
    refine sm_seg C [(.aload_n 0, 0), (.iconst 0, 0)] (pc' := 2) (L' := [(0, .ref t0)]) (S' := [.int 0, .ref t0]) (by decide +kernel) rfl ?_
    refine sm_pst 2 0 cls2 C (ltX h0 (by decide)) h0 (obX2 h0) (by decide) (fiX2_0 h0) rfl rfl rfl fl2_9 (by decide +kernel) (fun τ1 => ?_)
    refine sm_seg C [(.aload_n 0, 0), (.iconst 0, 0)] (pc' := 7) (L' := [(0, .ref t0)]) (S' := [.int 0, .ref t0]) (by decide +kernel) rfl ?_
    refine sm_pst 2 1 cls2 C (ltX h0 (by decide)) h0 (obX2 h0) (by decide) (fiX2_1 h0) rfl rfl rfl fl2_15 (by decide +kernel) (fun τ2 => ?_)
    exact sm_vret C hr (by decide +kernel)) h
/-! BasketEnvoys_Tokens.goesOn -/
def X6_goesOn (F : Nat) (τ : Tau) : Option (Int32 × Tau) :=
  if (τ 197 1) = 0 then (if (τ 197 5) = 5 then (some (0, τ)) else (some (1, τ))) else (some (0, τ))
set_option maxRecDepth 20000 in
set_option maxHeartbeats 4000000 in
theorem c_X6_goesOn (F : Nat) (τ : Tau) (r : Int32) (τ' : Tau) (h : X6_goesOn F τ = some (r, τ')) : MCi sysX yX6_goesOn cX6_goesOn 1 (some .boolean) 1 [.ref 197] τ r τ' :=
  mci_of (by decide +kernel) (Nat.le_of_ble_eq_true rfl) (fun K C hr => by
    show Sm K sysX 1 (Qi K sysX) (X6_goesOn F τ) 0 [(0, .ref 197)] [] τ
    unfold X6_goesOn
    refine sm_seg C [(.aload_n 0, 0)] (pc' := 1) (L' := [(0, .ref 197)]) (S' := [.ref 197]) (by decide +kernel) rfl ?_
    refine sm_getI 6 1 cls6 C (ltX (by decide +kernel : kdX 197 = 6) (by decide)) (by decide +kernel : kdX 197 = 6) (obX6 (by decide +kernel : kdX 197 = 6)) (by decide) (fiX6_1 (by decide +kernel : kdX 197 = 6)) fl6_15 (by decide +kernel) ?_
    refine sm_ifne 19 (off := 15) C (by decide +kernel) (by decide) (fun _ => ?_) (fun _ => ?_)
    · refine sm_seg C [(.aload_n 0, 0)] (pc' := 8) (L' := [(0, .ref 197)]) (S' := [.ref 197]) (by decide +kernel) rfl ?_
      refine sm_getI 6 5 cls6 C (ltX (by decide +kernel : kdX 197 = 6) (by decide)) (by decide +kernel : kdX 197 = 6) (obX6 (by decide +kernel : kdX 197 = 6)) (by decide) (fiX6_5 (by decide +kernel : kdX 197 = 6)) fl6_27 (by decide +kernel) ?_
      refine sm_seg C [(.iconst 5, 5)] (pc' := 12) (L' := [(0, .ref 197)]) (S' := [.int 5, .int (τ 197 5)]) (by decide +kernel) rfl ?_
      refine sm_icmpeq 19 (off := 7) C (by decide +kernel) (by decide) (fun _ => ?_) (fun _ => ?_)
      · refine sm_seg C [(.iconst 0, 0)] (pc' := 20) (L' := [(0, .ref 197)]) (S' := [.int 0]) (by decide +kernel) rfl ?_
        exact sm_iret C hr rfl (by decide +kernel)
      · refine sm_seg C [(.iconst 1, 1), (.goto 4, 0)] (pc' := 20) (L' := [(0, .ref 197)]) (S' := [.int 1]) (by decide +kernel) rfl ?_
        exact sm_iret C hr rfl (by decide +kernel)
    · refine sm_seg C [(.iconst 0, 0)] (pc' := 20) (L' := [(0, .ref 197)]) (S' := [.int 0]) (by decide +kernel) rfl ?_
      exact sm_iret C hr rfl (by decide +kernel)) h
/-! BasketEnvoys_Tokens.wordHere -/
def X6_wordHere (F : Nat) (τ : Tau) : Option (Int32 × Tau) :=
  if (τ 197 1) = 0 then (if (τ 197 5) = 1 then (some ((τ 197 6), τ)) else (some ((-1), τ))) else (some ((-1), τ))
set_option maxRecDepth 20000 in
set_option maxHeartbeats 4000000 in
theorem c_X6_wordHere (F : Nat) (τ : Tau) (r : Int32) (τ' : Tau) (h : X6_wordHere F τ = some (r, τ')) : MCi sysX yX6_wordHere cX6_wordHere 1 (some .int) 1 [.ref 197] τ r τ' :=
  mci_of (by decide +kernel) (Nat.le_of_ble_eq_true rfl) (fun K C hr => by
    show Sm K sysX 1 (Qi K sysX) (X6_wordHere F τ) 0 [(0, .ref 197)] [] τ
    unfold X6_wordHere
    refine sm_seg C [(.aload_n 0, 0)] (pc' := 1) (L' := [(0, .ref 197)]) (S' := [.ref 197]) (by decide +kernel) rfl ?_
    refine sm_getI 6 1 cls6 C (ltX (by decide +kernel : kdX 197 = 6) (by decide)) (by decide +kernel : kdX 197 = 6) (obX6 (by decide +kernel : kdX 197 = 6)) (by decide) (fiX6_1 (by decide +kernel : kdX 197 = 6)) fl6_15 (by decide +kernel) ?_
    refine sm_ifne 22 (off := 18) C (by decide +kernel) (by decide) (fun _ => ?_) (fun _ => ?_)
    · refine sm_seg C [(.aload_n 0, 0)] (pc' := 8) (L' := [(0, .ref 197)]) (S' := [.ref 197]) (by decide +kernel) rfl ?_
      refine sm_getI 6 5 cls6 C (ltX (by decide +kernel : kdX 197 = 6) (by decide)) (by decide +kernel : kdX 197 = 6) (obX6 (by decide +kernel : kdX 197 = 6)) (by decide) (fiX6_5 (by decide +kernel : kdX 197 = 6)) fl6_27 (by decide +kernel) ?_
      refine sm_seg C [(.iconst 1, 1)] (pc' := 12) (L' := [(0, .ref 197)]) (S' := [.int 1, .int (τ 197 5)]) (by decide +kernel) rfl ?_
      refine sm_icmpne 22 (off := 10) C (by decide +kernel) (by decide) (fun _ => ?_) (fun _ => ?_)
      · refine sm_seg C [(.aload_n 0, 0)] (pc' := 16) (L' := [(0, .ref 197)]) (S' := [.ref 197]) (by decide +kernel) rfl ?_
        refine sm_getI 6 6 cls6 C (ltX (by decide +kernel : kdX 197 = 6) (by decide)) (by decide +kernel : kdX 197 = 6) (obX6 (by decide +kernel : kdX 197 = 6)) (by decide) (fiX6_6 (by decide +kernel : kdX 197 = 6)) fl6_30 (by decide +kernel) ?_
        refine sm_seg C [(.goto 4, 0)] (pc' := 23) (L' := [(0, .ref 197)]) (S' := [.int (τ 197 6)]) (by decide +kernel) rfl ?_
        exact sm_iret C hr rfl (by decide +kernel)
      · refine sm_seg C [(.iconst (-1), (-1))] (pc' := 23) (L' := [(0, .ref 197)]) (S' := [.int (-1)]) (by decide +kernel) rfl ?_
        exact sm_iret C hr rfl (by decide +kernel)
    · refine sm_seg C [(.iconst (-1), (-1))] (pc' := 23) (L' := [(0, .ref 197)]) (S' := [.int (-1)]) (by decide +kernel) rfl ?_
      exact sm_iret C hr rfl (by decide +kernel)) h
/-! BasketEnvoys_Tokens.refuse -/
def X6_refuse (F : Nat) (a1 : Int32) (τ : Tau) : Option (Int32 × Tau) :=
  if (τ 197 1) = 0 then (pst τ 197 1 a1 fun τ1 => pst τ1 197 2 (τ1 197 7) fun τ2 => some (0, τ2)) else (some (0, τ))
set_option maxRecDepth 20000 in
set_option maxHeartbeats 4000000 in
theorem c_X6_refuse (F : Nat) (a1 : Int32) (τ : Tau) (r : Int32) (τ' : Tau) (h : X6_refuse F a1 τ = some (r, τ')) : MCv sysX yX6_refuse cX6_refuse 2 1 [.ref 197, .int a1] τ τ' :=
  mcv_of (by decide +kernel) (Nat.le_of_ble_eq_true rfl) (fun K C hr => by
    show Sm K sysX 2 (Qv K sysX) (X6_refuse F a1 τ) 0 [(0, .ref 197), (1, .int a1)] [] τ
    unfold X6_refuse
    refine sm_seg C [(.aload_n 0, 0)] (pc' := 1) (L' := [(0, .ref 197), (1, .int a1)]) (S' := [.ref 197]) (by decide +kernel) rfl ?_
    refine sm_getI 6 1 cls6 C (ltX (by decide +kernel : kdX 197 = 6) (by decide)) (by decide +kernel : kdX 197 = 6) (obX6 (by decide +kernel : kdX 197 = 6)) (by decide) (fiX6_1 (by decide +kernel : kdX 197 = 6)) fl6_15 (by decide +kernel) ?_
    refine sm_ifne 20 (off := 16) C (by decide +kernel) (by decide) (fun _ => ?_) (fun _ => ?_)
    · refine sm_seg C [(.aload_n 0, 0), (.iload_n 1, 0)] (pc' := 9) (L' := [(0, .ref 197), (1, .int a1)]) (S' := [.int a1, .ref 197]) (by decide +kernel) rfl ?_
      refine sm_pst 6 1 cls6 C (ltX (by decide +kernel : kdX 197 = 6) (by decide)) (by decide +kernel : kdX 197 = 6) (obX6 (by decide +kernel : kdX 197 = 6)) (by decide) (fiX6_1 (by decide +kernel : kdX 197 = 6)) rfl rfl rfl fl6_15 (by decide +kernel) (fun τ1 => ?_)
      refine sm_seg C [(.aload_n 0, 0), (.aload_n 0, 0)] (pc' := 14) (L' := [(0, .ref 197), (1, .int a1)]) (S' := [.ref 197, .ref 197]) (by decide +kernel) rfl ?_
      refine sm_getI 6 7 cls6 C (ltX (by decide +kernel : kdX 197 = 6) (by decide)) (by decide +kernel : kdX 197 = 6) (obX6 (by decide +kernel : kdX 197 = 6)) (by decide) (fiX6_7 (by decide +kernel : kdX 197 = 6)) fl6_33 (by decide +kernel) ?_
      refine sm_pst 6 2 cls6 C (ltX (by decide +kernel : kdX 197 = 6) (by decide)) (by decide +kernel : kdX 197 = 6) (obX6 (by decide +kernel : kdX 197 = 6)) (by decide) (fiX6_2 (by decide +kernel : kdX 197 = 6)) rfl rfl rfl fl6_18 (by decide +kernel) (fun τ2 => ?_)
      exact sm_vret C hr (by decide +kernel)
    · exact sm_vret C hr (by decide +kernel)) h
/-! BasketEnvoys_Law.here -/
def X2_here (F : Nat) (t0 : Nat) (τ : Tau) : Option (Int32 × Tau) :=
  some ((τ t0 1), τ)
set_option maxRecDepth 20000 in
set_option maxHeartbeats 4000000 in
theorem c_X2_here (F : Nat) (t0 : Nat) (h0 : kdX t0 = 2) (τ : Tau) (r : Int32) (τ' : Tau) (h : X2_here F t0 τ = some (r, τ')) : MCi sysX yX2_here cX2_here 1 (some .int) 1 [.ref t0] τ r τ' :=
  mci_of (by decide +kernel) (Nat.le_of_ble_eq_true rfl) (fun K C hr => by
    show Sm K sysX 1 (Qi K sysX) (X2_here F t0 τ) 0 [(0, .ref t0)] [] τ
    unfold X2_here
    refine sm_seg C [(.aload_n 0, 0)] (pc' := 1) (L' := [(0, .ref t0)]) (S' := [.ref t0]) (by decide +kernel) rfl ?_
    refine sm_getI 2 1 cls2 C (ltX h0 (by decide)) h0 (obX2 h0) (by decide) (fiX2_1 h0) fl2_15 (by decide +kernel) ?_
    exact sm_iret C hr rfl (by decide +kernel)) h
/-! BasketEnvoys_Tokens.isNumber -/
def X6_isNumber (F : Nat) (τ : Tau) : Option (Int32 × Tau) :=
  if (τ 197 1) = 0 then (if (τ 197 5) = 2 then (some (1, τ)) else (some (0, τ))) else (some (0, τ))
set_option maxRecDepth 20000 in
set_option maxHeartbeats 4000000 in
theorem c_X6_isNumber (F : Nat) (τ : Tau) (r : Int32) (τ' : Tau) (h : X6_isNumber F τ = some (r, τ')) : MCi sysX yX6_isNumber cX6_isNumber 1 (some .boolean) 1 [.ref 197] τ r τ' :=
  mci_of (by decide +kernel) (Nat.le_of_ble_eq_true rfl) (fun K C hr => by
    show Sm K sysX 1 (Qi K sysX) (X6_isNumber F τ) 0 [(0, .ref 197)] [] τ
    unfold X6_isNumber
    refine sm_seg C [(.aload_n 0, 0)] (pc' := 1) (L' := [(0, .ref 197)]) (S' := [.ref 197]) (by decide +kernel) rfl ?_
    refine sm_getI 6 1 cls6 C (ltX (by decide +kernel : kdX 197 = 6) (by decide)) (by decide +kernel : kdX 197 = 6) (obX6 (by decide +kernel : kdX 197 = 6)) (by decide) (fiX6_1 (by decide +kernel : kdX 197 = 6)) fl6_15 (by decide +kernel) ?_
    refine sm_ifne 19 (off := 15) C (by decide +kernel) (by decide) (fun _ => ?_) (fun _ => ?_)
    · refine sm_seg C [(.aload_n 0, 0)] (pc' := 8) (L' := [(0, .ref 197)]) (S' := [.ref 197]) (by decide +kernel) rfl ?_
      refine sm_getI 6 5 cls6 C (ltX (by decide +kernel : kdX 197 = 6) (by decide)) (by decide +kernel : kdX 197 = 6) (obX6 (by decide +kernel : kdX 197 = 6)) (by decide) (fiX6_5 (by decide +kernel : kdX 197 = 6)) fl6_27 (by decide +kernel) ?_
      refine sm_seg C [(.iconst 2, 2)] (pc' := 12) (L' := [(0, .ref 197)]) (S' := [.int 2, .int (τ 197 5)]) (by decide +kernel) rfl ?_
      refine sm_icmpne 19 (off := 7) C (by decide +kernel) (by decide) (fun _ => ?_) (fun _ => ?_)
      · refine sm_seg C [(.iconst 1, 1), (.goto 4, 0)] (pc' := 20) (L' := [(0, .ref 197)]) (S' := [.int 1]) (by decide +kernel) rfl ?_
        exact sm_iret C hr rfl (by decide +kernel)
      · refine sm_seg C [(.iconst 0, 0)] (pc' := 20) (L' := [(0, .ref 197)]) (S' := [.int 0]) (by decide +kernel) rfl ?_
        exact sm_iret C hr rfl (by decide +kernel)
    · refine sm_seg C [(.iconst 0, 0)] (pc' := 20) (L' := [(0, .ref 197)]) (S' := [.int 0]) (by decide +kernel) rfl ?_
      exact sm_iret C hr rfl (by decide +kernel)) h
/-! BasketEnvoys_Tokens.numberHere -/
def X6_numberHere (F : Nat) (τ : Tau) : Option (Int32 × Tau) :=
  some ((τ 197 6), τ)
set_option maxRecDepth 20000 in
set_option maxHeartbeats 4000000 in
theorem c_X6_numberHere (F : Nat) (τ : Tau) (r : Int32) (τ' : Tau) (h : X6_numberHere F τ = some (r, τ')) : MCi sysX yX6_numberHere cX6_numberHere 1 (some .int) 1 [.ref 197] τ r τ' :=
  mci_of (by decide +kernel) (Nat.le_of_ble_eq_true rfl) (fun K C hr => by
    show Sm K sysX 1 (Qi K sysX) (X6_numberHere F τ) 0 [(0, .ref 197)] [] τ
    unfold X6_numberHere
    refine sm_seg C [(.aload_n 0, 0)] (pc' := 1) (L' := [(0, .ref 197)]) (S' := [.ref 197]) (by decide +kernel) rfl ?_
    refine sm_getI 6 6 cls6 C (ltX (by decide +kernel : kdX 197 = 6) (by decide)) (by decide +kernel : kdX 197 = 6) (obX6 (by decide +kernel : kdX 197 = 6)) (by decide) (fiX6_6 (by decide +kernel : kdX 197 = 6)) fl6_30 (by decide +kernel) ?_
    exact sm_iret C hr rfl (by decide +kernel)) h
/-! BasketEnvoys_Law.emit -/
def X2_emit (F : Nat) (t0 : Nat) (a1 : Int32) (τ : Tau) : Option (Int32 × Tau) :=
  if 400 ≤ (τ t0 1) then (some (0, τ)) else (ast τ (t0 + 5) 400 (τ t0 1) a1 fun τ1 => pst τ1 t0 1 ((τ1 t0 1) + 1) fun τ2 => some (0, τ2))
set_option maxRecDepth 20000 in
set_option maxHeartbeats 4000000 in
theorem c_X2_emit (F : Nat) (t0 : Nat) (h0 : kdX t0 = 2) (a1 : Int32) (τ : Tau) (r : Int32) (τ' : Tau) (h : X2_emit F t0 a1 τ = some (r, τ')) : MCv sysX yX2_emit cX2_emit 2 1 [.ref t0, .int a1] τ τ' :=
  mcv_of (by decide +kernel) (Nat.le_of_ble_eq_true rfl) (fun K C hr => by
    show Sm K sysX 2 (Qv K sysX) (X2_emit F t0 a1 τ) 0 [(0, .ref t0), (1, .int a1)] [] τ
    unfold X2_emit
    refine sm_seg C [(.aload_n 0, 0)] (pc' := 1) (L' := [(0, .ref t0), (1, .int a1)]) (S' := [.ref t0]) (by decide +kernel) rfl ?_
    refine sm_getI 2 1 cls2 C (ltX h0 (by decide)) h0 (obX2 h0) (by decide) (fiX2_1 h0) fl2_15 (by decide +kernel) ?_
    refine sm_seg C [(.aload_n 0, 0)] (pc' := 5) (L' := [(0, .ref t0), (1, .int a1)]) (S' := [.ref t0, .int (τ t0 1)]) (by decide +kernel) rfl ?_
    refine sm_getR 2 6 (t0 + 5) cls2 C (ltX h0 (by decide)) h0 (obX2 h0) (by decide) (frX2_6 h0) fl2_31 (by decide +kernel) ?_
    refine sm_alen 20 0 400 (fun _ => rfl) C (ltX (krX2_6 h0) (by decide)) (krX2_6 h0) (by decide) (by decide) (nrX2_6 h0) rfl (by decide +kernel) ?_
    refine sm_icmpge 32 (off := 23) C (by decide +kernel) (by decide) (fun _ => ?_) (fun _ => ?_)
    · exact sm_vret C hr (by decide +kernel)
    · refine sm_seg C [(.aload_n 0, 0)] (pc' := 13) (L' := [(0, .ref t0), (1, .int a1)]) (S' := [.ref t0]) (by decide +kernel) rfl ?_
      refine sm_getR 2 6 (t0 + 5) cls2 C (ltX h0 (by decide)) h0 (obX2 h0) (by decide) (frX2_6 h0) fl2_31 (by decide +kernel) ?_
      refine sm_seg C [(.aload_n 0, 0)] (pc' := 17) (L' := [(0, .ref t0), (1, .int a1)]) (S' := [.ref t0, .ref (t0 + 5)]) (by decide +kernel) rfl ?_
      refine sm_getI 2 1 cls2 C (ltX h0 (by decide)) h0 (obX2 h0) (by decide) (fiX2_1 h0) fl2_15 (by decide +kernel) ?_
      refine sm_seg C [(.iload_n 1, 0)] (pc' := 21) (L' := [(0, .ref t0), (1, .int a1)]) (S' := [.int a1, .int (τ t0 1), .ref (t0 + 5)]) (by decide +kernel) rfl ?_
      refine sm_ast 400 C (ltX (krX2_6 h0) (by decide)) (krX2_6 h0) (nrX2_6 h0) (by decide +kernel) (fun τ1 => ?_)
      refine sm_seg C [(.aload_n 0, 0), (.dup, 0)] (pc' := 24) (L' := [(0, .ref t0), (1, .int a1)]) (S' := [.ref t0, .ref t0]) (by decide +kernel) rfl ?_
      refine sm_getI 2 1 cls2 C (ltX h0 (by decide)) h0 (obX2 h0) (by decide) (fiX2_1 h0) fl2_15 (by decide +kernel) ?_
      refine sm_seg C [(.iconst 1, 1), (.iadd, 0)] (pc' := 29) (L' := [(0, .ref t0), (1, .int a1)]) (S' := [.int ((τ1 t0 1) + 1), .ref t0]) (by decide +kernel) rfl ?_
      refine sm_pst 2 1 cls2 C (ltX h0 (by decide)) h0 (obX2 h0) (by decide) (fiX2_1 h0) rfl rfl rfl fl2_15 (by decide +kernel) (fun τ2 => ?_)
      exact sm_vret C hr (by decide +kernel)) h
/-! BasketEnvoys_Reader.readUnit -/
def X3_readUnit (F : Nat) (τ : Tau) : Option (Int32 × Tau) :=
  cal (X6_wordHere F τ) fun r1 τ2 => cal (X6_isNumber F τ2) fun r3 τ4 => if r3 = 0 then (cal (X10_within F r1 7 16 τ4) fun r5 τ6 => if r5 = 0 then (cal (X6_refuse F 1 τ6) fun r7 τ8 => some (0, τ8)) else (cal (X2_emit F 203 (r1 - 7) τ6) fun r9 τ10 => cal (X6_skip F τ10) fun r11 τ12 => some (0, τ12))) else (cal (X6_numberHere F τ4) fun r13 τ14 => cal (X2_emit F 203 (32 + r13) τ14) fun r15 τ16 => cal (X6_skip F τ16) fun r17 τ18 => some (0, τ18))
set_option maxRecDepth 20000 in
set_option maxHeartbeats 4000000 in
theorem c_X3_readUnit (F : Nat) (τ : Tau) (r : Int32) (τ' : Tau) (h : X3_readUnit F τ = some (r, τ')) : MCv sysX yX3_readUnit cX3_readUnit 2 2 [.ref 196] τ τ' :=
  mcv_of (by decide +kernel) (Nat.le_of_ble_eq_true rfl) (fun K C hr => by
    show Sm K sysX 2 (Qv K sysX) (X3_readUnit F τ) 0 [(0, .ref 196)] [] τ
    unfold X3_readUnit
    refine sm_seg C [(.aload_n 0, 0)] (pc' := 1) (L' := [(0, .ref 196)]) (S' := [.ref 196]) (by decide +kernel) rfl ?_
    refine sm_getR 3 0 197 cls3 C (ltX (by decide +kernel : kdX 196 = 3) (by decide)) (by decide +kernel : kdX 196 = 3) (obX3 (by decide +kernel : kdX 196 = 3)) (by decide) (frX3_0 (by decide +kernel : kdX 196 = 3)) fl3_12 (by decide +kernel) ?_
    refine sm_vcal [] [] rfl C mw_X6_wordHere ml_3_53 rfl (ci := 6) rfl (ltX (krX3_0 (by decide +kernel : kdX 196 = 3)) (by decide)) (krX3_0 (by decide +kernel : kdX 196 = 3)) (by decide) ⟨by decide, by decide⟩ (Nat.le_of_ble_eq_true rfl) (by decide +kernel) (c_X6_wordHere F τ) (fun r1 τ2 => ?_)
    refine sm_seg C [(.istore_n 1, 0), (.aload_n 0, 0)] (pc' := 9) (L' := [(1, .int r1), (0, .ref 196)]) (S' := [.ref 196]) (by decide +kernel) rfl ?_
    refine sm_getR 3 0 197 cls3 C (ltX (by decide +kernel : kdX 196 = 3) (by decide)) (by decide +kernel : kdX 196 = 3) (obX3 (by decide +kernel : kdX 196 = 3)) (by decide) (frX3_0 (by decide +kernel : kdX 196 = 3)) fl3_12 (by decide +kernel) ?_
    refine sm_vcal [] [] rfl C mw_X6_isNumber ml_3_116 rfl (ci := 6) rfl (ltX (krX3_0 (by decide +kernel : kdX 196 = 3)) (by decide)) (krX3_0 (by decide +kernel : kdX 196 = 3)) (by decide) ⟨by decide, by decide⟩ (Nat.le_of_ble_eq_true rfl) (by decide +kernel) (c_X6_isNumber F τ2) (fun r3 τ4 => ?_)
    refine sm_ifeq 45 (off := 30) C (by decide +kernel) (by decide) (fun _ => ?_) (fun _ => ?_)
    · refine sm_seg C [(.iload_n 1, 0), (.bipush 7, 7), (.bipush 16, 16)] (pc' := 50) (L' := [(1, .int r1), (0, .ref 196)]) (S' := [.int 16, .int 7, .int r1]) (by decide +kernel) rfl ?_
      refine sm_ncal "BasketEnvoys" [.int r1, .int 7, .int 16] [] rfl C mw_X10_within ml_3_57 rfl ⟨by decide, by decide⟩ (Nat.le_of_ble_eq_true rfl) (by decide +kernel) (c_X10_within F r1 7 16 τ4) (fun r5 τ6 => ?_)
      refine sm_ifeq 77 (off := 24) C (by decide +kernel) (by decide) (fun _ => ?_) (fun _ => ?_)
      · refine sm_seg C [(.aload_n 0, 0)] (pc' := 78) (L' := [(1, .int r1), (0, .ref 196)]) (S' := [.ref 196]) (by decide +kernel) rfl ?_
        refine sm_getR 3 0 197 cls3 C (ltX (by decide +kernel : kdX 196 = 3) (by decide)) (by decide +kernel : kdX 196 = 3) (obX3 (by decide +kernel : kdX 196 = 3)) (by decide) (frX3_0 (by decide +kernel : kdX 196 = 3)) fl3_12 (by decide +kernel) ?_
        refine sm_seg C [(.iconst 1, 1)] (pc' := 82) (L' := [(1, .int r1), (0, .ref 196)]) (S' := [.int 1, .ref 197]) (by decide +kernel) rfl ?_
        refine sm_vcalv [.int 1] [] rfl C mw_X6_refuse ml_3_61 rfl (ci := 6) rfl (ltX (krX3_0 (by decide +kernel : kdX 196 = 3)) (by decide)) (krX3_0 (by decide +kernel : kdX 196 = 3)) (by decide) ⟨by decide, by decide⟩ (Nat.le_of_ble_eq_true rfl) (by decide +kernel) (c_X6_refuse F 1 τ6) (fun r7 τ8 => ?_)
        exact sm_vret C hr (by decide +kernel)
      · refine sm_seg C [(.aload_n 0, 0)] (pc' := 57) (L' := [(1, .int r1), (0, .ref 196)]) (S' := [.ref 196]) (by decide +kernel) rfl ?_
        refine sm_getR 3 1 203 cls3 C (ltX (by decide +kernel : kdX 196 = 3) (by decide)) (by decide +kernel : kdX 196 = 3) (obX3 (by decide +kernel : kdX 196 = 3)) (by decide) (frX3_1 (by decide +kernel : kdX 196 = 3)) fl3_21 (by decide +kernel) ?_
        refine sm_seg C [(.iload_n 1, 0), (.bipush 7, 7), (.isub, 0)] (pc' := 64) (L' := [(1, .int r1), (0, .ref 196)]) (S' := [.int (r1 - 7), .ref 203]) (by decide +kernel) rfl ?_
        refine sm_vcalv [.int (r1 - 7)] [] rfl C mw_X2_emit ml_3_91 rfl (ci := 2) rfl (ltX (krX3_1 (by decide +kernel : kdX 196 = 3)) (by decide)) (krX3_1 (by decide +kernel : kdX 196 = 3)) (by decide) ⟨by decide, by decide⟩ (Nat.le_of_ble_eq_true rfl) (by decide +kernel) (c_X2_emit F 203 (krX3_1 (by decide +kernel : kdX 196 = 3)) (r1 - 7) τ6) (fun r9 τ10 => ?_)
        refine sm_seg C [(.aload_n 0, 0)] (pc' := 68) (L' := [(1, .int r1), (0, .ref 196)]) (S' := [.ref 196]) (by decide +kernel) rfl ?_
        refine sm_getR 3 0 197 cls3 C (ltX (by decide +kernel : kdX 196 = 3) (by decide)) (by decide +kernel : kdX 196 = 3) (obX3 (by decide +kernel : kdX 196 = 3)) (by decide) (frX3_0 (by decide +kernel : kdX 196 = 3)) fl3_12 (by decide +kernel) ?_
        refine sm_vcalv [] [] rfl C mw_X6_skip ml_3_64 rfl (ci := 6) rfl (ltX (krX3_0 (by decide +kernel : kdX 196 = 3)) (by decide)) (krX3_0 (by decide +kernel : kdX 196 = 3)) (by decide) ⟨by decide, by decide⟩ (Nat.le_of_ble_eq_true rfl) (by decide +kernel) (c_X6_skip F τ10) (fun r11 τ12 => ?_)
        refine sm_seg C [(.goto 11, 0)] (pc' := 85) (L' := [(1, .int r1), (0, .ref 196)]) (S' := []) (by decide +kernel) rfl ?_
        exact sm_vret C hr (by decide +kernel)
    · refine sm_seg C [(.aload_n 0, 0)] (pc' := 19) (L' := [(1, .int r1), (0, .ref 196)]) (S' := [.ref 196]) (by decide +kernel) rfl ?_
      refine sm_getR 3 1 203 cls3 C (ltX (by decide +kernel : kdX 196 = 3) (by decide)) (by decide +kernel : kdX 196 = 3) (obX3 (by decide +kernel : kdX 196 = 3)) (by decide) (frX3_1 (by decide +kernel : kdX 196 = 3)) fl3_21 (by decide +kernel) ?_
      refine sm_seg C [(.bipush 32, 32), (.aload_n 0, 0)] (pc' := 25) (L' := [(1, .int r1), (0, .ref 196)]) (S' := [.ref 196, .int 32, .ref 203]) (by decide +kernel) rfl ?_
      refine sm_getR 3 0 197 cls3 C (ltX (by decide +kernel : kdX 196 = 3) (by decide)) (by decide +kernel : kdX 196 = 3) (obX3 (by decide +kernel : kdX 196 = 3)) (by decide) (frX3_0 (by decide +kernel : kdX 196 = 3)) fl3_12 (by decide +kernel) ?_
      refine sm_vcal [] [.int 32, .ref 203] rfl C mw_X6_numberHere ml_3_119 rfl (ci := 6) rfl (ltX (krX3_0 (by decide +kernel : kdX 196 = 3)) (by decide)) (krX3_0 (by decide +kernel : kdX 196 = 3)) (by decide) ⟨by decide, by decide⟩ (Nat.le_of_ble_eq_true rfl) (by decide +kernel) (c_X6_numberHere F τ4) (fun r13 τ14 => ?_)
      refine sm_seg C [(.iadd, 0)] (pc' := 32) (L' := [(1, .int r1), (0, .ref 196)]) (S' := [.int (32 + r13), .ref 203]) (by decide +kernel) rfl ?_
      refine sm_vcalv [.int (32 + r13)] [] rfl C mw_X2_emit ml_3_91 rfl (ci := 2) rfl (ltX (krX3_1 (by decide +kernel : kdX 196 = 3)) (by decide)) (krX3_1 (by decide +kernel : kdX 196 = 3)) (by decide) ⟨by decide, by decide⟩ (Nat.le_of_ble_eq_true rfl) (by decide +kernel) (c_X2_emit F 203 (krX3_1 (by decide +kernel : kdX 196 = 3)) (32 + r13) τ14) (fun r15 τ16 => ?_)
      refine sm_seg C [(.aload_n 0, 0)] (pc' := 36) (L' := [(1, .int r1), (0, .ref 196)]) (S' := [.ref 196]) (by decide +kernel) rfl ?_
      refine sm_getR 3 0 197 cls3 C (ltX (by decide +kernel : kdX 196 = 3) (by decide)) (by decide +kernel : kdX 196 = 3) (obX3 (by decide +kernel : kdX 196 = 3)) (by decide) (frX3_0 (by decide +kernel : kdX 196 = 3)) fl3_12 (by decide +kernel) ?_
      refine sm_vcalv [] [] rfl C mw_X6_skip ml_3_64 rfl (ci := 6) rfl (ltX (krX3_0 (by decide +kernel : kdX 196 = 3)) (by decide)) (krX3_0 (by decide +kernel : kdX 196 = 3)) (by decide) ⟨by decide, by decide⟩ (Nat.le_of_ble_eq_true rfl) (by decide +kernel) (c_X6_skip F τ16) (fun r17 τ18 => ?_)
      refine sm_seg C [(.goto 43, 0)] (pc' := 85) (L' := [(1, .int r1), (0, .ref 196)]) (S' := []) (by decide +kernel) rfl ?_
      exact sm_vret C hr (by decide +kernel)) h
/-! BasketEnvoys_Tokens.signHere -/
def X6_signHere (F : Nat) (τ : Tau) : Option (Int32 × Tau) :=
  if (τ 197 1) = 0 then (if (τ 197 5) = 3 then (some (vp_nar .char (chr (τ 197 6)), τ)) else (some (32, τ))) else (some (32, τ))
set_option maxRecDepth 20000 in
set_option maxHeartbeats 4000000 in
theorem c_X6_signHere (F : Nat) (τ : Tau) (r : Int32) (τ' : Tau) (h : X6_signHere F τ = some (r, τ')) : MCi sysX yX6_signHere cX6_signHere 1 (some .char) 1 [.ref 197] τ r τ' :=
  mci_of (by decide +kernel) (Nat.le_of_ble_eq_true rfl) (fun K C hr => by
    show Sm K sysX 1 (Qi K sysX) (X6_signHere F τ) 0 [(0, .ref 197)] [] τ
    unfold X6_signHere
    refine sm_seg C [(.aload_n 0, 0)] (pc' := 1) (L' := [(0, .ref 197)]) (S' := [.ref 197]) (by decide +kernel) rfl ?_
    refine sm_getI 6 1 cls6 C (ltX (by decide +kernel : kdX 197 = 6) (by decide)) (by decide +kernel : kdX 197 = 6) (obX6 (by decide +kernel : kdX 197 = 6)) (by decide) (fiX6_1 (by decide +kernel : kdX 197 = 6)) fl6_15 (by decide +kernel) ?_
    refine sm_ifne 23 (off := 19) C (by decide +kernel) (by decide) (fun _ => ?_) (fun _ => ?_)
    · refine sm_seg C [(.aload_n 0, 0)] (pc' := 8) (L' := [(0, .ref 197)]) (S' := [.ref 197]) (by decide +kernel) rfl ?_
      refine sm_getI 6 5 cls6 C (ltX (by decide +kernel : kdX 197 = 6) (by decide)) (by decide +kernel : kdX 197 = 6) (obX6 (by decide +kernel : kdX 197 = 6)) (by decide) (fiX6_5 (by decide +kernel : kdX 197 = 6)) fl6_27 (by decide +kernel) ?_
      refine sm_seg C [(.iconst 3, 3)] (pc' := 12) (L' := [(0, .ref 197)]) (S' := [.int 3, .int (τ 197 5)]) (by decide +kernel) rfl ?_
      refine sm_icmpne 23 (off := 11) C (by decide +kernel) (by decide) (fun _ => ?_) (fun _ => ?_)
      · refine sm_seg C [(.aload_n 0, 0)] (pc' := 16) (L' := [(0, .ref 197)]) (S' := [.ref 197]) (by decide +kernel) rfl ?_
        refine sm_getI 6 6 cls6 C (ltX (by decide +kernel : kdX 197 = 6) (by decide)) (by decide +kernel : kdX 197 = 6) (obX6 (by decide +kernel : kdX 197 = 6)) (by decide) (fiX6_6 (by decide +kernel : kdX 197 = 6)) fl6_30 (by decide +kernel) ?_
        refine sm_seg C [(.i2c, 0), (.goto 5, 0)] (pc' := 25) (L' := [(0, .ref 197)]) (S' := [.int (chr (τ 197 6))]) (by decide +kernel) rfl ?_
        exact sm_iret C hr nar_char (by decide +kernel)
      · refine sm_seg C [(.bipush 32, 32)] (pc' := 25) (L' := [(0, .ref 197)]) (S' := [.int 32]) (by decide +kernel) rfl ?_
        exact sm_iret C hr rfl (by decide +kernel)
    · refine sm_seg C [(.bipush 32, 32)] (pc' := 25) (L' := [(0, .ref 197)]) (S' := [.int 32]) (by decide +kernel) rfl ?_
      exact sm_iret C hr rfl (by decide +kernel)) h
/-! BasketEnvoys_Tokens.takeNumber -/
def X6_takeNumber (F : Nat) (a1 : Int32) (a2 : Int32) (τ : Tau) : Option (Int32 × Tau) :=
  cal (X6_isNumber F τ) fun r1 τ2 => if r1 = 0 then (cal (X6_refuse F 1 τ2) fun r3 τ4 => some (0, τ4)) else (cal (X6_numberHere F τ2) fun r5 τ6 => cal (X10_within F r5 a1 a2 τ6) fun r7 τ8 => if r7 = 0 then (cal (X6_refuse F 2 τ8) fun r9 τ10 => some (r5, τ10)) else (cal (X6_skip F τ8) fun r11 τ12 => some (r5, τ12)))
set_option maxRecDepth 20000 in
set_option maxHeartbeats 4000000 in
theorem c_X6_takeNumber (F : Nat) (a1 : Int32) (a2 : Int32) (τ : Tau) (r : Int32) (τ' : Tau) (h : X6_takeNumber F a1 a2 τ = some (r, τ')) : MCi sysX yX6_takeNumber cX6_takeNumber 4 (some .int) 2 [.ref 197, .int a1, .int a2] τ r τ' :=
  mci_of (by decide +kernel) (Nat.le_of_ble_eq_true rfl) (fun K C hr => by
    show Sm K sysX 4 (Qi K sysX) (X6_takeNumber F a1 a2 τ) 0 [(0, .ref 197), (1, .int a1), (2, .int a2)] [] τ
    unfold X6_takeNumber
    refine sm_seg C [(.aload_n 0, 0)] (pc' := 1) (L' := [(0, .ref 197), (1, .int a1), (2, .int a2)]) (S' := [.ref 197]) (by decide +kernel) rfl ?_
    refine sm_vcal [] [] rfl C mw_X6_isNumber ml_6_118 rfl (ci := 6) rfl (ltX (by decide +kernel : kdX 197 = 6) (by decide)) (by decide +kernel : kdX 197 = 6) (by decide) ⟨by decide, by decide⟩ (Nat.le_of_ble_eq_true rfl) (by decide +kernel) (c_X6_isNumber F τ) (fun r1 τ2 => ?_)
    refine sm_ifne 14 (off := 10) C (by decide +kernel) (by decide) (fun _ => ?_) (fun _ => ?_)
    · refine sm_seg C [(.aload_n 0, 0), (.iconst 1, 1)] (pc' := 9) (L' := [(0, .ref 197), (1, .int a1), (2, .int a2)]) (S' := [.int 1, .ref 197]) (by decide +kernel) rfl ?_
      refine sm_vcalv [.int 1] [] rfl C mw_X6_refuse ml_6_110 rfl (ci := 6) rfl (ltX (by decide +kernel : kdX 197 = 6) (by decide)) (by decide +kernel : kdX 197 = 6) (by decide) ⟨by decide, by decide⟩ (Nat.le_of_ble_eq_true rfl) (by decide +kernel) (c_X6_refuse F 1 τ2) (fun r3 τ4 => ?_)
      refine sm_seg C [(.iconst 0, 0)] (pc' := 13) (L' := [(0, .ref 197), (1, .int a1), (2, .int a2)]) (S' := [.int 0]) (by decide +kernel) rfl ?_
      exact sm_iret C hr rfl (by decide +kernel)
    · refine sm_seg C [(.aload_n 0, 0)] (pc' := 15) (L' := [(0, .ref 197), (1, .int a1), (2, .int a2)]) (S' := [.ref 197]) (by decide +kernel) rfl ?_
      refine sm_vcal [] [] rfl C mw_X6_numberHere ml_6_122 rfl (ci := 6) rfl (ltX (by decide +kernel : kdX 197 = 6) (by decide)) (by decide +kernel : kdX 197 = 6) (by decide) ⟨by decide, by decide⟩ (Nat.le_of_ble_eq_true rfl) (by decide +kernel) (c_X6_numberHere F τ2) (fun r5 τ6 => ?_)
      refine sm_seg C [(.istore_n 3, 0), (.iload_n 3, 0), (.iload_n 1, 0), (.iload_n 2, 0)] (pc' := 22) (L' := [(3, .int r5), (0, .ref 197), (1, .int a1), (2, .int a2)]) (S' := [.int a2, .int a1, .int r5]) (by decide +kernel) rfl ?_
      refine sm_ncal "BasketEnvoys" [.int r5, .int a1, .int a2] [] rfl C mw_X10_within ml_6_125 rfl ⟨by decide, by decide⟩ (Nat.le_of_ble_eq_true rfl) (by decide +kernel) (c_X10_within F r5 a1 a2 τ6) (fun r7 τ8 => ?_)
      refine sm_ifeq 35 (off := 10) C (by decide +kernel) (by decide) (fun _ => ?_) (fun _ => ?_)
      · refine sm_seg C [(.aload_n 0, 0), (.iconst 2, 2)] (pc' := 37) (L' := [(3, .int r5), (0, .ref 197), (1, .int a1), (2, .int a2)]) (S' := [.int 2, .ref 197]) (by decide +kernel) rfl ?_
        refine sm_vcalv [.int 2] [] rfl C mw_X6_refuse ml_6_110 rfl (ci := 6) rfl (ltX (by decide +kernel : kdX 197 = 6) (by decide)) (by decide +kernel : kdX 197 = 6) (by decide) ⟨by decide, by decide⟩ (Nat.le_of_ble_eq_true rfl) (by decide +kernel) (c_X6_refuse F 2 τ8) (fun r9 τ10 => ?_)
        refine sm_seg C [(.iload_n 3, 0)] (pc' := 41) (L' := [(3, .int r5), (0, .ref 197), (1, .int a1), (2, .int a2)]) (S' := [.int r5]) (by decide +kernel) rfl ?_
        exact sm_iret C hr rfl (by decide +kernel)
      · refine sm_seg C [(.aload_n 0, 0)] (pc' := 29) (L' := [(3, .int r5), (0, .ref 197), (1, .int a1), (2, .int a2)]) (S' := [.ref 197]) (by decide +kernel) rfl ?_
        refine sm_vcalv [] [] rfl C mw_X6_skip ml_6_68 rfl (ci := 6) rfl (ltX (by decide +kernel : kdX 197 = 6) (by decide)) (by decide +kernel : kdX 197 = 6) (by decide) ⟨by decide, by decide⟩ (Nat.le_of_ble_eq_true rfl) (by decide +kernel) (c_X6_skip F τ8) (fun r11 τ12 => ?_)
        refine sm_seg C [(.goto 8, 0), (.iload_n 3, 0)] (pc' := 41) (L' := [(3, .int r5), (0, .ref 197), (1, .int a1), (2, .int a2)]) (S' := [.int r5]) (by decide +kernel) rfl ?_
        exact sm_iret C hr rfl (by decide +kernel)) h
/-! BasketEnvoys_Reader.readSum -/
def X3_readSum_j143 (F : Nat) (a1 : Int32) (τ : Tau) : Option (Int32 × Tau) :=
  if a1 = (-1) then (some (0, τ)) else (cal (X2_emit F 203 a1 τ) fun r3 τ4 => some (0, τ4))
theorem s_X3_readSum_j143 (F : Nat) {K : Ctx} (C : Cx K sysX RX3 cX3_readSum 4 5) (hr : Rt K none) (a1 : Int32) (τ : Tau) : Sm K sysX 4 (Qv K sysX) (X3_readSum_j143 F a1 τ) 143 [(0, .ref 196), (1, .int a1)] [] τ := by
  unfold X3_readSum_j143
  refine sm_seg C [(.iload_n 1, 0), (.iconst (-1), (-1))] (pc' := 145) (L' := [(0, .ref 196), (1, .int a1)]) (S' := [.int (-1), .int a1]) (by decide +kernel) rfl ?_
  refine sm_icmpeq 156 (off := 11) C (by decide +kernel) (by decide) (fun _ => ?_) (fun _ => ?_)
  · exact sm_vret C hr (by decide +kernel)
  · refine sm_seg C [(.aload_n 0, 0)] (pc' := 149) (L' := [(0, .ref 196), (1, .int a1)]) (S' := [.ref 196]) (by decide +kernel) rfl ?_
    refine sm_getR 3 1 203 cls3 C (ltX (by decide +kernel : kdX 196 = 3) (by decide)) (by decide +kernel : kdX 196 = 3) (obX3 (by decide +kernel : kdX 196 = 3)) (by decide) (frX3_1 (by decide +kernel : kdX 196 = 3)) fl3_21 (by decide +kernel) ?_
    refine sm_seg C [(.iload_n 1, 0)] (pc' := 153) (L' := [(0, .ref 196), (1, .int a1)]) (S' := [.int a1, .ref 203]) (by decide +kernel) rfl ?_
    refine sm_vcalv [.int a1] [] rfl C mw_X2_emit ml_3_91 rfl (ci := 2) rfl (ltX (krX3_1 (by decide +kernel : kdX 196 = 3)) (by decide)) (krX3_1 (by decide +kernel : kdX 196 = 3)) (by decide) ⟨by decide, by decide⟩ (Nat.le_of_ble_eq_true rfl) (by decide +kernel) (c_X2_emit F 203 (krX3_1 (by decide +kernel : kdX 196 = 3)) a1 τ) (fun r3 τ4 => ?_)
    exact sm_vret C hr (by decide +kernel)
def X3_readSum_j137 (F : Nat) (self8 : Int32 → Int32 → Tau → Option (Int32 × Tau)) (a1 : Int32) (a2 : Int32) (τ : Tau) : Option (Int32 × Tau) :=
  self8 a1 (a2 + 1) τ
theorem s_X3_readSum_j137 (F : Nat) {K : Ctx} (C : Cx K sysX RX3 cX3_readSum 4 5) (hr : Rt K none) (self8 : Int32 → Int32 → Tau → Option (Int32 × Tau)) (ih8 : ∀ (a1 : Int32) (a2 : Int32) (τ : Tau), Sm K sysX 4 (Qv K sysX) (self8 a1 a2 τ) 8 [(0, .ref 196), (1, .int a1), (2, .int a2)] [] τ) (a1 : Int32) (a2 : Int32) (τ : Tau) : Sm K sysX 4 (Qv K sysX) (X3_readSum_j137 F self8 a1 a2 τ) 137 [(0, .ref 196), (1, .int a1), (2, .int a2)] [] τ := by
  unfold X3_readSum_j137
  refine sm_seg C [(.iinc 2 1, 1), (.goto (-132), 0)] (pc' := 8) (L' := [(2, .int (a2 + 1)), (0, .ref 196), (1, .int a1)]) (S' := []) (by decide +kernel) rfl ?_
  exact sm_sub [1, 2, 0] rfl (ih8 a1 (a2 + 1) τ)
def X3_readSum_j132 (F : Nat) (self8 : Int32 → Int32 → Tau → Option (Int32 × Tau)) (a2 : Int32) (z0 : Int32) (τ : Tau) : Option (Int32 × Tau) :=
  cal (X3_readUnit F τ) fun r23 τ24 => X3_readSum_j137 F self8 z0 a2 τ24
theorem s_X3_readSum_j132 (F : Nat) {K : Ctx} (C : Cx K sysX RX3 cX3_readSum 4 5) (hr : Rt K none) (self8 : Int32 → Int32 → Tau → Option (Int32 × Tau)) (ih8 : ∀ (a1 : Int32) (a2 : Int32) (τ : Tau), Sm K sysX 4 (Qv K sysX) (self8 a1 a2 τ) 8 [(0, .ref 196), (1, .int a1), (2, .int a2)] [] τ) (a2 : Int32) (z0 : Int32) (τ : Tau) : Sm K sysX 4 (Qv K sysX) (X3_readSum_j132 F self8 a2 z0 τ) 132 [(0, .ref 196), (2, .int a2)] [.int z0] τ := by
  unfold X3_readSum_j132
  refine sm_seg C [(.istore_n 1, 0), (.aload_n 0, 0)] (pc' := 134) (L' := [(1, .int z0), (0, .ref 196), (2, .int a2)]) (S' := [.ref 196]) (by decide +kernel) rfl ?_
  refine sm_vcalv [] [] rfl C mw_X3_readUnit ml_3_101 rfl (ci := 3) rfl (ltX (by decide +kernel : kdX 196 = 3) (by decide)) (by decide +kernel : kdX 196 = 3) (by decide) ⟨by decide, by decide⟩ (Nat.le_of_ble_eq_true rfl) (by decide +kernel) (c_X3_readUnit F τ) (fun r23 τ24 => ?_)
  exact sm_sub [1, 0, 2] rfl (s_X3_readSum_j137 F C hr self8 ih8 z0 a2 τ24)
def X3_readSum_j119 (F : Nat) (self8 : Int32 → Int32 → Tau → Option (Int32 × Tau)) (a2 : Int32) (a3 : Int32) (τ : Tau) : Option (Int32 × Tau) :=
  if a3 = 43 then (X3_readSum_j132 F self8 a2 10 τ) else (X3_readSum_j132 F self8 a2 11 τ)
theorem s_X3_readSum_j119 (F : Nat) {K : Ctx} (C : Cx K sysX RX3 cX3_readSum 4 5) (hr : Rt K none) (self8 : Int32 → Int32 → Tau → Option (Int32 × Tau)) (ih8 : ∀ (a1 : Int32) (a2 : Int32) (τ : Tau), Sm K sysX 4 (Qv K sysX) (self8 a1 a2 τ) 8 [(0, .ref 196), (1, .int a1), (2, .int a2)] [] τ) (a2 : Int32) (a3 : Int32) (τ : Tau) : Sm K sysX 4 (Qv K sysX) (X3_readSum_j119 F self8 a2 a3 τ) 119 [(0, .ref 196), (2, .int a2), (3, .int a3)] [] τ := by
  unfold X3_readSum_j119
  refine sm_seg C [(.iload_n 3, 0), (.bipush 43, 43)] (pc' := 122) (L' := [(0, .ref 196), (2, .int a2), (3, .int a3)]) (S' := [.int 43, .int a3]) (by decide +kernel) rfl ?_
  refine sm_icmpne 130 (off := 8) C (by decide +kernel) (by decide) (fun _ => ?_) (fun _ => ?_)
  · refine sm_seg C [(.bipush 10, 10), (.goto 5, 0)] (pc' := 132) (L' := [(0, .ref 196), (2, .int a2), (3, .int a3)]) (S' := [.int 10]) (by decide +kernel) rfl ?_
    exact sm_sub [0, 1] rfl (s_X3_readSum_j132 F C hr self8 ih8 a2 10 τ)
  · refine sm_seg C [(.bipush 11, 11)] (pc' := 132) (L' := [(0, .ref 196), (2, .int a2), (3, .int a3)]) (S' := [.int 11]) (by decide +kernel) rfl ?_
    exact sm_sub [0, 1] rfl (s_X3_readSum_j132 F C hr self8 ih8 a2 11 τ)
def X3_readSum_L8 (F : Nat) : Nat → Int32 → Int32 → Tau → Option (Int32 × Tau)
  | 0, _, _, _ => none
  | n + 1, a1, a2, τ =>
    if 400 ≤ a2 then (X3_readSum_j143 F a1 τ) else (cal (X6_signHere F τ) fun r5 τ6 => cal (X_String_indexOf__I_I F 2 r5 τ6) fun r7 τ8 => if r7 < 0 then (X3_readSum_j143 F a1 τ8) else (cal (X6_signHere F τ8) fun r9 τ10 => cal (X6_skip F τ10) fun r11 τ12 => if r9 = 42 then (cal (X3_readUnit F τ12) fun r13 τ14 => cal (X2_emit F 203 12 τ14) fun r15 τ16 => X3_readSum_j137 F (X3_readSum_L8 F n) a1 a2 τ16) else (if r9 = 47 then (cal (X6_takeNumber F 1 9999 τ12) fun r17 τ18 => cal (X2_emit F 203 (32 + r17) τ18) fun r19 τ20 => cal (X2_emit F 203 13 τ20) fun r21 τ22 => X3_readSum_j137 F (X3_readSum_L8 F n) a1 a2 τ22) else (if a1 = (-1) then (X3_readSum_j119 F (X3_readSum_L8 F n) a2 r9 τ12) else (cal (X2_emit F 203 a1 τ12) fun r25 τ26 => X3_readSum_j119 F (X3_readSum_L8 F n) a2 r9 τ26)))))
theorem s_X3_readSum_L8 (F : Nat) {K : Ctx} (C : Cx K sysX RX3 cX3_readSum 4 5) (hr : Rt K none) : ∀ (n : Nat) (a1 : Int32) (a2 : Int32) (τ : Tau), Sm K sysX 4 (Qv K sysX) (X3_readSum_L8 F n a1 a2 τ) 8 [(0, .ref 196), (1, .int a1), (2, .int a2)] [] τ := by
  intro n
  induction n with
  | zero => intro a1 a2 τ; exact sm_none
  | succ n ih =>
    intro a1 a2 τ
    rw [X3_readSum_L8]
    refine sm_seg C [(.iload_n 2, 0), (.sipush 400, 400)] (pc' := 12) (L' := [(0, .ref 196), (1, .int a1), (2, .int a2)]) (S' := [.int 400, .int a2]) (by decide +kernel) rfl ?_
    refine sm_icmpge 143 (off := 131) C (by decide +kernel) (by decide) (fun _ => ?_) (fun _ => ?_)
    · exact sm_sub [0, 1] rfl (s_X3_readSum_j143 F C hr a1 τ)
    · refine sm_ldcS C st_2 (by decide +kernel) ?_
      refine sm_seg C [(.aload_n 0, 0)] (pc' := 18) (L' := [(0, .ref 196), (1, .int a1), (2, .int a2)]) (S' := [.ref 196, .ref (100000 + 2)]) (by decide +kernel) rfl ?_
      refine sm_getR 3 0 197 cls3 C (ltX (by decide +kernel : kdX 196 = 3) (by decide)) (by decide +kernel : kdX 196 = 3) (obX3 (by decide +kernel : kdX 196 = 3)) (by decide) (frX3_0 (by decide +kernel : kdX 196 = 3)) fl3_12 (by decide +kernel) ?_
      refine sm_vcal [] [.ref (100000 + 2)] rfl C mw_X6_signHere ml_3_94 rfl (ci := 6) rfl (ltX (krX3_0 (by decide +kernel : kdX 196 = 3)) (by decide)) (krX3_0 (by decide +kernel : kdX 196 = 3)) (by decide) ⟨by decide, by decide⟩ (Nat.le_of_ble_eq_true rfl) (by decide +kernel) (c_X6_signHere F τ) (fun r5 τ6 => ?_)
      refine sm_vstr [.int r5] [] rfl C (by decide : 2 < 30) mw_String_indexOf__I_I rfl ml_3_106 rfl ⟨by decide, by decide⟩ (Nat.le_of_ble_eq_true rfl) (by decide +kernel) (c_X_String_indexOf__I_I F 2 (by decide : 2 < 30) r5 τ6) (fun r7 τ8 => ?_)
      refine sm_iflt 143 (off := 116) C (by decide +kernel) (by decide) (fun _ => ?_) (fun _ => ?_)
      · exact sm_sub [0, 1] rfl (s_X3_readSum_j143 F C hr a1 τ8)
      · refine sm_seg C [(.aload_n 0, 0)] (pc' := 31) (L' := [(0, .ref 196), (1, .int a1), (2, .int a2)]) (S' := [.ref 196]) (by decide +kernel) rfl ?_
        refine sm_getR 3 0 197 cls3 C (ltX (by decide +kernel : kdX 196 = 3) (by decide)) (by decide +kernel : kdX 196 = 3) (obX3 (by decide +kernel : kdX 196 = 3)) (by decide) (frX3_0 (by decide +kernel : kdX 196 = 3)) fl3_12 (by decide +kernel) ?_
        refine sm_vcal [] [] rfl C mw_X6_signHere ml_3_94 rfl (ci := 6) rfl (ltX (krX3_0 (by decide +kernel : kdX 196 = 3)) (by decide)) (krX3_0 (by decide +kernel : kdX 196 = 3)) (by decide) ⟨by decide, by decide⟩ (Nat.le_of_ble_eq_true rfl) (by decide +kernel) (c_X6_signHere F τ8) (fun r9 τ10 => ?_)
        refine sm_seg C [(.istore_n 3, 0), (.aload_n 0, 0)] (pc' := 39) (L' := [(3, .int r9), (0, .ref 196), (1, .int a1), (2, .int a2)]) (S' := [.ref 196]) (by decide +kernel) rfl ?_
        refine sm_getR 3 0 197 cls3 C (ltX (by decide +kernel : kdX 196 = 3) (by decide)) (by decide +kernel : kdX 196 = 3) (obX3 (by decide +kernel : kdX 196 = 3)) (by decide) (frX3_0 (by decide +kernel : kdX 196 = 3)) fl3_12 (by decide +kernel) ?_
        refine sm_vcalv [] [] rfl C mw_X6_skip ml_3_64 rfl (ci := 6) rfl (ltX (krX3_0 (by decide +kernel : kdX 196 = 3)) (by decide)) (krX3_0 (by decide +kernel : kdX 196 = 3)) (by decide) ⟨by decide, by decide⟩ (Nat.le_of_ble_eq_true rfl) (by decide +kernel) (c_X6_skip F τ10) (fun r11 τ12 => ?_)
        refine sm_seg C [(.iload_n 3, 0), (.bipush 42, 42)] (pc' := 48) (L' := [(3, .int r9), (0, .ref 196), (1, .int a1), (2, .int a2)]) (S' := [.int 42, .int r9]) (by decide +kernel) rfl ?_
        refine sm_icmpne 67 (off := 19) C (by decide +kernel) (by decide) (fun _ => ?_) (fun _ => ?_)
        · refine sm_seg C [(.aload_n 0, 0)] (pc' := 52) (L' := [(3, .int r9), (0, .ref 196), (1, .int a1), (2, .int a2)]) (S' := [.ref 196]) (by decide +kernel) rfl ?_
          refine sm_vcalv [] [] rfl C mw_X3_readUnit ml_3_101 rfl (ci := 3) rfl (ltX (by decide +kernel : kdX 196 = 3) (by decide)) (by decide +kernel : kdX 196 = 3) (by decide) ⟨by decide, by decide⟩ (Nat.le_of_ble_eq_true rfl) (by decide +kernel) (c_X3_readUnit F τ12) (fun r13 τ14 => ?_)
          refine sm_seg C [(.aload_n 0, 0)] (pc' := 56) (L' := [(3, .int r9), (0, .ref 196), (1, .int a1), (2, .int a2)]) (S' := [.ref 196]) (by decide +kernel) rfl ?_
          refine sm_getR 3 1 203 cls3 C (ltX (by decide +kernel : kdX 196 = 3) (by decide)) (by decide +kernel : kdX 196 = 3) (obX3 (by decide +kernel : kdX 196 = 3)) (by decide) (frX3_1 (by decide +kernel : kdX 196 = 3)) fl3_21 (by decide +kernel) ?_
          refine sm_seg C [(.bipush 12, 12)] (pc' := 61) (L' := [(3, .int r9), (0, .ref 196), (1, .int a1), (2, .int a2)]) (S' := [.int 12, .ref 203]) (by decide +kernel) rfl ?_
          refine sm_vcalv [.int 12] [] rfl C mw_X2_emit ml_3_91 rfl (ci := 2) rfl (ltX (krX3_1 (by decide +kernel : kdX 196 = 3)) (by decide)) (krX3_1 (by decide +kernel : kdX 196 = 3)) (by decide) ⟨by decide, by decide⟩ (Nat.le_of_ble_eq_true rfl) (by decide +kernel) (c_X2_emit F 203 (krX3_1 (by decide +kernel : kdX 196 = 3)) 12 τ14) (fun r15 τ16 => ?_)
          refine sm_seg C [(.goto 73, 0)] (pc' := 137) (L' := [(3, .int r9), (0, .ref 196), (1, .int a1), (2, .int a2)]) (S' := []) (by decide +kernel) rfl ?_
          exact sm_sub [1, 2, 3] rfl (s_X3_readSum_j137 F C hr (X3_readSum_L8 F n) ih a1 a2 τ16)
        · refine sm_seg C [(.iload_n 3, 0), (.bipush 47, 47)] (pc' := 70) (L' := [(3, .int r9), (0, .ref 196), (1, .int a1), (2, .int a2)]) (S' := [.int 47, .int r9]) (by decide +kernel) rfl ?_
          refine sm_icmpne 106 (off := 36) C (by decide +kernel) (by decide) (fun _ => ?_) (fun _ => ?_)
          · refine sm_seg C [(.aload_n 0, 0)] (pc' := 74) (L' := [(3, .int r9), (0, .ref 196), (1, .int a1), (2, .int a2)]) (S' := [.ref 196]) (by decide +kernel) rfl ?_
            refine sm_getR 3 1 203 cls3 C (ltX (by decide +kernel : kdX 196 = 3) (by decide)) (by decide +kernel : kdX 196 = 3) (obX3 (by decide +kernel : kdX 196 = 3)) (by decide) (frX3_1 (by decide +kernel : kdX 196 = 3)) fl3_21 (by decide +kernel) ?_
            refine sm_seg C [(.bipush 32, 32), (.aload_n 0, 0)] (pc' := 80) (L' := [(3, .int r9), (0, .ref 196), (1, .int a1), (2, .int a2)]) (S' := [.ref 196, .int 32, .ref 203]) (by decide +kernel) rfl ?_
            refine sm_getR 3 0 197 cls3 C (ltX (by decide +kernel : kdX 196 = 3) (by decide)) (by decide +kernel : kdX 196 = 3) (obX3 (by decide +kernel : kdX 196 = 3)) (by decide) (frX3_0 (by decide +kernel : kdX 196 = 3)) fl3_12 (by decide +kernel) ?_
            refine sm_seg C [(.iconst 1, 1), (.sipush 9999, 9999)] (pc' := 87) (L' := [(3, .int r9), (0, .ref 196), (1, .int a1), (2, .int a2)]) (S' := [.int 9999, .int 1, .ref 197, .int 32, .ref 203]) (by decide +kernel) rfl ?_
            refine sm_vcal [.int 1, .int 9999] [.int 32, .ref 203] rfl C mw_X6_takeNumber ml_3_112 rfl (ci := 6) rfl (ltX (krX3_0 (by decide +kernel : kdX 196 = 3)) (by decide)) (krX3_0 (by decide +kernel : kdX 196 = 3)) (by decide) ⟨by decide, by decide⟩ (Nat.le_of_ble_eq_true rfl) (by decide +kernel) (c_X6_takeNumber F 1 9999 τ12) (fun r17 τ18 => ?_)
            refine sm_seg C [(.iadd, 0)] (pc' := 91) (L' := [(3, .int r9), (0, .ref 196), (1, .int a1), (2, .int a2)]) (S' := [.int (32 + r17), .ref 203]) (by decide +kernel) rfl ?_
            refine sm_vcalv [.int (32 + r17)] [] rfl C mw_X2_emit ml_3_91 rfl (ci := 2) rfl (ltX (krX3_1 (by decide +kernel : kdX 196 = 3)) (by decide)) (krX3_1 (by decide +kernel : kdX 196 = 3)) (by decide) ⟨by decide, by decide⟩ (Nat.le_of_ble_eq_true rfl) (by decide +kernel) (c_X2_emit F 203 (krX3_1 (by decide +kernel : kdX 196 = 3)) (32 + r17) τ18) (fun r19 τ20 => ?_)
            refine sm_seg C [(.aload_n 0, 0)] (pc' := 95) (L' := [(3, .int r9), (0, .ref 196), (1, .int a1), (2, .int a2)]) (S' := [.ref 196]) (by decide +kernel) rfl ?_
            refine sm_getR 3 1 203 cls3 C (ltX (by decide +kernel : kdX 196 = 3) (by decide)) (by decide +kernel : kdX 196 = 3) (obX3 (by decide +kernel : kdX 196 = 3)) (by decide) (frX3_1 (by decide +kernel : kdX 196 = 3)) fl3_21 (by decide +kernel) ?_
            refine sm_seg C [(.bipush 13, 13)] (pc' := 100) (L' := [(3, .int r9), (0, .ref 196), (1, .int a1), (2, .int a2)]) (S' := [.int 13, .ref 203]) (by decide +kernel) rfl ?_
            refine sm_vcalv [.int 13] [] rfl C mw_X2_emit ml_3_91 rfl (ci := 2) rfl (ltX (krX3_1 (by decide +kernel : kdX 196 = 3)) (by decide)) (krX3_1 (by decide +kernel : kdX 196 = 3)) (by decide) ⟨by decide, by decide⟩ (Nat.le_of_ble_eq_true rfl) (by decide +kernel) (c_X2_emit F 203 (krX3_1 (by decide +kernel : kdX 196 = 3)) 13 τ20) (fun r21 τ22 => ?_)
            refine sm_seg C [(.goto 34, 0)] (pc' := 137) (L' := [(3, .int r9), (0, .ref 196), (1, .int a1), (2, .int a2)]) (S' := []) (by decide +kernel) rfl ?_
            exact sm_sub [1, 2, 3] rfl (s_X3_readSum_j137 F C hr (X3_readSum_L8 F n) ih a1 a2 τ22)
          · refine sm_seg C [(.iload_n 1, 0), (.iconst (-1), (-1))] (pc' := 108) (L' := [(3, .int r9), (0, .ref 196), (1, .int a1), (2, .int a2)]) (S' := [.int (-1), .int a1]) (by decide +kernel) rfl ?_
            refine sm_icmpeq 119 (off := 11) C (by decide +kernel) (by decide) (fun _ => ?_) (fun _ => ?_)
            · exact sm_sub [1, 3, 0] rfl (s_X3_readSum_j119 F C hr (X3_readSum_L8 F n) ih a2 r9 τ12)
            · refine sm_seg C [(.aload_n 0, 0)] (pc' := 112) (L' := [(3, .int r9), (0, .ref 196), (1, .int a1), (2, .int a2)]) (S' := [.ref 196]) (by decide +kernel) rfl ?_
              refine sm_getR 3 1 203 cls3 C (ltX (by decide +kernel : kdX 196 = 3) (by decide)) (by decide +kernel : kdX 196 = 3) (obX3 (by decide +kernel : kdX 196 = 3)) (by decide) (frX3_1 (by decide +kernel : kdX 196 = 3)) fl3_21 (by decide +kernel) ?_
              refine sm_seg C [(.iload_n 1, 0)] (pc' := 116) (L' := [(3, .int r9), (0, .ref 196), (1, .int a1), (2, .int a2)]) (S' := [.int a1, .ref 203]) (by decide +kernel) rfl ?_
              refine sm_vcalv [.int a1] [] rfl C mw_X2_emit ml_3_91 rfl (ci := 2) rfl (ltX (krX3_1 (by decide +kernel : kdX 196 = 3)) (by decide)) (krX3_1 (by decide +kernel : kdX 196 = 3)) (by decide) ⟨by decide, by decide⟩ (Nat.le_of_ble_eq_true rfl) (by decide +kernel) (c_X2_emit F 203 (krX3_1 (by decide +kernel : kdX 196 = 3)) a1 τ12) (fun r25 τ26 => ?_)
              exact sm_sub [1, 3, 0] rfl (s_X3_readSum_j119 F C hr (X3_readSum_L8 F n) ih a2 r9 τ26)
def X3_readSum (F : Nat) (τ : Tau) : Option (Int32 × Tau) :=
  cal (X3_readUnit F τ) fun r1 τ2 => X3_readSum_L8 F F (-1) 0 τ2
set_option maxRecDepth 20000 in
set_option maxHeartbeats 4000000 in
theorem c_X3_readSum (F : Nat) (τ : Tau) (r : Int32) (τ' : Tau) (h : X3_readSum F τ = some (r, τ')) : MCv sysX yX3_readSum cX3_readSum 4 5 [.ref 196] τ τ' :=
  mcv_of (by decide +kernel) (Nat.le_of_ble_eq_true rfl) (fun K C hr => by
    show Sm K sysX 4 (Qv K sysX) (X3_readSum F τ) 0 [(0, .ref 196)] [] τ
    unfold X3_readSum
    refine sm_seg C [(.iconst (-1), (-1)), (.istore_n 1, 0), (.aload_n 0, 0)] (pc' := 3) (L' := [(1, .int (-1)), (0, .ref 196)]) (S' := [.ref 196]) (by decide +kernel) rfl ?_
    refine sm_vcalv [] [] rfl C mw_X3_readUnit ml_3_101 rfl (ci := 3) rfl (ltX (by decide +kernel : kdX 196 = 3) (by decide)) (by decide +kernel : kdX 196 = 3) (by decide) ⟨by decide, by decide⟩ (Nat.le_of_ble_eq_true rfl) (by decide +kernel) (c_X3_readUnit F τ) (fun r1 τ2 => ?_)
    refine sm_seg C [(.iconst 0, 0), (.istore_n 2, 0)] (pc' := 8) (L' := [(2, .int 0), (1, .int (-1)), (0, .ref 196)]) (S' := []) (by decide +kernel) rfl ?_
    exact sm_sub [2, 1, 0] rfl (s_X3_readSum_L8 F C hr F (-1) 0 τ2)) h
/-! BasketEnvoys_Tokens.isWord -/
def X6_isWord (F : Nat) (a1 : Int32) (τ : Tau) : Option (Int32 × Tau) :=
  if (τ 197 1) = 0 then (if (τ 197 5) = 1 then (if (τ 197 6) = a1 then (some (1, τ)) else (some (0, τ))) else (some (0, τ))) else (some (0, τ))
set_option maxRecDepth 20000 in
set_option maxHeartbeats 4000000 in
theorem c_X6_isWord (F : Nat) (a1 : Int32) (τ : Tau) (r : Int32) (τ' : Tau) (h : X6_isWord F a1 τ = some (r, τ')) : MCi sysX yX6_isWord cX6_isWord 2 (some .boolean) 1 [.ref 197, .int a1] τ r τ' :=
  mci_of (by decide +kernel) (Nat.le_of_ble_eq_true rfl) (fun K C hr => by
    show Sm K sysX 2 (Qi K sysX) (X6_isWord F a1 τ) 0 [(0, .ref 197), (1, .int a1)] [] τ
    unfold X6_isWord
    refine sm_seg C [(.aload_n 0, 0)] (pc' := 1) (L' := [(0, .ref 197), (1, .int a1)]) (S' := [.ref 197]) (by decide +kernel) rfl ?_
    refine sm_getI 6 1 cls6 C (ltX (by decide +kernel : kdX 197 = 6) (by decide)) (by decide +kernel : kdX 197 = 6) (obX6 (by decide +kernel : kdX 197 = 6)) (by decide) (fiX6_1 (by decide +kernel : kdX 197 = 6)) fl6_15 (by decide +kernel) ?_
    refine sm_ifne 27 (off := 23) C (by decide +kernel) (by decide) (fun _ => ?_) (fun _ => ?_)
    · refine sm_seg C [(.aload_n 0, 0)] (pc' := 8) (L' := [(0, .ref 197), (1, .int a1)]) (S' := [.ref 197]) (by decide +kernel) rfl ?_
      refine sm_getI 6 5 cls6 C (ltX (by decide +kernel : kdX 197 = 6) (by decide)) (by decide +kernel : kdX 197 = 6) (obX6 (by decide +kernel : kdX 197 = 6)) (by decide) (fiX6_5 (by decide +kernel : kdX 197 = 6)) fl6_27 (by decide +kernel) ?_
      refine sm_seg C [(.iconst 1, 1)] (pc' := 12) (L' := [(0, .ref 197), (1, .int a1)]) (S' := [.int 1, .int (τ 197 5)]) (by decide +kernel) rfl ?_
      refine sm_icmpne 27 (off := 15) C (by decide +kernel) (by decide) (fun _ => ?_) (fun _ => ?_)
      · refine sm_seg C [(.aload_n 0, 0)] (pc' := 16) (L' := [(0, .ref 197), (1, .int a1)]) (S' := [.ref 197]) (by decide +kernel) rfl ?_
        refine sm_getI 6 6 cls6 C (ltX (by decide +kernel : kdX 197 = 6) (by decide)) (by decide +kernel : kdX 197 = 6) (obX6 (by decide +kernel : kdX 197 = 6)) (by decide) (fiX6_6 (by decide +kernel : kdX 197 = 6)) fl6_30 (by decide +kernel) ?_
        refine sm_seg C [(.iload_n 1, 0)] (pc' := 20) (L' := [(0, .ref 197), (1, .int a1)]) (S' := [.int a1, .int (τ 197 6)]) (by decide +kernel) rfl ?_
        refine sm_icmpne 27 (off := 7) C (by decide +kernel) (by decide) (fun _ => ?_) (fun _ => ?_)
        · refine sm_seg C [(.iconst 1, 1), (.goto 4, 0)] (pc' := 28) (L' := [(0, .ref 197), (1, .int a1)]) (S' := [.int 1]) (by decide +kernel) rfl ?_
          exact sm_iret C hr rfl (by decide +kernel)
        · refine sm_seg C [(.iconst 0, 0)] (pc' := 28) (L' := [(0, .ref 197), (1, .int a1)]) (S' := [.int 0]) (by decide +kernel) rfl ?_
          exact sm_iret C hr rfl (by decide +kernel)
      · refine sm_seg C [(.iconst 0, 0)] (pc' := 28) (L' := [(0, .ref 197), (1, .int a1)]) (S' := [.int 0]) (by decide +kernel) rfl ?_
        exact sm_iret C hr rfl (by decide +kernel)
    · refine sm_seg C [(.iconst 0, 0)] (pc' := 28) (L' := [(0, .ref 197), (1, .int a1)]) (S' := [.int 0]) (by decide +kernel) rfl ?_
      exact sm_iret C hr rfl (by decide +kernel)) h
/-! BasketEnvoys_Tokens.takeSign -/
def X6_takeSign (F : Nat) (a1 : Int32) (τ : Tau) : Option (Int32 × Tau) :=
  cal (X6_signHere F τ) fun r1 τ2 => if r1 = a1 then (cal (X6_skip F τ2) fun r3 τ4 => some (0, τ4)) else (cal (X6_refuse F 1 τ2) fun r5 τ6 => some (0, τ6))
set_option maxRecDepth 20000 in
set_option maxHeartbeats 4000000 in
theorem c_X6_takeSign (F : Nat) (a1 : Int32) (τ : Tau) (r : Int32) (τ' : Tau) (h : X6_takeSign F a1 τ = some (r, τ')) : MCv sysX yX6_takeSign cX6_takeSign 2 2 [.ref 197, .int a1] τ τ' :=
  mcv_of (by decide +kernel) (Nat.le_of_ble_eq_true rfl) (fun K C hr => by
    show Sm K sysX 2 (Qv K sysX) (X6_takeSign F a1 τ) 0 [(0, .ref 197), (1, .int a1)] [] τ
    unfold X6_takeSign
    refine sm_seg C [(.aload_n 0, 0)] (pc' := 1) (L' := [(0, .ref 197), (1, .int a1)]) (S' := [.ref 197]) (by decide +kernel) rfl ?_
    refine sm_vcal [] [] rfl C mw_X6_signHere ml_6_114 rfl (ci := 6) rfl (ltX (by decide +kernel : kdX 197 = 6) (by decide)) (by decide +kernel : kdX 197 = 6) (by decide) ⟨by decide, by decide⟩ (Nat.le_of_ble_eq_true rfl) (by decide +kernel) (c_X6_signHere F τ) (fun r1 τ2 => ?_)
    refine sm_seg C [(.iload_n 1, 0)] (pc' := 5) (L' := [(0, .ref 197), (1, .int a1)]) (S' := [.int a1, .int r1]) (by decide +kernel) rfl ?_
    refine sm_icmpne 15 (off := 10) C (by decide +kernel) (by decide) (fun _ => ?_) (fun _ => ?_)
    · refine sm_seg C [(.aload_n 0, 0)] (pc' := 9) (L' := [(0, .ref 197), (1, .int a1)]) (S' := [.ref 197]) (by decide +kernel) rfl ?_
      refine sm_vcalv [] [] rfl C mw_X6_skip ml_6_68 rfl (ci := 6) rfl (ltX (by decide +kernel : kdX 197 = 6) (by decide)) (by decide +kernel : kdX 197 = 6) (by decide) ⟨by decide, by decide⟩ (Nat.le_of_ble_eq_true rfl) (by decide +kernel) (c_X6_skip F τ2) (fun r3 τ4 => ?_)
      refine sm_seg C [(.goto 8, 0)] (pc' := 20) (L' := [(0, .ref 197), (1, .int a1)]) (S' := []) (by decide +kernel) rfl ?_
      exact sm_vret C hr (by decide +kernel)
    · refine sm_seg C [(.aload_n 0, 0), (.iconst 1, 1)] (pc' := 17) (L' := [(0, .ref 197), (1, .int a1)]) (S' := [.int 1, .ref 197]) (by decide +kernel) rfl ?_
      refine sm_vcalv [.int 1] [] rfl C mw_X6_refuse ml_6_110 rfl (ci := 6) rfl (ltX (by decide +kernel : kdX 197 = 6) (by decide)) (by decide +kernel : kdX 197 = 6) (by decide) ⟨by decide, by decide⟩ (Nat.le_of_ble_eq_true rfl) (by decide +kernel) (c_X6_refuse F 1 τ2) (fun r5 τ6 => ?_)
      exact sm_vret C hr (by decide +kernel)) h
/-! BasketEnvoys_Reader.comparisonHere -/
def X3_comparisonHere (F : Nat) (τ : Tau) : Option (Int32 × Tau) :=
  cal (X6_signHere F τ) fun r1 τ2 => if r1 = 60 then (some (14, τ2)) else (if r1 = 62 then (some (16, τ2)) else (if r1 = 61 then (some (15, τ2)) else (cal (X6_refuse F 1 τ2) fun r3 τ4 => some (15, τ4))))
set_option maxRecDepth 20000 in
set_option maxHeartbeats 4000000 in
theorem c_X3_comparisonHere (F : Nat) (τ : Tau) (r : Int32) (τ' : Tau) (h : X3_comparisonHere F τ = some (r, τ')) : MCi sysX yX3_comparisonHere cX3_comparisonHere 2 (some .int) 2 [.ref 196] τ r τ' :=
  mci_of (by decide +kernel) (Nat.le_of_ble_eq_true rfl) (fun K C hr => by
    show Sm K sysX 2 (Qi K sysX) (X3_comparisonHere F τ) 0 [(0, .ref 196)] [] τ
    unfold X3_comparisonHere
    refine sm_seg C [(.aload_n 0, 0)] (pc' := 1) (L' := [(0, .ref 196)]) (S' := [.ref 196]) (by decide +kernel) rfl ?_
    refine sm_getR 3 0 197 cls3 C (ltX (by decide +kernel : kdX 196 = 3) (by decide)) (by decide +kernel : kdX 196 = 3) (obX3 (by decide +kernel : kdX 196 = 3)) (by decide) (frX3_0 (by decide +kernel : kdX 196 = 3)) fl3_12 (by decide +kernel) ?_
    refine sm_vcal [] [] rfl C mw_X6_signHere ml_3_94 rfl (ci := 6) rfl (ltX (krX3_0 (by decide +kernel : kdX 196 = 3)) (by decide)) (krX3_0 (by decide +kernel : kdX 196 = 3)) (by decide) ⟨by decide, by decide⟩ (Nat.le_of_ble_eq_true rfl) (by decide +kernel) (c_X6_signHere F τ) (fun r1 τ2 => ?_)
    refine sm_seg C [(.istore_n 1, 0), (.iload_n 1, 0), (.bipush 60, 60)] (pc' := 11) (L' := [(1, .int r1), (0, .ref 196)]) (S' := [.int 60, .int r1]) (by decide +kernel) rfl ?_
    refine sm_icmpne 17 (off := 6) C (by decide +kernel) (by decide) (fun _ => ?_) (fun _ => ?_)
    · refine sm_seg C [(.bipush 14, 14)] (pc' := 16) (L' := [(1, .int r1), (0, .ref 196)]) (S' := [.int 14]) (by decide +kernel) rfl ?_
      exact sm_iret C hr rfl (by decide +kernel)
    · refine sm_seg C [(.iload_n 1, 0), (.bipush 62, 62)] (pc' := 20) (L' := [(1, .int r1), (0, .ref 196)]) (S' := [.int 62, .int r1]) (by decide +kernel) rfl ?_
      refine sm_icmpne 26 (off := 6) C (by decide +kernel) (by decide) (fun _ => ?_) (fun _ => ?_)
      · refine sm_seg C [(.bipush 16, 16)] (pc' := 25) (L' := [(1, .int r1), (0, .ref 196)]) (S' := [.int 16]) (by decide +kernel) rfl ?_
        exact sm_iret C hr rfl (by decide +kernel)
      · refine sm_seg C [(.iload_n 1, 0), (.bipush 61, 61)] (pc' := 29) (L' := [(1, .int r1), (0, .ref 196)]) (S' := [.int 61, .int r1]) (by decide +kernel) rfl ?_
        refine sm_icmpeq 40 (off := 11) C (by decide +kernel) (by decide) (fun _ => ?_) (fun _ => ?_)
        · refine sm_seg C [(.bipush 15, 15)] (pc' := 42) (L' := [(1, .int r1), (0, .ref 196)]) (S' := [.int 15]) (by decide +kernel) rfl ?_
          exact sm_iret C hr rfl (by decide +kernel)
        · refine sm_seg C [(.aload_n 0, 0)] (pc' := 33) (L' := [(1, .int r1), (0, .ref 196)]) (S' := [.ref 196]) (by decide +kernel) rfl ?_
          refine sm_getR 3 0 197 cls3 C (ltX (by decide +kernel : kdX 196 = 3) (by decide)) (by decide +kernel : kdX 196 = 3) (obX3 (by decide +kernel : kdX 196 = 3)) (by decide) (frX3_0 (by decide +kernel : kdX 196 = 3)) fl3_12 (by decide +kernel) ?_
          refine sm_seg C [(.iconst 1, 1)] (pc' := 37) (L' := [(1, .int r1), (0, .ref 196)]) (S' := [.int 1, .ref 197]) (by decide +kernel) rfl ?_
          refine sm_vcalv [.int 1] [] rfl C mw_X6_refuse ml_3_61 rfl (ci := 6) rfl (ltX (krX3_0 (by decide +kernel : kdX 196 = 3)) (by decide)) (krX3_0 (by decide +kernel : kdX 196 = 3)) (by decide) ⟨by decide, by decide⟩ (Nat.le_of_ble_eq_true rfl) (by decide +kernel) (c_X6_refuse F 1 τ2) (fun r3 τ4 => ?_)
          refine sm_seg C [(.bipush 15, 15)] (pc' := 42) (L' := [(1, .int r1), (0, .ref 196)]) (S' := [.int 15]) (by decide +kernel) rfl ?_
          exact sm_iret C hr rfl (by decide +kernel)) h
/-! BasketEnvoys_Reader.readCondition -/
def X3_readCondition_L156 (F : Nat) (rc : Int32 → Tau → Option (Int32 × Tau)) : Nat → Int32 → Int32 → Tau → Option (Int32 × Tau)
  | 0, _, _, _ => none
  | n + 1, a2, a4, τ =>
    if a2 ≤ a4 then (some (0, τ)) else (cal (X2_emit F 203 19 τ) fun r15 τ16 => X3_readCondition_L156 F rc n a2 (a4 + 1) τ16)
theorem s_X3_readCondition_L156 (F : Nat) (rc : Int32 → Tau → Option (Int32 × Tau)) (db : Nat) (hb : 5 ≤ db) (hrc : ∀ (a1 : Int32) (τ : Tau) (r : Int32) (τ' : Tau), rc a1 τ = some (r, τ') → MCv sysX yX3_readAny cX3_readAny 5 db [.ref 196, .int a1] τ τ') {K : Ctx} (C : Cx K sysX RX3 cX3_readCondition 5 (db + 1)) (hr : Rt K none) : ∀ (n : Nat) (a2 : Int32) (a4 : Int32) (τ : Tau), Sm K sysX 5 (Qv K sysX) (X3_readCondition_L156 F rc n a2 a4 τ) 156 [(0, .ref 196), (2, .int a2), (4, .int a4)] [] τ := by
  intro n
  induction n with
  | zero => intro a2 a4 τ; exact sm_none
  | succ n ih =>
    intro a2 a4 τ
    rw [X3_readCondition_L156]
    refine sm_seg C [(.iload 4, 0), (.iload_n 2, 0)] (pc' := 159) (L' := [(0, .ref 196), (2, .int a2), (4, .int a4)]) (S' := [.int a2, .int a4]) (by decide +kernel) rfl ?_
    refine sm_icmpge 177 (off := 18) C (by decide +kernel) (by decide) (fun _ => ?_) (fun _ => ?_)
    · exact sm_vret C hr (by decide +kernel)
    · refine sm_seg C [(.aload_n 0, 0)] (pc' := 163) (L' := [(0, .ref 196), (2, .int a2), (4, .int a4)]) (S' := [.ref 196]) (by decide +kernel) rfl ?_
      refine sm_getR 3 1 203 cls3 C (ltX (by decide +kernel : kdX 196 = 3) (by decide)) (by decide +kernel : kdX 196 = 3) (obX3 (by decide +kernel : kdX 196 = 3)) (by decide) (frX3_1 (by decide +kernel : kdX 196 = 3)) fl3_21 (by decide +kernel) ?_
      refine sm_seg C [(.bipush 19, 19)] (pc' := 168) (L' := [(0, .ref 196), (2, .int a2), (4, .int a4)]) (S' := [.int 19, .ref 203]) (by decide +kernel) rfl ?_
      refine sm_vcalv [.int 19] [] rfl C mw_X2_emit ml_3_91 rfl (ci := 2) rfl (ltX (krX3_1 (by decide +kernel : kdX 196 = 3)) (by decide)) (krX3_1 (by decide +kernel : kdX 196 = 3)) (by decide) ⟨by omega, by omega⟩ (Nat.le_of_ble_eq_true rfl) (by decide +kernel) (c_X2_emit F 203 (krX3_1 (by decide +kernel : kdX 196 = 3)) 19 τ) (fun r15 τ16 => ?_)
      refine sm_seg C [(.iinc 4 1, 1), (.goto (-18), 0)] (pc' := 156) (L' := [(4, .int (a4 + 1)), (0, .ref 196), (2, .int a2)]) (S' := []) (by decide +kernel) rfl ?_
      exact sm_sub [1, 2, 0] rfl (ih a2 (a4 + 1) τ16)
def X3_readCondition_j153 (F : Nat) (rc : Int32 → Tau → Option (Int32 × Tau)) (a2 : Int32) (τ : Tau) : Option (Int32 × Tau) :=
  X3_readCondition_L156 F rc F a2 0 τ
theorem s_X3_readCondition_j153 (F : Nat) (rc : Int32 → Tau → Option (Int32 × Tau)) (db : Nat) (hb : 5 ≤ db) (hrc : ∀ (a1 : Int32) (τ : Tau) (r : Int32) (τ' : Tau), rc a1 τ = some (r, τ') → MCv sysX yX3_readAny cX3_readAny 5 db [.ref 196, .int a1] τ τ') {K : Ctx} (C : Cx K sysX RX3 cX3_readCondition 5 (db + 1)) (hr : Rt K none) (a2 : Int32) (τ : Tau) : Sm K sysX 5 (Qv K sysX) (X3_readCondition_j153 F rc a2 τ) 153 [(0, .ref 196), (2, .int a2)] [] τ := by
  unfold X3_readCondition_j153
  refine sm_seg C [(.iconst 0, 0), (.istore 4, 0)] (pc' := 156) (L' := [(4, .int 0), (0, .ref 196), (2, .int a2)]) (S' := []) (by decide +kernel) rfl ?_
  exact sm_sub [1, 2, 0] rfl (s_X3_readCondition_L156 F rc db hb hrc C hr F a2 0 τ)
def X3_readCondition_j91 (F : Nat) (rc : Int32 → Tau → Option (Int32 × Tau)) (a1 : Int32) (a2 : Int32) (a3 : Int32) (τ : Tau) : Option (Int32 × Tau) :=
  if a3 = 0 then (cal (X3_readSum F τ) fun r5 τ6 => cal (X3_comparisonHere F τ6) fun r7 τ8 => cal (X6_skip F τ8) fun r9 τ10 => cal (X3_readSum F τ10) fun r11 τ12 => cal (X2_emit F 203 r7 τ12) fun r13 τ14 => X3_readCondition_j153 F rc a2 τ14) else (cal (X6_skip F τ) fun r17 τ18 => cal (rc ((a1 + a2) + 1) τ18) fun r19 τ20 => cal (X6_takeSign F 41 τ20) fun r21 τ22 => X3_readCondition_j153 F rc a2 τ22)
theorem s_X3_readCondition_j91 (F : Nat) (rc : Int32 → Tau → Option (Int32 × Tau)) (db : Nat) (hb : 5 ≤ db) (hrc : ∀ (a1 : Int32) (τ : Tau) (r : Int32) (τ' : Tau), rc a1 τ = some (r, τ') → MCv sysX yX3_readAny cX3_readAny 5 db [.ref 196, .int a1] τ τ') {K : Ctx} (C : Cx K sysX RX3 cX3_readCondition 5 (db + 1)) (hr : Rt K none) (a1 : Int32) (a2 : Int32) (a3 : Int32) (τ : Tau) : Sm K sysX 5 (Qv K sysX) (X3_readCondition_j91 F rc a1 a2 a3 τ) 91 [(0, .ref 196), (1, .int a1), (2, .int a2), (3, .int a3)] [] τ := by
  unfold X3_readCondition_j91
  refine sm_seg C [(.iload_n 3, 0)] (pc' := 92) (L' := [(0, .ref 196), (1, .int a1), (2, .int a2), (3, .int a3)]) (S' := [.int a3]) (by decide +kernel) rfl ?_
  refine sm_ifeq 123 (off := 31) C (by decide +kernel) (by decide) (fun _ => ?_) (fun _ => ?_)
  · refine sm_seg C [(.aload_n 0, 0)] (pc' := 124) (L' := [(0, .ref 196), (1, .int a1), (2, .int a2), (3, .int a3)]) (S' := [.ref 196]) (by decide +kernel) rfl ?_
    refine sm_vcalv [] [] rfl C mw_X3_readSum ml_3_70 rfl (ci := 3) rfl (ltX (by decide +kernel : kdX 196 = 3) (by decide)) (by decide +kernel : kdX 196 = 3) (by decide) ⟨by omega, by omega⟩ (Nat.le_of_ble_eq_true rfl) (by decide +kernel) (c_X3_readSum F τ) (fun r5 τ6 => ?_)
    refine sm_seg C [(.aload_n 0, 0)] (pc' := 128) (L' := [(0, .ref 196), (1, .int a1), (2, .int a2), (3, .int a3)]) (S' := [.ref 196]) (by decide +kernel) rfl ?_
    refine sm_vcal [] [] rfl C mw_X3_comparisonHere ml_3_98 rfl (ci := 3) rfl (ltX (by decide +kernel : kdX 196 = 3) (by decide)) (by decide +kernel : kdX 196 = 3) (by decide) ⟨by omega, by omega⟩ (Nat.le_of_ble_eq_true rfl) (by decide +kernel) (c_X3_comparisonHere F τ6) (fun r7 τ8 => ?_)
    refine sm_seg C [(.istore 4, 0), (.aload_n 0, 0)] (pc' := 134) (L' := [(4, .int r7), (0, .ref 196), (1, .int a1), (2, .int a2), (3, .int a3)]) (S' := [.ref 196]) (by decide +kernel) rfl ?_
    refine sm_getR 3 0 197 cls3 C (ltX (by decide +kernel : kdX 196 = 3) (by decide)) (by decide +kernel : kdX 196 = 3) (obX3 (by decide +kernel : kdX 196 = 3)) (by decide) (frX3_0 (by decide +kernel : kdX 196 = 3)) fl3_12 (by decide +kernel) ?_
    refine sm_vcalv [] [] rfl C mw_X6_skip ml_3_64 rfl (ci := 6) rfl (ltX (krX3_0 (by decide +kernel : kdX 196 = 3)) (by decide)) (krX3_0 (by decide +kernel : kdX 196 = 3)) (by decide) ⟨by omega, by omega⟩ (Nat.le_of_ble_eq_true rfl) (by decide +kernel) (c_X6_skip F τ8) (fun r9 τ10 => ?_)
    refine sm_seg C [(.aload_n 0, 0)] (pc' := 141) (L' := [(4, .int r7), (0, .ref 196), (1, .int a1), (2, .int a2), (3, .int a3)]) (S' := [.ref 196]) (by decide +kernel) rfl ?_
    refine sm_vcalv [] [] rfl C mw_X3_readSum ml_3_70 rfl (ci := 3) rfl (ltX (by decide +kernel : kdX 196 = 3) (by decide)) (by decide +kernel : kdX 196 = 3) (by decide) ⟨by omega, by omega⟩ (Nat.le_of_ble_eq_true rfl) (by decide +kernel) (c_X3_readSum F τ10) (fun r11 τ12 => ?_)
    refine sm_seg C [(.aload_n 0, 0)] (pc' := 145) (L' := [(4, .int r7), (0, .ref 196), (1, .int a1), (2, .int a2), (3, .int a3)]) (S' := [.ref 196]) (by decide +kernel) rfl ?_
    refine sm_getR 3 1 203 cls3 C (ltX (by decide +kernel : kdX 196 = 3) (by decide)) (by decide +kernel : kdX 196 = 3) (obX3 (by decide +kernel : kdX 196 = 3)) (by decide) (frX3_1 (by decide +kernel : kdX 196 = 3)) fl3_21 (by decide +kernel) ?_
    refine sm_seg C [(.iload 4, 0)] (pc' := 150) (L' := [(4, .int r7), (0, .ref 196), (1, .int a1), (2, .int a2), (3, .int a3)]) (S' := [.int r7, .ref 203]) (by decide +kernel) rfl ?_
    refine sm_vcalv [.int r7] [] rfl C mw_X2_emit ml_3_91 rfl (ci := 2) rfl (ltX (krX3_1 (by decide +kernel : kdX 196 = 3)) (by decide)) (krX3_1 (by decide +kernel : kdX 196 = 3)) (by decide) ⟨by omega, by omega⟩ (Nat.le_of_ble_eq_true rfl) (by decide +kernel) (c_X2_emit F 203 (krX3_1 (by decide +kernel : kdX 196 = 3)) r7 τ12) (fun r13 τ14 => ?_)
    exact sm_sub [1, 3] rfl (s_X3_readCondition_j153 F rc db hb hrc C hr a2 τ14)
  · refine sm_seg C [(.aload_n 0, 0)] (pc' := 96) (L' := [(0, .ref 196), (1, .int a1), (2, .int a2), (3, .int a3)]) (S' := [.ref 196]) (by decide +kernel) rfl ?_
    refine sm_getR 3 0 197 cls3 C (ltX (by decide +kernel : kdX 196 = 3) (by decide)) (by decide +kernel : kdX 196 = 3) (obX3 (by decide +kernel : kdX 196 = 3)) (by decide) (frX3_0 (by decide +kernel : kdX 196 = 3)) fl3_12 (by decide +kernel) ?_
    refine sm_vcalv [] [] rfl C mw_X6_skip ml_3_64 rfl (ci := 6) rfl (ltX (krX3_0 (by decide +kernel : kdX 196 = 3)) (by decide)) (krX3_0 (by decide +kernel : kdX 196 = 3)) (by decide) ⟨by omega, by omega⟩ (Nat.le_of_ble_eq_true rfl) (by decide +kernel) (c_X6_skip F τ) (fun r17 τ18 => ?_)
    refine sm_seg C [(.aload_n 0, 0), (.iload_n 1, 0), (.iload_n 2, 0), (.iadd, 0), (.iconst 1, 1), (.iadd, 0)] (pc' := 108) (L' := [(0, .ref 196), (1, .int a1), (2, .int a2), (3, .int a3)]) (S' := [.int ((a1 + a2) + 1), .ref 196]) (by decide +kernel) rfl ?_
    refine sm_vcalv [.int ((a1 + a2) + 1)] [] rfl C mw_X3_readAny ml_3_77 rfl (ci := 3) rfl (ltX (by decide +kernel : kdX 196 = 3) (by decide)) (by decide +kernel : kdX 196 = 3) (by decide) ⟨by omega, by omega⟩ (Nat.le_of_ble_eq_true rfl) (by decide +kernel) (hrc ((a1 + a2) + 1) τ18) (fun r19 τ20 => ?_)
    refine sm_seg C [(.aload_n 0, 0)] (pc' := 112) (L' := [(0, .ref 196), (1, .int a1), (2, .int a2), (3, .int a3)]) (S' := [.ref 196]) (by decide +kernel) rfl ?_
    refine sm_getR 3 0 197 cls3 C (ltX (by decide +kernel : kdX 196 = 3) (by decide)) (by decide +kernel : kdX 196 = 3) (obX3 (by decide +kernel : kdX 196 = 3)) (by decide) (frX3_0 (by decide +kernel : kdX 196 = 3)) fl3_12 (by decide +kernel) ?_
    refine sm_seg C [(.bipush 41, 41)] (pc' := 117) (L' := [(0, .ref 196), (1, .int a1), (2, .int a2), (3, .int a3)]) (S' := [.int 41, .ref 197]) (by decide +kernel) rfl ?_
    refine sm_vcalv [.int 41] [] rfl C mw_X6_takeSign ml_3_80 rfl (ci := 6) rfl (ltX (krX3_0 (by decide +kernel : kdX 196 = 3)) (by decide)) (krX3_0 (by decide +kernel : kdX 196 = 3)) (by decide) ⟨by omega, by omega⟩ (Nat.le_of_ble_eq_true rfl) (by decide +kernel) (c_X6_takeSign F 41 τ20) (fun r21 τ22 => ?_)
    refine sm_seg C [(.goto 33, 0)] (pc' := 153) (L' := [(0, .ref 196), (1, .int a1), (2, .int a2), (3, .int a3)]) (S' := []) (by decide +kernel) rfl ?_
    exact sm_sub [0, 2] rfl (s_X3_readCondition_j153 F rc db hb hrc C hr a2 τ22)
def X3_readCondition_j80 (F : Nat) (rc : Int32 → Tau → Option (Int32 × Tau)) (a2 : Int32) (τ : Tau) : Option (Int32 × Tau) :=
  cal (X6_refuse F 3 τ) fun r23 τ24 => X3_readCondition_j153 F rc a2 τ24
theorem s_X3_readCondition_j80 (F : Nat) (rc : Int32 → Tau → Option (Int32 × Tau)) (db : Nat) (hb : 5 ≤ db) (hrc : ∀ (a1 : Int32) (τ : Tau) (r : Int32) (τ' : Tau), rc a1 τ = some (r, τ') → MCv sysX yX3_readAny cX3_readAny 5 db [.ref 196, .int a1] τ τ') {K : Ctx} (C : Cx K sysX RX3 cX3_readCondition 5 (db + 1)) (hr : Rt K none) (a2 : Int32) (τ : Tau) : Sm K sysX 5 (Qv K sysX) (X3_readCondition_j80 F rc a2 τ) 80 [(0, .ref 196), (2, .int a2)] [] τ := by
  unfold X3_readCondition_j80
  refine sm_seg C [(.aload_n 0, 0)] (pc' := 81) (L' := [(0, .ref 196), (2, .int a2)]) (S' := [.ref 196]) (by decide +kernel) rfl ?_
  refine sm_getR 3 0 197 cls3 C (ltX (by decide +kernel : kdX 196 = 3) (by decide)) (by decide +kernel : kdX 196 = 3) (obX3 (by decide +kernel : kdX 196 = 3)) (by decide) (frX3_0 (by decide +kernel : kdX 196 = 3)) fl3_12 (by decide +kernel) ?_
  refine sm_seg C [(.iconst 3, 3)] (pc' := 85) (L' := [(0, .ref 196), (2, .int a2)]) (S' := [.int 3, .ref 197]) (by decide +kernel) rfl ?_
  refine sm_vcalv [.int 3] [] rfl C mw_X6_refuse ml_3_61 rfl (ci := 6) rfl (ltX (krX3_0 (by decide +kernel : kdX 196 = 3)) (by decide)) (krX3_0 (by decide +kernel : kdX 196 = 3)) (by decide) ⟨by omega, by omega⟩ (Nat.le_of_ble_eq_true rfl) (by decide +kernel) (c_X6_refuse F 3 τ) (fun r23 τ24 => ?_)
  refine sm_seg C [(.goto 65, 0)] (pc' := 153) (L' := [(0, .ref 196), (2, .int a2)]) (S' := []) (by decide +kernel) rfl ?_
  exact sm_sub [0, 1] rfl (s_X3_readCondition_j153 F rc db hb hrc C hr a2 τ24)
def X3_readCondition_j55 (F : Nat) (rc : Int32 → Tau → Option (Int32 × Tau)) (a1 : Int32) (a2 : Int32) (z0 : Int32) (τ : Tau) : Option (Int32 × Tau) :=
  cal (X6_isWord F 6 τ) fun r3 τ4 => if r3 = 0 then (if z0 = 0 then (X3_readCondition_j91 F rc a1 a2 z0 τ4) else (if (a1 + a2) < 8 then (X3_readCondition_j91 F rc a1 a2 z0 τ4) else (X3_readCondition_j80 F rc a2 τ4))) else (X3_readCondition_j80 F rc a2 τ4)
theorem s_X3_readCondition_j55 (F : Nat) (rc : Int32 → Tau → Option (Int32 × Tau)) (db : Nat) (hb : 5 ≤ db) (hrc : ∀ (a1 : Int32) (τ : Tau) (r : Int32) (τ' : Tau), rc a1 τ = some (r, τ') → MCv sysX yX3_readAny cX3_readAny 5 db [.ref 196, .int a1] τ τ') {K : Ctx} (C : Cx K sysX RX3 cX3_readCondition 5 (db + 1)) (hr : Rt K none) (a1 : Int32) (a2 : Int32) (z0 : Int32) (τ : Tau) : Sm K sysX 5 (Qv K sysX) (X3_readCondition_j55 F rc a1 a2 z0 τ) 55 [(0, .ref 196), (1, .int a1), (2, .int a2)] [.int z0] τ := by
  unfold X3_readCondition_j55
  refine sm_seg C [(.istore_n 3, 0), (.aload_n 0, 0)] (pc' := 57) (L' := [(3, .int z0), (0, .ref 196), (1, .int a1), (2, .int a2)]) (S' := [.ref 196]) (by decide +kernel) rfl ?_
  refine sm_getR 3 0 197 cls3 C (ltX (by decide +kernel : kdX 196 = 3) (by decide)) (by decide +kernel : kdX 196 = 3) (obX3 (by decide +kernel : kdX 196 = 3)) (by decide) (frX3_0 (by decide +kernel : kdX 196 = 3)) fl3_12 (by decide +kernel) ?_
  refine sm_seg C [(.bipush 6, 6)] (pc' := 62) (L' := [(3, .int z0), (0, .ref 196), (1, .int a1), (2, .int a2)]) (S' := [.int 6, .ref 197]) (by decide +kernel) rfl ?_
  refine sm_vcal [.int 6] [] rfl C mw_X6_isWord ml_3_73 rfl (ci := 6) rfl (ltX (krX3_0 (by decide +kernel : kdX 196 = 3)) (by decide)) (krX3_0 (by decide +kernel : kdX 196 = 3)) (by decide) ⟨by omega, by omega⟩ (Nat.le_of_ble_eq_true rfl) (by decide +kernel) (c_X6_isWord F 6 τ) (fun r3 τ4 => ?_)
  refine sm_ifne 80 (off := 15) C (by decide +kernel) (by decide) (fun _ => ?_) (fun _ => ?_)
  · refine sm_seg C [(.iload_n 3, 0)] (pc' := 69) (L' := [(3, .int z0), (0, .ref 196), (1, .int a1), (2, .int a2)]) (S' := [.int z0]) (by decide +kernel) rfl ?_
    refine sm_ifeq 91 (off := 22) C (by decide +kernel) (by decide) (fun _ => ?_) (fun _ => ?_)
    · exact sm_sub [1, 2, 3, 0] rfl (s_X3_readCondition_j91 F rc db hb hrc C hr a1 a2 z0 τ4)
    · refine sm_seg C [(.iload_n 1, 0), (.iload_n 2, 0), (.iadd, 0), (.bipush 8, 8)] (pc' := 77) (L' := [(3, .int z0), (0, .ref 196), (1, .int a1), (2, .int a2)]) (S' := [.int 8, .int (a1 + a2)]) (by decide +kernel) rfl ?_
      refine sm_icmplt 91 (off := 14) C (by decide +kernel) (by decide) (fun _ => ?_) (fun _ => ?_)
      · exact sm_sub [1, 2, 3, 0] rfl (s_X3_readCondition_j91 F rc db hb hrc C hr a1 a2 z0 τ4)
      · exact sm_sub [1, 3] rfl (s_X3_readCondition_j80 F rc db hb hrc C hr a2 τ4)
  · exact sm_sub [1, 3] rfl (s_X3_readCondition_j80 F rc db hb hrc C hr a2 τ4)
def X3_readCondition_j38 (F : Nat) (rc : Int32 → Tau → Option (Int32 × Tau)) (a1 : Int32) (a2 : Int32) (τ : Tau) : Option (Int32 × Tau) :=
  cal (X6_signHere F τ) fun r1 τ2 => if r1 = 40 then (X3_readCondition_j55 F rc a1 a2 1 τ2) else (X3_readCondition_j55 F rc a1 a2 0 τ2)
theorem s_X3_readCondition_j38 (F : Nat) (rc : Int32 → Tau → Option (Int32 × Tau)) (db : Nat) (hb : 5 ≤ db) (hrc : ∀ (a1 : Int32) (τ : Tau) (r : Int32) (τ' : Tau), rc a1 τ = some (r, τ') → MCv sysX yX3_readAny cX3_readAny 5 db [.ref 196, .int a1] τ τ') {K : Ctx} (C : Cx K sysX RX3 cX3_readCondition 5 (db + 1)) (hr : Rt K none) (a1 : Int32) (a2 : Int32) (τ : Tau) : Sm K sysX 5 (Qv K sysX) (X3_readCondition_j38 F rc a1 a2 τ) 38 [(0, .ref 196), (1, .int a1), (2, .int a2)] [] τ := by
  unfold X3_readCondition_j38
  refine sm_seg C [(.aload_n 0, 0)] (pc' := 39) (L' := [(0, .ref 196), (1, .int a1), (2, .int a2)]) (S' := [.ref 196]) (by decide +kernel) rfl ?_
  refine sm_getR 3 0 197 cls3 C (ltX (by decide +kernel : kdX 196 = 3) (by decide)) (by decide +kernel : kdX 196 = 3) (obX3 (by decide +kernel : kdX 196 = 3)) (by decide) (frX3_0 (by decide +kernel : kdX 196 = 3)) fl3_12 (by decide +kernel) ?_
  refine sm_vcal [] [] rfl C mw_X6_signHere ml_3_94 rfl (ci := 6) rfl (ltX (krX3_0 (by decide +kernel : kdX 196 = 3)) (by decide)) (krX3_0 (by decide +kernel : kdX 196 = 3)) (by decide) ⟨by omega, by omega⟩ (Nat.le_of_ble_eq_true rfl) (by decide +kernel) (c_X6_signHere F τ) (fun r1 τ2 => ?_)
  refine sm_seg C [(.bipush 40, 40)] (pc' := 47) (L' := [(0, .ref 196), (1, .int a1), (2, .int a2)]) (S' := [.int 40, .int r1]) (by decide +kernel) rfl ?_
  refine sm_icmpne 54 (off := 7) C (by decide +kernel) (by decide) (fun _ => ?_) (fun _ => ?_)
  · refine sm_seg C [(.iconst 1, 1), (.goto 4, 0)] (pc' := 55) (L' := [(0, .ref 196), (1, .int a1), (2, .int a2)]) (S' := [.int 1]) (by decide +kernel) rfl ?_
    exact sm_sub [0, 1, 2] rfl (s_X3_readCondition_j55 F rc db hb hrc C hr a1 a2 1 τ2)
  · refine sm_seg C [(.iconst 0, 0)] (pc' := 55) (L' := [(0, .ref 196), (1, .int a1), (2, .int a2)]) (S' := [.int 0]) (by decide +kernel) rfl ?_
    exact sm_sub [0, 1, 2] rfl (s_X3_readCondition_j55 F rc db hb hrc C hr a1 a2 0 τ2)
def X3_readCondition_L4 (F : Nat) (rc : Int32 → Tau → Option (Int32 × Tau)) : Nat → Int32 → Int32 → Int32 → Tau → Option (Int32 × Tau)
  | 0, _, _, _, _ => none
  | n + 1, a1, a2, a3, τ =>
    if 8 ≤ a3 then (X3_readCondition_j38 F rc a1 a2 τ) else (cal (X6_isWord F 6 τ) fun r25 τ26 => if r25 = 0 then (X3_readCondition_j38 F rc a1 a2 τ26) else (cal (X6_skip F τ26) fun r27 τ28 => X3_readCondition_L4 F rc n a1 (a2 + 1) (a3 + 1) τ28))
theorem s_X3_readCondition_L4 (F : Nat) (rc : Int32 → Tau → Option (Int32 × Tau)) (db : Nat) (hb : 5 ≤ db) (hrc : ∀ (a1 : Int32) (τ : Tau) (r : Int32) (τ' : Tau), rc a1 τ = some (r, τ') → MCv sysX yX3_readAny cX3_readAny 5 db [.ref 196, .int a1] τ τ') {K : Ctx} (C : Cx K sysX RX3 cX3_readCondition 5 (db + 1)) (hr : Rt K none) : ∀ (n : Nat) (a1 : Int32) (a2 : Int32) (a3 : Int32) (τ : Tau), Sm K sysX 5 (Qv K sysX) (X3_readCondition_L4 F rc n a1 a2 a3 τ) 4 [(0, .ref 196), (1, .int a1), (2, .int a2), (3, .int a3)] [] τ := by
  intro n
  induction n with
  | zero => intro a1 a2 a3 τ; exact sm_none
  | succ n ih =>
    intro a1 a2 a3 τ
    rw [X3_readCondition_L4]
    refine sm_seg C [(.iload_n 3, 0), (.bipush 8, 8)] (pc' := 7) (L' := [(0, .ref 196), (1, .int a1), (2, .int a2), (3, .int a3)]) (S' := [.int 8, .int a3]) (by decide +kernel) rfl ?_
    refine sm_icmpge 38 (off := 31) C (by decide +kernel) (by decide) (fun _ => ?_) (fun _ => ?_)
    · exact sm_sub [0, 1, 2] rfl (s_X3_readCondition_j38 F rc db hb hrc C hr a1 a2 τ)
    · refine sm_seg C [(.aload_n 0, 0)] (pc' := 11) (L' := [(0, .ref 196), (1, .int a1), (2, .int a2), (3, .int a3)]) (S' := [.ref 196]) (by decide +kernel) rfl ?_
      refine sm_getR 3 0 197 cls3 C (ltX (by decide +kernel : kdX 196 = 3) (by decide)) (by decide +kernel : kdX 196 = 3) (obX3 (by decide +kernel : kdX 196 = 3)) (by decide) (frX3_0 (by decide +kernel : kdX 196 = 3)) fl3_12 (by decide +kernel) ?_
      refine sm_seg C [(.bipush 6, 6)] (pc' := 16) (L' := [(0, .ref 196), (1, .int a1), (2, .int a2), (3, .int a3)]) (S' := [.int 6, .ref 197]) (by decide +kernel) rfl ?_
      refine sm_vcal [.int 6] [] rfl C mw_X6_isWord ml_3_73 rfl (ci := 6) rfl (ltX (krX3_0 (by decide +kernel : kdX 196 = 3)) (by decide)) (krX3_0 (by decide +kernel : kdX 196 = 3)) (by decide) ⟨by omega, by omega⟩ (Nat.le_of_ble_eq_true rfl) (by decide +kernel) (c_X6_isWord F 6 τ) (fun r25 τ26 => ?_)
      refine sm_ifeq 38 (off := 19) C (by decide +kernel) (by decide) (fun _ => ?_) (fun _ => ?_)
      · exact sm_sub [0, 1, 2] rfl (s_X3_readCondition_j38 F rc db hb hrc C hr a1 a2 τ26)
      · refine sm_seg C [(.aload_n 0, 0)] (pc' := 23) (L' := [(0, .ref 196), (1, .int a1), (2, .int a2), (3, .int a3)]) (S' := [.ref 196]) (by decide +kernel) rfl ?_
        refine sm_getR 3 0 197 cls3 C (ltX (by decide +kernel : kdX 196 = 3) (by decide)) (by decide +kernel : kdX 196 = 3) (obX3 (by decide +kernel : kdX 196 = 3)) (by decide) (frX3_0 (by decide +kernel : kdX 196 = 3)) fl3_12 (by decide +kernel) ?_
        refine sm_vcalv [] [] rfl C mw_X6_skip ml_3_64 rfl (ci := 6) rfl (ltX (krX3_0 (by decide +kernel : kdX 196 = 3)) (by decide)) (krX3_0 (by decide +kernel : kdX 196 = 3)) (by decide) ⟨by omega, by omega⟩ (Nat.le_of_ble_eq_true rfl) (by decide +kernel) (c_X6_skip F τ26) (fun r27 τ28 => ?_)
        refine sm_seg C [(.iinc 2 1, 1), (.iinc 3 1, 1), (.goto (-31), 0)] (pc' := 4) (L' := [(3, .int (a3 + 1)), (2, .int (a2 + 1)), (0, .ref 196), (1, .int a1)]) (S' := []) (by decide +kernel) rfl ?_
        exact sm_sub [2, 3, 1, 0] rfl (ih a1 (a2 + 1) (a3 + 1) τ28)
def X3_readCondition (F : Nat) (rc : Int32 → Tau → Option (Int32 × Tau)) (a1 : Int32) (τ : Tau) : Option (Int32 × Tau) :=
  X3_readCondition_L4 F rc F a1 0 a1 τ
set_option maxRecDepth 20000 in
set_option maxHeartbeats 4000000 in
theorem c_X3_readCondition (F : Nat) (rc : Int32 → Tau → Option (Int32 × Tau)) (db : Nat) (hb : 5 ≤ db) (hrc : ∀ (a1 : Int32) (τ : Tau) (r : Int32) (τ' : Tau), rc a1 τ = some (r, τ') → MCv sysX yX3_readAny cX3_readAny 5 db [.ref 196, .int a1] τ τ') (a1 : Int32) (τ : Tau) (r : Int32) (τ' : Tau) (h : X3_readCondition F rc a1 τ = some (r, τ')) : MCv sysX yX3_readCondition cX3_readCondition 5 (db + 1) [.ref 196, .int a1] τ τ' :=
  mcv_of (by decide +kernel) (Nat.le_of_ble_eq_true rfl) (fun K C hr => by
    show Sm K sysX 5 (Qv K sysX) (X3_readCondition F rc a1 τ) 0 [(0, .ref 196), (1, .int a1)] [] τ
    unfold X3_readCondition
    refine sm_seg C [(.iconst 0, 0), (.istore_n 2, 0), (.iload_n 1, 0), (.istore_n 3, 0)] (pc' := 4) (L' := [(3, .int a1), (2, .int 0), (0, .ref 196), (1, .int a1)]) (S' := []) (by decide +kernel) rfl ?_
    exact sm_sub [2, 3, 1, 0] rfl (s_X3_readCondition_L4 F rc db hb hrc C hr F a1 0 a1 τ)) h
/-! BasketEnvoys_Reader.readAny -/
def X3_readAny_j103 (F : Nat) (rc : Int32 → Tau → Option (Int32 × Tau)) (a2 : Int32) (τ : Tau) : Option (Int32 × Tau) :=
  if a2 = 0 then (some (0, τ)) else (cal (X2_emit F 203 18 τ) fun r3 τ4 => some (0, τ4))
theorem s_X3_readAny_j103 (F : Nat) (rc : Int32 → Tau → Option (Int32 × Tau)) (db : Nat) (hb : 5 ≤ db) (hrc : ∀ (a1 : Int32) (τ : Tau) (r : Int32) (τ' : Tau), rc a1 τ = some (r, τ') → MCv sysX yX3_readAny cX3_readAny 5 db [.ref 196, .int a1] τ τ') {K : Ctx} (C : Cx K sysX RX3 cX3_readAny 5 (db + 2)) (hr : Rt K none) (a2 : Int32) (τ : Tau) : Sm K sysX 5 (Qv K sysX) (X3_readAny_j103 F rc a2 τ) 103 [(0, .ref 196), (2, .int a2)] [] τ := by
  unfold X3_readAny_j103
  refine sm_seg C [(.iload_n 2, 0)] (pc' := 104) (L' := [(0, .ref 196), (2, .int a2)]) (S' := [.int a2]) (by decide +kernel) rfl ?_
  refine sm_ifeq 116 (off := 12) C (by decide +kernel) (by decide) (fun _ => ?_) (fun _ => ?_)
  · exact sm_vret C hr (by decide +kernel)
  · refine sm_seg C [(.aload_n 0, 0)] (pc' := 108) (L' := [(0, .ref 196), (2, .int a2)]) (S' := [.ref 196]) (by decide +kernel) rfl ?_
    refine sm_getR 3 1 203 cls3 C (ltX (by decide +kernel : kdX 196 = 3) (by decide)) (by decide +kernel : kdX 196 = 3) (obX3 (by decide +kernel : kdX 196 = 3)) (by decide) (frX3_1 (by decide +kernel : kdX 196 = 3)) fl3_21 (by decide +kernel) ?_
    refine sm_seg C [(.bipush 18, 18)] (pc' := 113) (L' := [(0, .ref 196), (2, .int a2)]) (S' := [.int 18, .ref 203]) (by decide +kernel) rfl ?_
    refine sm_vcalv [.int 18] [] rfl C mw_X2_emit ml_3_91 rfl (ci := 2) rfl (ltX (krX3_1 (by decide +kernel : kdX 196 = 3)) (by decide)) (krX3_1 (by decide +kernel : kdX 196 = 3)) (by decide) ⟨by omega, by omega⟩ (Nat.le_of_ble_eq_true rfl) (by decide +kernel) (c_X2_emit F 203 (krX3_1 (by decide +kernel : kdX 196 = 3)) 18 τ) (fun r3 τ4 => ?_)
    exact sm_vret C hr (by decide +kernel)
def X3_readAny_j97 (F : Nat) (rc : Int32 → Tau → Option (Int32 × Tau)) (self9 : Int32 → Int32 → Int32 → Tau → Option (Int32 × Tau)) (a1 : Int32) (a2 : Int32) (a3 : Int32) (τ : Tau) : Option (Int32 × Tau) :=
  self9 a1 a2 (a3 + 1) τ
theorem s_X3_readAny_j97 (F : Nat) (rc : Int32 → Tau → Option (Int32 × Tau)) (db : Nat) (hb : 5 ≤ db) (hrc : ∀ (a1 : Int32) (τ : Tau) (r : Int32) (τ' : Tau), rc a1 τ = some (r, τ') → MCv sysX yX3_readAny cX3_readAny 5 db [.ref 196, .int a1] τ τ') {K : Ctx} (C : Cx K sysX RX3 cX3_readAny 5 (db + 2)) (hr : Rt K none) (self9 : Int32 → Int32 → Int32 → Tau → Option (Int32 × Tau)) (ih9 : ∀ (a1 : Int32) (a2 : Int32) (a3 : Int32) (τ : Tau), Sm K sysX 5 (Qv K sysX) (self9 a1 a2 a3 τ) 9 [(0, .ref 196), (1, .int a1), (2, .int a2), (3, .int a3)] [] τ) (a1 : Int32) (a2 : Int32) (a3 : Int32) (τ : Tau) : Sm K sysX 5 (Qv K sysX) (X3_readAny_j97 F rc self9 a1 a2 a3 τ) 97 [(0, .ref 196), (1, .int a1), (2, .int a2), (3, .int a3)] [] τ := by
  unfold X3_readAny_j97
  refine sm_seg C [(.iinc 3 1, 1), (.goto (-91), 0)] (pc' := 9) (L' := [(3, .int (a3 + 1)), (0, .ref 196), (1, .int a1), (2, .int a2)]) (S' := []) (by decide +kernel) rfl ?_
  exact sm_sub [1, 2, 3, 0] rfl (ih9 a1 a2 (a3 + 1) τ)
def X3_readAny_j73 (F : Nat) (rc : Int32 → Tau → Option (Int32 × Tau)) (self9 : Int32 → Int32 → Int32 → Tau → Option (Int32 × Tau)) (a1 : Int32) (a2 : Int32) (a3 : Int32) (a4 : Int32) (τ : Tau) : Option (Int32 × Tau) :=
  cal (X3_readCondition F rc a1 τ) fun r13 τ14 => if a4 = 0 then (X3_readAny_j97 F rc self9 a1 1 a3 τ14) else (cal (X2_emit F 203 17 τ14) fun r15 τ16 => X3_readAny_j97 F rc self9 a1 a2 a3 τ16)
theorem s_X3_readAny_j73 (F : Nat) (rc : Int32 → Tau → Option (Int32 × Tau)) (db : Nat) (hb : 5 ≤ db) (hrc : ∀ (a1 : Int32) (τ : Tau) (r : Int32) (τ' : Tau), rc a1 τ = some (r, τ') → MCv sysX yX3_readAny cX3_readAny 5 db [.ref 196, .int a1] τ τ') {K : Ctx} (C : Cx K sysX RX3 cX3_readAny 5 (db + 2)) (hr : Rt K none) (self9 : Int32 → Int32 → Int32 → Tau → Option (Int32 × Tau)) (ih9 : ∀ (a1 : Int32) (a2 : Int32) (a3 : Int32) (τ : Tau), Sm K sysX 5 (Qv K sysX) (self9 a1 a2 a3 τ) 9 [(0, .ref 196), (1, .int a1), (2, .int a2), (3, .int a3)] [] τ) (a1 : Int32) (a2 : Int32) (a3 : Int32) (a4 : Int32) (τ : Tau) : Sm K sysX 5 (Qv K sysX) (X3_readAny_j73 F rc self9 a1 a2 a3 a4 τ) 73 [(0, .ref 196), (1, .int a1), (2, .int a2), (3, .int a3), (4, .int a4)] [] τ := by
  unfold X3_readAny_j73
  refine sm_seg C [(.aload_n 0, 0), (.iload_n 1, 0)] (pc' := 75) (L' := [(0, .ref 196), (1, .int a1), (2, .int a2), (3, .int a3), (4, .int a4)]) (S' := [.int a1, .ref 196]) (by decide +kernel) rfl ?_
  refine sm_vcalv [.int a1] [] rfl C mw_X3_readCondition ml_3_88 rfl (ci := 3) rfl (ltX (by decide +kernel : kdX 196 = 3) (by decide)) (by decide +kernel : kdX 196 = 3) (by decide) ⟨by omega, by omega⟩ (Nat.le_of_ble_eq_true rfl) (by decide +kernel) (c_X3_readCondition F rc db hb hrc a1 τ) (fun r13 τ14 => ?_)
  refine sm_seg C [(.iload 4, 0)] (pc' := 80) (L' := [(0, .ref 196), (1, .int a1), (2, .int a2), (3, .int a3), (4, .int a4)]) (S' := [.int a4]) (by decide +kernel) rfl ?_
  refine sm_ifeq 95 (off := 15) C (by decide +kernel) (by decide) (fun _ => ?_) (fun _ => ?_)
  · refine sm_seg C [(.iconst 1, 1), (.istore_n 2, 0)] (pc' := 97) (L' := [(2, .int 1), (0, .ref 196), (1, .int a1), (3, .int a3), (4, .int a4)]) (S' := []) (by decide +kernel) rfl ?_
    exact sm_sub [1, 2, 0, 3] rfl (s_X3_readAny_j97 F rc db hb hrc C hr self9 ih9 a1 1 a3 τ14)
  · refine sm_seg C [(.aload_n 0, 0)] (pc' := 84) (L' := [(0, .ref 196), (1, .int a1), (2, .int a2), (3, .int a3), (4, .int a4)]) (S' := [.ref 196]) (by decide +kernel) rfl ?_
    refine sm_getR 3 1 203 cls3 C (ltX (by decide +kernel : kdX 196 = 3) (by decide)) (by decide +kernel : kdX 196 = 3) (obX3 (by decide +kernel : kdX 196 = 3)) (by decide) (frX3_1 (by decide +kernel : kdX 196 = 3)) fl3_21 (by decide +kernel) ?_
    refine sm_seg C [(.bipush 17, 17)] (pc' := 89) (L' := [(0, .ref 196), (1, .int a1), (2, .int a2), (3, .int a3), (4, .int a4)]) (S' := [.int 17, .ref 203]) (by decide +kernel) rfl ?_
    refine sm_vcalv [.int 17] [] rfl C mw_X2_emit ml_3_91 rfl (ci := 2) rfl (ltX (krX3_1 (by decide +kernel : kdX 196 = 3)) (by decide)) (krX3_1 (by decide +kernel : kdX 196 = 3)) (by decide) ⟨by omega, by omega⟩ (Nat.le_of_ble_eq_true rfl) (by decide +kernel) (c_X2_emit F 203 (krX3_1 (by decide +kernel : kdX 196 = 3)) 17 τ14) (fun r15 τ16 => ?_)
    refine sm_seg C [(.goto 5, 0)] (pc' := 97) (L' := [(0, .ref 196), (1, .int a1), (2, .int a2), (3, .int a3), (4, .int a4)]) (S' := []) (by decide +kernel) rfl ?_
    exact sm_sub [0, 1, 2, 3] rfl (s_X3_readAny_j97 F rc db hb hrc C hr self9 ih9 a1 a2 a3 τ16)
def X3_readAny_j38 (F : Nat) (rc : Int32 → Tau → Option (Int32 × Tau)) (self9 : Int32 → Int32 → Int32 → Tau → Option (Int32 × Tau)) (a1 : Int32) (a2 : Int32) (a3 : Int32) (τ : Tau) : Option (Int32 × Tau) :=
  cal (X6_isWord F 5 τ) fun r9 τ10 => cal (X6_skip F τ10) fun r11 τ12 => if r9 = 0 then (if a2 = 0 then (X3_readAny_j73 F rc self9 a1 a2 a3 r9 τ12) else (cal (X2_emit F 203 18 τ12) fun r17 τ18 => X3_readAny_j73 F rc self9 a1 a2 a3 r9 τ18)) else (X3_readAny_j73 F rc self9 a1 a2 a3 r9 τ12)
theorem s_X3_readAny_j38 (F : Nat) (rc : Int32 → Tau → Option (Int32 × Tau)) (db : Nat) (hb : 5 ≤ db) (hrc : ∀ (a1 : Int32) (τ : Tau) (r : Int32) (τ' : Tau), rc a1 τ = some (r, τ') → MCv sysX yX3_readAny cX3_readAny 5 db [.ref 196, .int a1] τ τ') {K : Ctx} (C : Cx K sysX RX3 cX3_readAny 5 (db + 2)) (hr : Rt K none) (self9 : Int32 → Int32 → Int32 → Tau → Option (Int32 × Tau)) (ih9 : ∀ (a1 : Int32) (a2 : Int32) (a3 : Int32) (τ : Tau), Sm K sysX 5 (Qv K sysX) (self9 a1 a2 a3 τ) 9 [(0, .ref 196), (1, .int a1), (2, .int a2), (3, .int a3)] [] τ) (a1 : Int32) (a2 : Int32) (a3 : Int32) (τ : Tau) : Sm K sysX 5 (Qv K sysX) (X3_readAny_j38 F rc self9 a1 a2 a3 τ) 38 [(0, .ref 196), (1, .int a1), (2, .int a2), (3, .int a3)] [] τ := by
  unfold X3_readAny_j38
  refine sm_seg C [(.aload_n 0, 0)] (pc' := 39) (L' := [(0, .ref 196), (1, .int a1), (2, .int a2), (3, .int a3)]) (S' := [.ref 196]) (by decide +kernel) rfl ?_
  refine sm_getR 3 0 197 cls3 C (ltX (by decide +kernel : kdX 196 = 3) (by decide)) (by decide +kernel : kdX 196 = 3) (obX3 (by decide +kernel : kdX 196 = 3)) (by decide) (frX3_0 (by decide +kernel : kdX 196 = 3)) fl3_12 (by decide +kernel) ?_
  refine sm_seg C [(.iconst 5, 5)] (pc' := 43) (L' := [(0, .ref 196), (1, .int a1), (2, .int a2), (3, .int a3)]) (S' := [.int 5, .ref 197]) (by decide +kernel) rfl ?_
  refine sm_vcal [.int 5] [] rfl C mw_X6_isWord ml_3_73 rfl (ci := 6) rfl (ltX (krX3_0 (by decide +kernel : kdX 196 = 3)) (by decide)) (krX3_0 (by decide +kernel : kdX 196 = 3)) (by decide) ⟨by omega, by omega⟩ (Nat.le_of_ble_eq_true rfl) (by decide +kernel) (c_X6_isWord F 5 τ) (fun r9 τ10 => ?_)
  refine sm_seg C [(.istore 4, 0), (.aload_n 0, 0)] (pc' := 49) (L' := [(4, .int r9), (0, .ref 196), (1, .int a1), (2, .int a2), (3, .int a3)]) (S' := [.ref 196]) (by decide +kernel) rfl ?_
  refine sm_getR 3 0 197 cls3 C (ltX (by decide +kernel : kdX 196 = 3) (by decide)) (by decide +kernel : kdX 196 = 3) (obX3 (by decide +kernel : kdX 196 = 3)) (by decide) (frX3_0 (by decide +kernel : kdX 196 = 3)) fl3_12 (by decide +kernel) ?_
  refine sm_vcalv [] [] rfl C mw_X6_skip ml_3_64 rfl (ci := 6) rfl (ltX (krX3_0 (by decide +kernel : kdX 196 = 3)) (by decide)) (krX3_0 (by decide +kernel : kdX 196 = 3)) (by decide) ⟨by omega, by omega⟩ (Nat.le_of_ble_eq_true rfl) (by decide +kernel) (c_X6_skip F τ10) (fun r11 τ12 => ?_)
  refine sm_seg C [(.iload 4, 0)] (pc' := 57) (L' := [(4, .int r9), (0, .ref 196), (1, .int a1), (2, .int a2), (3, .int a3)]) (S' := [.int r9]) (by decide +kernel) rfl ?_
  refine sm_ifne 73 (off := 16) C (by decide +kernel) (by decide) (fun _ => ?_) (fun _ => ?_)
  · refine sm_seg C [(.iload_n 2, 0)] (pc' := 61) (L' := [(4, .int r9), (0, .ref 196), (1, .int a1), (2, .int a2), (3, .int a3)]) (S' := [.int a2]) (by decide +kernel) rfl ?_
    refine sm_ifeq 73 (off := 12) C (by decide +kernel) (by decide) (fun _ => ?_) (fun _ => ?_)
    · exact sm_sub [1, 2, 3, 4, 0] rfl (s_X3_readAny_j73 F rc db hb hrc C hr self9 ih9 a1 a2 a3 r9 τ12)
    · refine sm_seg C [(.aload_n 0, 0)] (pc' := 65) (L' := [(4, .int r9), (0, .ref 196), (1, .int a1), (2, .int a2), (3, .int a3)]) (S' := [.ref 196]) (by decide +kernel) rfl ?_
      refine sm_getR 3 1 203 cls3 C (ltX (by decide +kernel : kdX 196 = 3) (by decide)) (by decide +kernel : kdX 196 = 3) (obX3 (by decide +kernel : kdX 196 = 3)) (by decide) (frX3_1 (by decide +kernel : kdX 196 = 3)) fl3_21 (by decide +kernel) ?_
      refine sm_seg C [(.bipush 18, 18)] (pc' := 70) (L' := [(4, .int r9), (0, .ref 196), (1, .int a1), (2, .int a2), (3, .int a3)]) (S' := [.int 18, .ref 203]) (by decide +kernel) rfl ?_
      refine sm_vcalv [.int 18] [] rfl C mw_X2_emit ml_3_91 rfl (ci := 2) rfl (ltX (krX3_1 (by decide +kernel : kdX 196 = 3)) (by decide)) (krX3_1 (by decide +kernel : kdX 196 = 3)) (by decide) ⟨by omega, by omega⟩ (Nat.le_of_ble_eq_true rfl) (by decide +kernel) (c_X2_emit F 203 (krX3_1 (by decide +kernel : kdX 196 = 3)) 18 τ12) (fun r17 τ18 => ?_)
      exact sm_sub [1, 2, 3, 4, 0] rfl (s_X3_readAny_j73 F rc db hb hrc C hr self9 ih9 a1 a2 a3 r9 τ18)
  · exact sm_sub [1, 2, 3, 4, 0] rfl (s_X3_readAny_j73 F rc db hb hrc C hr self9 ih9 a1 a2 a3 r9 τ12)
def X3_readAny_L9 (F : Nat) (rc : Int32 → Tau → Option (Int32 × Tau)) : Nat → Int32 → Int32 → Int32 → Tau → Option (Int32 × Tau)
  | 0, _, _, _, _ => none
  | n + 1, a1, a2, a3, τ =>
    if 400 ≤ a3 then (X3_readAny_j103 F rc a2 τ) else (cal (X6_isWord F 4 τ) fun r5 τ6 => if r5 = 0 then (cal (X6_isWord F 5 τ6) fun r7 τ8 => if r7 = 0 then (X3_readAny_j103 F rc a2 τ8) else (X3_readAny_j38 F rc (X3_readAny_L9 F rc n) a1 a2 a3 τ8)) else (X3_readAny_j38 F rc (X3_readAny_L9 F rc n) a1 a2 a3 τ6))
theorem s_X3_readAny_L9 (F : Nat) (rc : Int32 → Tau → Option (Int32 × Tau)) (db : Nat) (hb : 5 ≤ db) (hrc : ∀ (a1 : Int32) (τ : Tau) (r : Int32) (τ' : Tau), rc a1 τ = some (r, τ') → MCv sysX yX3_readAny cX3_readAny 5 db [.ref 196, .int a1] τ τ') {K : Ctx} (C : Cx K sysX RX3 cX3_readAny 5 (db + 2)) (hr : Rt K none) : ∀ (n : Nat) (a1 : Int32) (a2 : Int32) (a3 : Int32) (τ : Tau), Sm K sysX 5 (Qv K sysX) (X3_readAny_L9 F rc n a1 a2 a3 τ) 9 [(0, .ref 196), (1, .int a1), (2, .int a2), (3, .int a3)] [] τ := by
  intro n
  induction n with
  | zero => intro a1 a2 a3 τ; exact sm_none
  | succ n ih =>
    intro a1 a2 a3 τ
    rw [X3_readAny_L9]
    refine sm_seg C [(.iload_n 3, 0), (.sipush 400, 400)] (pc' := 13) (L' := [(0, .ref 196), (1, .int a1), (2, .int a2), (3, .int a3)]) (S' := [.int 400, .int a3]) (by decide +kernel) rfl ?_
    refine sm_icmpge 103 (off := 90) C (by decide +kernel) (by decide) (fun _ => ?_) (fun _ => ?_)
    · exact sm_sub [0, 2] rfl (s_X3_readAny_j103 F rc db hb hrc C hr a2 τ)
    · refine sm_seg C [(.aload_n 0, 0)] (pc' := 17) (L' := [(0, .ref 196), (1, .int a1), (2, .int a2), (3, .int a3)]) (S' := [.ref 196]) (by decide +kernel) rfl ?_
      refine sm_getR 3 0 197 cls3 C (ltX (by decide +kernel : kdX 196 = 3) (by decide)) (by decide +kernel : kdX 196 = 3) (obX3 (by decide +kernel : kdX 196 = 3)) (by decide) (frX3_0 (by decide +kernel : kdX 196 = 3)) fl3_12 (by decide +kernel) ?_
      refine sm_seg C [(.iconst 4, 4)] (pc' := 21) (L' := [(0, .ref 196), (1, .int a1), (2, .int a2), (3, .int a3)]) (S' := [.int 4, .ref 197]) (by decide +kernel) rfl ?_
      refine sm_vcal [.int 4] [] rfl C mw_X6_isWord ml_3_73 rfl (ci := 6) rfl (ltX (krX3_0 (by decide +kernel : kdX 196 = 3)) (by decide)) (krX3_0 (by decide +kernel : kdX 196 = 3)) (by decide) ⟨by omega, by omega⟩ (Nat.le_of_ble_eq_true rfl) (by decide +kernel) (c_X6_isWord F 4 τ) (fun r5 τ6 => ?_)
      refine sm_ifne 38 (off := 14) C (by decide +kernel) (by decide) (fun _ => ?_) (fun _ => ?_)
      · refine sm_seg C [(.aload_n 0, 0)] (pc' := 28) (L' := [(0, .ref 196), (1, .int a1), (2, .int a2), (3, .int a3)]) (S' := [.ref 196]) (by decide +kernel) rfl ?_
        refine sm_getR 3 0 197 cls3 C (ltX (by decide +kernel : kdX 196 = 3) (by decide)) (by decide +kernel : kdX 196 = 3) (obX3 (by decide +kernel : kdX 196 = 3)) (by decide) (frX3_0 (by decide +kernel : kdX 196 = 3)) fl3_12 (by decide +kernel) ?_
        refine sm_seg C [(.iconst 5, 5)] (pc' := 32) (L' := [(0, .ref 196), (1, .int a1), (2, .int a2), (3, .int a3)]) (S' := [.int 5, .ref 197]) (by decide +kernel) rfl ?_
        refine sm_vcal [.int 5] [] rfl C mw_X6_isWord ml_3_73 rfl (ci := 6) rfl (ltX (krX3_0 (by decide +kernel : kdX 196 = 3)) (by decide)) (krX3_0 (by decide +kernel : kdX 196 = 3)) (by decide) ⟨by omega, by omega⟩ (Nat.le_of_ble_eq_true rfl) (by decide +kernel) (c_X6_isWord F 5 τ6) (fun r7 τ8 => ?_)
        refine sm_ifeq 103 (off := 68) C (by decide +kernel) (by decide) (fun _ => ?_) (fun _ => ?_)
        · exact sm_sub [0, 2] rfl (s_X3_readAny_j103 F rc db hb hrc C hr a2 τ8)
        · exact sm_sub [0, 1, 2, 3] rfl (s_X3_readAny_j38 F rc db hb hrc C hr (X3_readAny_L9 F rc n) ih a1 a2 a3 τ8)
      · exact sm_sub [0, 1, 2, 3] rfl (s_X3_readAny_j38 F rc db hb hrc C hr (X3_readAny_L9 F rc n) ih a1 a2 a3 τ6)
def X3_readAny_B (F : Nat) (rc : Int32 → Tau → Option (Int32 × Tau)) (a1 : Int32) (τ : Tau) : Option (Int32 × Tau) :=
  cal (X3_readCondition F rc a1 τ) fun r1 τ2 => X3_readAny_L9 F rc F a1 0 0 τ2
set_option maxRecDepth 20000 in
set_option maxHeartbeats 4000000 in
theorem c_X3_readAny_B (F : Nat) (rc : Int32 → Tau → Option (Int32 × Tau)) (db : Nat) (hb : 5 ≤ db) (hrc : ∀ (a1 : Int32) (τ : Tau) (r : Int32) (τ' : Tau), rc a1 τ = some (r, τ') → MCv sysX yX3_readAny cX3_readAny 5 db [.ref 196, .int a1] τ τ') (a1 : Int32) (τ : Tau) (r : Int32) (τ' : Tau) (h : X3_readAny_B F rc a1 τ = some (r, τ')) : MCv sysX yX3_readAny cX3_readAny 5 (db + 2) [.ref 196, .int a1] τ τ' :=
  mcv_of (by decide +kernel) (Nat.le_of_ble_eq_true rfl) (fun K C hr => by
    show Sm K sysX 5 (Qv K sysX) (X3_readAny_B F rc a1 τ) 0 [(0, .ref 196), (1, .int a1)] [] τ
    unfold X3_readAny_B
    refine sm_seg C [(.iconst 0, 0), (.istore_n 2, 0), (.aload_n 0, 0), (.iload_n 1, 0)] (pc' := 4) (L' := [(2, .int 0), (0, .ref 196), (1, .int a1)]) (S' := [.int a1, .ref 196]) (by decide +kernel) rfl ?_
    refine sm_vcalv [.int a1] [] rfl C mw_X3_readCondition ml_3_88 rfl (ci := 3) rfl (ltX (by decide +kernel : kdX 196 = 3) (by decide)) (by decide +kernel : kdX 196 = 3) (by decide) ⟨by omega, by omega⟩ (Nat.le_of_ble_eq_true rfl) (by decide +kernel) (c_X3_readCondition F rc db hb hrc a1 τ) (fun r1 τ2 => ?_)
    refine sm_seg C [(.iconst 0, 0), (.istore_n 3, 0)] (pc' := 9) (L' := [(3, .int 0), (2, .int 0), (0, .ref 196), (1, .int a1)]) (S' := []) (by decide +kernel) rfl ?_
    exact sm_sub [2, 3, 1, 0] rfl (s_X3_readAny_L9 F rc db hb hrc C hr F a1 0 0 τ2)) h
def X3_readAny (F : Nat) : Nat → Int32 → Tau → Option (Int32 × Tau)
  | 0, _, _ => none
  | n + 1, a1, τ => X3_readAny_B F (X3_readAny F n) a1 τ
theorem c_X3_readAny (F : Nat) : ∀ (n : Nat) (a1 : Int32) (τ : Tau) (r : Int32) (τ' : Tau) (h : X3_readAny F n a1 τ = some (r, τ')), MCv sysX yX3_readAny cX3_readAny 5 (5 + 2 * n) [.ref 196, .int a1] τ τ' := by
  intro n
  induction n with
  | zero => intro a1 τ r τ' h; cases h
  | succ n ih =>
    intro a1 τ r τ' h
    have h2 := c_X3_readAny_B F  (X3_readAny F n) (5 + 2 * n) (by omega) ih  a1 τ r τ' h
    rw [show 5 + 2 * (n + 1) = 5 + 2 * n + 2 by omega]
    exact h2
/-! BasketEnvoys_Law.addLine -/
def X2_addLine (F : Nat) (t0 : Nat) (a1 : Int32) (a2 : Int32) (a3 : Int32) (τ : Tau) : Option (Int32 × Tau) :=
  if 16 ≤ (τ t0 0) then (some (0, τ)) else (ast τ (t0 + 1) 16 (τ t0 0) a1 fun τ1 => ast τ1 (t0 + 2) 16 (τ1 t0 0) a2 fun τ2 => ast τ2 (t0 + 3) 16 (τ2 t0 0) a3 fun τ3 => ast τ3 (t0 + 4) 16 (τ3 t0 0) (τ3 t0 1) fun τ4 => pst τ4 t0 0 ((τ4 t0 0) + 1) fun τ5 => some (0, τ5))
set_option maxRecDepth 20000 in
set_option maxHeartbeats 4000000 in
theorem c_X2_addLine (F : Nat) (t0 : Nat) (h0 : kdX t0 = 2) (a1 : Int32) (a2 : Int32) (a3 : Int32) (τ : Tau) (r : Int32) (τ' : Tau) (h : X2_addLine F t0 a1 a2 a3 τ = some (r, τ')) : MCv sysX yX2_addLine cX2_addLine 4 1 [.ref t0, .int a1, .int a2, .int a3] τ τ' :=
  mcv_of (by decide +kernel) (Nat.le_of_ble_eq_true rfl) (fun K C hr => by
    show Sm K sysX 4 (Qv K sysX) (X2_addLine F t0 a1 a2 a3 τ) 0 [(0, .ref t0), (1, .int a1), (2, .int a2), (3, .int a3)] [] τ
    unfold X2_addLine
    refine sm_seg C [(.aload_n 0, 0)] (pc' := 1) (L' := [(0, .ref t0), (1, .int a1), (2, .int a2), (3, .int a3)]) (S' := [.ref t0]) (by decide +kernel) rfl ?_
    refine sm_getI 2 0 cls2 C (ltX h0 (by decide)) h0 (obX2 h0) (by decide) (fiX2_0 h0) fl2_9 (by decide +kernel) ?_
    refine sm_seg C [(.bipush 16, 16)] (pc' := 6) (L' := [(0, .ref t0), (1, .int a1), (2, .int a2), (3, .int a3)]) (S' := [.int 16, .int (τ t0 0)]) (by decide +kernel) rfl ?_
    refine sm_icmpge 62 (off := 56) C (by decide +kernel) (by decide) (fun _ => ?_) (fun _ => ?_)
    · exact sm_vret C hr (by decide +kernel)
    · refine sm_seg C [(.aload_n 0, 0)] (pc' := 10) (L' := [(0, .ref t0), (1, .int a1), (2, .int a2), (3, .int a3)]) (S' := [.ref t0]) (by decide +kernel) rfl ?_
      refine sm_getR 2 2 (t0 + 1) cls2 C (ltX h0 (by decide)) h0 (obX2 h0) (by decide) (frX2_2 h0) fl2_18 (by decide +kernel) ?_
      refine sm_seg C [(.aload_n 0, 0)] (pc' := 14) (L' := [(0, .ref t0), (1, .int a1), (2, .int a2), (3, .int a3)]) (S' := [.ref t0, .ref (t0 + 1)]) (by decide +kernel) rfl ?_
      refine sm_getI 2 0 cls2 C (ltX h0 (by decide)) h0 (obX2 h0) (by decide) (fiX2_0 h0) fl2_9 (by decide +kernel) ?_
      refine sm_seg C [(.iload_n 1, 0)] (pc' := 18) (L' := [(0, .ref t0), (1, .int a1), (2, .int a2), (3, .int a3)]) (S' := [.int a1, .int (τ t0 0), .ref (t0 + 1)]) (by decide +kernel) rfl ?_
      refine sm_ast 16 C (ltX (krX2_2 h0) (by decide)) (krX2_2 h0) (nrX2_2 h0) (by decide +kernel) (fun τ1 => ?_)
      refine sm_seg C [(.aload_n 0, 0)] (pc' := 20) (L' := [(0, .ref t0), (1, .int a1), (2, .int a2), (3, .int a3)]) (S' := [.ref t0]) (by decide +kernel) rfl ?_
      refine sm_getR 2 3 (t0 + 2) cls2 C (ltX h0 (by decide)) h0 (obX2 h0) (by decide) (frX2_3 h0) fl2_22 (by decide +kernel) ?_
      refine sm_seg C [(.aload_n 0, 0)] (pc' := 24) (L' := [(0, .ref t0), (1, .int a1), (2, .int a2), (3, .int a3)]) (S' := [.ref t0, .ref (t0 + 2)]) (by decide +kernel) rfl ?_
      refine sm_getI 2 0 cls2 C (ltX h0 (by decide)) h0 (obX2 h0) (by decide) (fiX2_0 h0) fl2_9 (by decide +kernel) ?_
      refine sm_seg C [(.iload_n 2, 0)] (pc' := 28) (L' := [(0, .ref t0), (1, .int a1), (2, .int a2), (3, .int a3)]) (S' := [.int a2, .int (τ1 t0 0), .ref (t0 + 2)]) (by decide +kernel) rfl ?_
      refine sm_ast 16 C (ltX (krX2_3 h0) (by decide)) (krX2_3 h0) (nrX2_3 h0) (by decide +kernel) (fun τ2 => ?_)
      refine sm_seg C [(.aload_n 0, 0)] (pc' := 30) (L' := [(0, .ref t0), (1, .int a1), (2, .int a2), (3, .int a3)]) (S' := [.ref t0]) (by decide +kernel) rfl ?_
      refine sm_getR 2 4 (t0 + 3) cls2 C (ltX h0 (by decide)) h0 (obX2 h0) (by decide) (frX2_4 h0) fl2_25 (by decide +kernel) ?_
      refine sm_seg C [(.aload_n 0, 0)] (pc' := 34) (L' := [(0, .ref t0), (1, .int a1), (2, .int a2), (3, .int a3)]) (S' := [.ref t0, .ref (t0 + 3)]) (by decide +kernel) rfl ?_
      refine sm_getI 2 0 cls2 C (ltX h0 (by decide)) h0 (obX2 h0) (by decide) (fiX2_0 h0) fl2_9 (by decide +kernel) ?_
      refine sm_seg C [(.iload_n 3, 0)] (pc' := 38) (L' := [(0, .ref t0), (1, .int a1), (2, .int a2), (3, .int a3)]) (S' := [.int a3, .int (τ2 t0 0), .ref (t0 + 3)]) (by decide +kernel) rfl ?_
      refine sm_ast 16 C (ltX (krX2_4 h0) (by decide)) (krX2_4 h0) (nrX2_4 h0) (by decide +kernel) (fun τ3 => ?_)
      refine sm_seg C [(.aload_n 0, 0)] (pc' := 40) (L' := [(0, .ref t0), (1, .int a1), (2, .int a2), (3, .int a3)]) (S' := [.ref t0]) (by decide +kernel) rfl ?_
      refine sm_getR 2 5 (t0 + 4) cls2 C (ltX h0 (by decide)) h0 (obX2 h0) (by decide) (frX2_5 h0) fl2_28 (by decide +kernel) ?_
      refine sm_seg C [(.aload_n 0, 0)] (pc' := 44) (L' := [(0, .ref t0), (1, .int a1), (2, .int a2), (3, .int a3)]) (S' := [.ref t0, .ref (t0 + 4)]) (by decide +kernel) rfl ?_
      refine sm_getI 2 0 cls2 C (ltX h0 (by decide)) h0 (obX2 h0) (by decide) (fiX2_0 h0) fl2_9 (by decide +kernel) ?_
      refine sm_seg C [(.aload_n 0, 0)] (pc' := 48) (L' := [(0, .ref t0), (1, .int a1), (2, .int a2), (3, .int a3)]) (S' := [.ref t0, .int (τ3 t0 0), .ref (t0 + 4)]) (by decide +kernel) rfl ?_
      refine sm_getI 2 1 cls2 C (ltX h0 (by decide)) h0 (obX2 h0) (by decide) (fiX2_1 h0) fl2_15 (by decide +kernel) ?_
      refine sm_ast 16 C (ltX (krX2_5 h0) (by decide)) (krX2_5 h0) (nrX2_5 h0) (by decide +kernel) (fun τ4 => ?_)
      refine sm_seg C [(.aload_n 0, 0), (.dup, 0)] (pc' := 54) (L' := [(0, .ref t0), (1, .int a1), (2, .int a2), (3, .int a3)]) (S' := [.ref t0, .ref t0]) (by decide +kernel) rfl ?_
      refine sm_getI 2 0 cls2 C (ltX h0 (by decide)) h0 (obX2 h0) (by decide) (fiX2_0 h0) fl2_9 (by decide +kernel) ?_
      refine sm_seg C [(.iconst 1, 1), (.iadd, 0)] (pc' := 59) (L' := [(0, .ref t0), (1, .int a1), (2, .int a2), (3, .int a3)]) (S' := [.int ((τ4 t0 0) + 1), .ref t0]) (by decide +kernel) rfl ?_
      refine sm_pst 2 0 cls2 C (ltX h0 (by decide)) h0 (obX2 h0) (by decide) (fiX2_0 h0) rfl rfl rfl fl2_9 (by decide +kernel) (fun τ5 => ?_)
      exact sm_vret C hr (by decide +kernel)) h
/-! BasketEnvoys_Reader.readLawLine -/
def X3_readLawLine_j99 (F : Nat) (a2 : Int32) (a3 : Int32) (a4 : Int32) (τ : Tau) : Option (Int32 × Tau) :=
  cal (X6_takeSign F 59 τ) fun r15 τ16 => cal (X2_addLine F 203 a2 a3 a4 τ16) fun r17 τ18 => some (0, τ18)
theorem s_X3_readLawLine_j99 (F : Nat) {K : Ctx} (C : Cx K sysX RX3 cX3_readLawLine 5 30) (hr : Rt K none) (a2 : Int32) (a3 : Int32) (a4 : Int32) (τ : Tau) : Sm K sysX 5 (Qv K sysX) (X3_readLawLine_j99 F a2 a3 a4 τ) 99 [(0, .ref 196), (2, .int a2), (3, .int a3), (4, .int a4)] [] τ := by
  unfold X3_readLawLine_j99
  refine sm_seg C [(.aload_n 0, 0)] (pc' := 100) (L' := [(0, .ref 196), (2, .int a2), (3, .int a3), (4, .int a4)]) (S' := [.ref 196]) (by decide +kernel) rfl ?_
  refine sm_getR 3 0 197 cls3 C (ltX (by decide +kernel : kdX 196 = 3) (by decide)) (by decide +kernel : kdX 196 = 3) (obX3 (by decide +kernel : kdX 196 = 3)) (by decide) (frX3_0 (by decide +kernel : kdX 196 = 3)) fl3_12 (by decide +kernel) ?_
  refine sm_seg C [(.bipush 59, 59)] (pc' := 105) (L' := [(0, .ref 196), (2, .int a2), (3, .int a3), (4, .int a4)]) (S' := [.int 59, .ref 197]) (by decide +kernel) rfl ?_
  refine sm_vcalv [.int 59] [] rfl C mw_X6_takeSign ml_3_80 rfl (ci := 6) rfl (ltX (krX3_0 (by decide +kernel : kdX 196 = 3)) (by decide)) (krX3_0 (by decide +kernel : kdX 196 = 3)) (by decide) ⟨by decide, by decide⟩ (Nat.le_of_ble_eq_true rfl) (by decide +kernel) (c_X6_takeSign F 59 τ) (fun r15 τ16 => ?_)
  refine sm_seg C [(.aload_n 0, 0)] (pc' := 109) (L' := [(0, .ref 196), (2, .int a2), (3, .int a3), (4, .int a4)]) (S' := [.ref 196]) (by decide +kernel) rfl ?_
  refine sm_getR 3 1 203 cls3 C (ltX (by decide +kernel : kdX 196 = 3) (by decide)) (by decide +kernel : kdX 196 = 3) (obX3 (by decide +kernel : kdX 196 = 3)) (by decide) (frX3_1 (by decide +kernel : kdX 196 = 3)) fl3_21 (by decide +kernel) ?_
  refine sm_seg C [(.iload_n 2, 0), (.iload_n 3, 0), (.iload 4, 0)] (pc' := 116) (L' := [(0, .ref 196), (2, .int a2), (3, .int a3), (4, .int a4)]) (S' := [.int a4, .int a3, .int a2, .ref 203]) (by decide +kernel) rfl ?_
  refine sm_vcalv [.int a2, .int a3, .int a4] [] rfl C mw_X2_addLine ml_3_84 rfl (ci := 2) rfl (ltX (krX3_1 (by decide +kernel : kdX 196 = 3)) (by decide)) (krX3_1 (by decide +kernel : kdX 196 = 3)) (by decide) ⟨by decide, by decide⟩ (Nat.le_of_ble_eq_true rfl) (by decide +kernel) (c_X2_addLine F 203 (krX3_1 (by decide +kernel : kdX 196 = 3)) a2 a3 a4 τ16) (fun r17 τ18 => ?_)
  exact sm_vret C hr (by decide +kernel)
def X3_readLawLine (F : Nat) (a1 : Int32) (τ : Tau) : Option (Int32 × Tau) :=
  cal (X6_wordHere F τ) fun r1 τ2 => cal (X10_within F r1 0 2 τ2) fun r3 τ4 => if r3 = 0 then (cal (X6_refuse F 1 τ4) fun r5 τ6 => some (0, τ6)) else (if a1 < 16 then (cal (X6_skip F τ4) fun r7 τ8 => cal (X2_here F 203 τ8) fun r9 τ10 => cal (X3_readSum F τ10) fun r11 τ12 => cal (X6_isWord F 3 τ12) fun r13 τ14 => if r13 = 0 then (X3_readLawLine_j99 F r1 r9 (-1) τ14) else (cal (X6_skip F τ14) fun r19 τ20 => cal (X2_here F 203 τ20) fun r21 τ22 => cal (X3_readAny F 12 0 τ22) fun r23 τ24 => X3_readLawLine_j99 F r1 r9 r21 τ24)) else (cal (X6_refuse F 3 τ4) fun r25 τ26 => some (0, τ26)))
set_option maxRecDepth 20000 in
set_option maxHeartbeats 4000000 in
theorem c_X3_readLawLine (F : Nat) (a1 : Int32) (τ : Tau) (r : Int32) (τ' : Tau) (h : X3_readLawLine F a1 τ = some (r, τ')) : MCv sysX yX3_readLawLine cX3_readLawLine 5 30 [.ref 196, .int a1] τ τ' :=
  mcv_of (by decide +kernel) (Nat.le_of_ble_eq_true rfl) (fun K C hr => by
    show Sm K sysX 5 (Qv K sysX) (X3_readLawLine F a1 τ) 0 [(0, .ref 196), (1, .int a1)] [] τ
    unfold X3_readLawLine
    refine sm_seg C [(.aload_n 0, 0)] (pc' := 1) (L' := [(0, .ref 196), (1, .int a1)]) (S' := [.ref 196]) (by decide +kernel) rfl ?_
    refine sm_getR 3 0 197 cls3 C (ltX (by decide +kernel : kdX 196 = 3) (by decide)) (by decide +kernel : kdX 196 = 3) (obX3 (by decide +kernel : kdX 196 = 3)) (by decide) (frX3_0 (by decide +kernel : kdX 196 = 3)) fl3_12 (by decide +kernel) ?_
    refine sm_vcal [] [] rfl C mw_X6_wordHere ml_3_53 rfl (ci := 6) rfl (ltX (krX3_0 (by decide +kernel : kdX 196 = 3)) (by decide)) (krX3_0 (by decide +kernel : kdX 196 = 3)) (by decide) ⟨by decide, by decide⟩ (Nat.le_of_ble_eq_true rfl) (by decide +kernel) (c_X6_wordHere F τ) (fun r1 τ2 => ?_)
    refine sm_seg C [(.istore_n 2, 0), (.iload_n 2, 0), (.iconst 0, 0), (.iconst 2, 2)] (pc' := 11) (L' := [(2, .int r1), (0, .ref 196), (1, .int a1)]) (S' := [.int 2, .int 0, .int r1]) (by decide +kernel) rfl ?_
    refine sm_ncal "BasketEnvoys" [.int r1, .int 0, .int 2] [] rfl C mw_X10_within ml_3_57 rfl ⟨by decide, by decide⟩ (Nat.le_of_ble_eq_true rfl) (by decide +kernel) (c_X10_within F r1 0 2 τ2) (fun r3 τ4 => ?_)
    refine sm_ifne 28 (off := 14) C (by decide +kernel) (by decide) (fun _ => ?_) (fun _ => ?_)
    · refine sm_seg C [(.aload_n 0, 0)] (pc' := 18) (L' := [(2, .int r1), (0, .ref 196), (1, .int a1)]) (S' := [.ref 196]) (by decide +kernel) rfl ?_
      refine sm_getR 3 0 197 cls3 C (ltX (by decide +kernel : kdX 196 = 3) (by decide)) (by decide +kernel : kdX 196 = 3) (obX3 (by decide +kernel : kdX 196 = 3)) (by decide) (frX3_0 (by decide +kernel : kdX 196 = 3)) fl3_12 (by decide +kernel) ?_
      refine sm_seg C [(.iconst 1, 1)] (pc' := 22) (L' := [(2, .int r1), (0, .ref 196), (1, .int a1)]) (S' := [.int 1, .ref 197]) (by decide +kernel) rfl ?_
      refine sm_vcalv [.int 1] [] rfl C mw_X6_refuse ml_3_61 rfl (ci := 6) rfl (ltX (krX3_0 (by decide +kernel : kdX 196 = 3)) (by decide)) (krX3_0 (by decide +kernel : kdX 196 = 3)) (by decide) ⟨by decide, by decide⟩ (Nat.le_of_ble_eq_true rfl) (by decide +kernel) (c_X6_refuse F 1 τ4) (fun r5 τ6 => ?_)
      refine sm_seg C [(.goto 94, 0)] (pc' := 119) (L' := [(2, .int r1), (0, .ref 196), (1, .int a1)]) (S' := []) (by decide +kernel) rfl ?_
      exact sm_vret C hr (by decide +kernel)
    · refine sm_seg C [(.iload_n 1, 0), (.bipush 16, 16)] (pc' := 31) (L' := [(2, .int r1), (0, .ref 196), (1, .int a1)]) (S' := [.int 16, .int a1]) (by decide +kernel) rfl ?_
      refine sm_icmplt 45 (off := 14) C (by decide +kernel) (by decide) (fun _ => ?_) (fun _ => ?_)
      · refine sm_seg C [(.aload_n 0, 0)] (pc' := 46) (L' := [(2, .int r1), (0, .ref 196), (1, .int a1)]) (S' := [.ref 196]) (by decide +kernel) rfl ?_
        refine sm_getR 3 0 197 cls3 C (ltX (by decide +kernel : kdX 196 = 3) (by decide)) (by decide +kernel : kdX 196 = 3) (obX3 (by decide +kernel : kdX 196 = 3)) (by decide) (frX3_0 (by decide +kernel : kdX 196 = 3)) fl3_12 (by decide +kernel) ?_
        refine sm_vcalv [] [] rfl C mw_X6_skip ml_3_64 rfl (ci := 6) rfl (ltX (krX3_0 (by decide +kernel : kdX 196 = 3)) (by decide)) (krX3_0 (by decide +kernel : kdX 196 = 3)) (by decide) ⟨by decide, by decide⟩ (Nat.le_of_ble_eq_true rfl) (by decide +kernel) (c_X6_skip F τ4) (fun r7 τ8 => ?_)
        refine sm_seg C [(.aload_n 0, 0)] (pc' := 53) (L' := [(2, .int r1), (0, .ref 196), (1, .int a1)]) (S' := [.ref 196]) (by decide +kernel) rfl ?_
        refine sm_getR 3 1 203 cls3 C (ltX (by decide +kernel : kdX 196 = 3) (by decide)) (by decide +kernel : kdX 196 = 3) (obX3 (by decide +kernel : kdX 196 = 3)) (by decide) (frX3_1 (by decide +kernel : kdX 196 = 3)) fl3_21 (by decide +kernel) ?_
        refine sm_vcal [] [] rfl C mw_X2_here ml_3_67 rfl (ci := 2) rfl (ltX (krX3_1 (by decide +kernel : kdX 196 = 3)) (by decide)) (krX3_1 (by decide +kernel : kdX 196 = 3)) (by decide) ⟨by decide, by decide⟩ (Nat.le_of_ble_eq_true rfl) (by decide +kernel) (c_X2_here F 203 (krX3_1 (by decide +kernel : kdX 196 = 3)) τ8) (fun r9 τ10 => ?_)
        refine sm_seg C [(.istore_n 3, 0), (.iconst (-1), (-1)), (.istore 4, 0), (.aload_n 0, 0)] (pc' := 64) (L' := [(4, .int (-1)), (3, .int r9), (2, .int r1), (0, .ref 196), (1, .int a1)]) (S' := [.ref 196]) (by decide +kernel) rfl ?_
        refine sm_vcalv [] [] rfl C mw_X3_readSum ml_3_70 rfl (ci := 3) rfl (ltX (by decide +kernel : kdX 196 = 3) (by decide)) (by decide +kernel : kdX 196 = 3) (by decide) ⟨by decide, by decide⟩ (Nat.le_of_ble_eq_true rfl) (by decide +kernel) (c_X3_readSum F τ10) (fun r11 τ12 => ?_)
        refine sm_seg C [(.aload_n 0, 0)] (pc' := 68) (L' := [(4, .int (-1)), (3, .int r9), (2, .int r1), (0, .ref 196), (1, .int a1)]) (S' := [.ref 196]) (by decide +kernel) rfl ?_
        refine sm_getR 3 0 197 cls3 C (ltX (by decide +kernel : kdX 196 = 3) (by decide)) (by decide +kernel : kdX 196 = 3) (obX3 (by decide +kernel : kdX 196 = 3)) (by decide) (frX3_0 (by decide +kernel : kdX 196 = 3)) fl3_12 (by decide +kernel) ?_
        refine sm_seg C [(.iconst 3, 3)] (pc' := 72) (L' := [(4, .int (-1)), (3, .int r9), (2, .int r1), (0, .ref 196), (1, .int a1)]) (S' := [.int 3, .ref 197]) (by decide +kernel) rfl ?_
        refine sm_vcal [.int 3] [] rfl C mw_X6_isWord ml_3_73 rfl (ci := 6) rfl (ltX (krX3_0 (by decide +kernel : kdX 196 = 3)) (by decide)) (krX3_0 (by decide +kernel : kdX 196 = 3)) (by decide) ⟨by decide, by decide⟩ (Nat.le_of_ble_eq_true rfl) (by decide +kernel) (c_X6_isWord F 3 τ12) (fun r13 τ14 => ?_)
        refine sm_ifeq 99 (off := 24) C (by decide +kernel) (by decide) (fun _ => ?_) (fun _ => ?_)
        · exact sm_sub [3, 2, 1, 0] rfl (s_X3_readLawLine_j99 F C hr r1 r9 (-1) τ14)
        · refine sm_seg C [(.aload_n 0, 0)] (pc' := 79) (L' := [(4, .int (-1)), (3, .int r9), (2, .int r1), (0, .ref 196), (1, .int a1)]) (S' := [.ref 196]) (by decide +kernel) rfl ?_
          refine sm_getR 3 0 197 cls3 C (ltX (by decide +kernel : kdX 196 = 3) (by decide)) (by decide +kernel : kdX 196 = 3) (obX3 (by decide +kernel : kdX 196 = 3)) (by decide) (frX3_0 (by decide +kernel : kdX 196 = 3)) fl3_12 (by decide +kernel) ?_
          refine sm_vcalv [] [] rfl C mw_X6_skip ml_3_64 rfl (ci := 6) rfl (ltX (krX3_0 (by decide +kernel : kdX 196 = 3)) (by decide)) (krX3_0 (by decide +kernel : kdX 196 = 3)) (by decide) ⟨by decide, by decide⟩ (Nat.le_of_ble_eq_true rfl) (by decide +kernel) (c_X6_skip F τ14) (fun r19 τ20 => ?_)
          refine sm_seg C [(.aload_n 0, 0)] (pc' := 86) (L' := [(4, .int (-1)), (3, .int r9), (2, .int r1), (0, .ref 196), (1, .int a1)]) (S' := [.ref 196]) (by decide +kernel) rfl ?_
          refine sm_getR 3 1 203 cls3 C (ltX (by decide +kernel : kdX 196 = 3) (by decide)) (by decide +kernel : kdX 196 = 3) (obX3 (by decide +kernel : kdX 196 = 3)) (by decide) (frX3_1 (by decide +kernel : kdX 196 = 3)) fl3_21 (by decide +kernel) ?_
          refine sm_vcal [] [] rfl C mw_X2_here ml_3_67 rfl (ci := 2) rfl (ltX (krX3_1 (by decide +kernel : kdX 196 = 3)) (by decide)) (krX3_1 (by decide +kernel : kdX 196 = 3)) (by decide) ⟨by decide, by decide⟩ (Nat.le_of_ble_eq_true rfl) (by decide +kernel) (c_X2_here F 203 (krX3_1 (by decide +kernel : kdX 196 = 3)) τ20) (fun r21 τ22 => ?_)
          refine sm_seg C [(.istore 4, 0), (.aload_n 0, 0), (.iconst 0, 0)] (pc' := 96) (L' := [(4, .int r21), (3, .int r9), (2, .int r1), (0, .ref 196), (1, .int a1)]) (S' := [.int 0, .ref 196]) (by decide +kernel) rfl ?_
          refine sm_vcalv [.int 0] [] rfl C mw_X3_readAny ml_3_77 rfl (ci := 3) rfl (ltX (by decide +kernel : kdX 196 = 3) (by decide)) (by decide +kernel : kdX 196 = 3) (by decide) ⟨by decide, by decide⟩ (Nat.le_of_ble_eq_true rfl) (by decide +kernel) (c_X3_readAny F 12 0 τ22) (fun r23 τ24 => ?_)
          exact sm_sub [3, 2, 1, 0] rfl (s_X3_readLawLine_j99 F C hr r1 r9 r21 τ24)
      · refine sm_seg C [(.aload_n 0, 0)] (pc' := 35) (L' := [(2, .int r1), (0, .ref 196), (1, .int a1)]) (S' := [.ref 196]) (by decide +kernel) rfl ?_
        refine sm_getR 3 0 197 cls3 C (ltX (by decide +kernel : kdX 196 = 3) (by decide)) (by decide +kernel : kdX 196 = 3) (obX3 (by decide +kernel : kdX 196 = 3)) (by decide) (frX3_0 (by decide +kernel : kdX 196 = 3)) fl3_12 (by decide +kernel) ?_
        refine sm_seg C [(.iconst 3, 3)] (pc' := 39) (L' := [(2, .int r1), (0, .ref 196), (1, .int a1)]) (S' := [.int 3, .ref 197]) (by decide +kernel) rfl ?_
        refine sm_vcalv [.int 3] [] rfl C mw_X6_refuse ml_3_61 rfl (ci := 6) rfl (ltX (krX3_0 (by decide +kernel : kdX 196 = 3)) (by decide)) (krX3_0 (by decide +kernel : kdX 196 = 3)) (by decide) ⟨by decide, by decide⟩ (Nat.le_of_ble_eq_true rfl) (by decide +kernel) (c_X6_refuse F 3 τ4) (fun r25 τ26 => ?_)
        refine sm_seg C [(.goto 77, 0)] (pc' := 119) (L' := [(2, .int r1), (0, .ref 196), (1, .int a1)]) (S' := []) (by decide +kernel) rfl ?_
        exact sm_vret C hr (by decide +kernel)) h
/-! BasketEnvoys_Reader.readLaw -/
def X3_readLaw_j45 (F : Nat) (τ : Tau) : Option (Int32 × Tau) :=
  if (τ 197 1) = 0 then (some ((τ 203 0), τ)) else (some ((-1), τ))
theorem s_X3_readLaw_j45 (F : Nat) {K : Ctx} (C : Cx K sysX RX3 cX3_readLaw 2 31) (hr : Rt K (some .int)) (τ : Tau) : Sm K sysX 2 (Qi K sysX) (X3_readLaw_j45 F τ) 45 [(0, .ref 196)] [] τ := by
  unfold X3_readLaw_j45
  refine sm_seg C [(.aload_n 0, 0)] (pc' := 46) (L' := [(0, .ref 196)]) (S' := [.ref 196]) (by decide +kernel) rfl ?_
  refine sm_getR 3 0 197 cls3 C (ltX (by decide +kernel : kdX 196 = 3) (by decide)) (by decide +kernel : kdX 196 = 3) (obX3 (by decide +kernel : kdX 196 = 3)) (by decide) (frX3_0 (by decide +kernel : kdX 196 = 3)) fl3_12 (by decide +kernel) ?_
  refine sm_getI 6 1 cls6 C (ltX (krX3_0 (by decide +kernel : kdX 196 = 3)) (by decide)) (krX3_0 (by decide +kernel : kdX 196 = 3)) (obX6 (krX3_0 (by decide +kernel : kdX 196 = 3))) (by decide) (fiX6_1 (krX3_0 (by decide +kernel : kdX 196 = 3))) fl3_46 (by decide +kernel) ?_
  refine sm_ifne 65 (off := 13) C (by decide +kernel) (by decide) (fun _ => ?_) (fun _ => ?_)
  · refine sm_seg C [(.aload_n 0, 0)] (pc' := 56) (L' := [(0, .ref 196)]) (S' := [.ref 196]) (by decide +kernel) rfl ?_
    refine sm_getR 3 1 203 cls3 C (ltX (by decide +kernel : kdX 196 = 3) (by decide)) (by decide +kernel : kdX 196 = 3) (obX3 (by decide +kernel : kdX 196 = 3)) (by decide) (frX3_1 (by decide +kernel : kdX 196 = 3)) fl3_21 (by decide +kernel) ?_
    refine sm_getI 2 0 cls2 C (ltX (krX3_1 (by decide +kernel : kdX 196 = 3)) (by decide)) (krX3_1 (by decide +kernel : kdX 196 = 3)) (obX2 (krX3_1 (by decide +kernel : kdX 196 = 3))) (by decide) (fiX2_0 (krX3_1 (by decide +kernel : kdX 196 = 3))) fl3_50 (by decide +kernel) ?_
    refine sm_seg C [(.goto 4, 0)] (pc' := 66) (L' := [(0, .ref 196)]) (S' := [.int (τ 203 0)]) (by decide +kernel) rfl ?_
    exact sm_iret C hr rfl (by decide +kernel)
  · refine sm_seg C [(.iconst (-1), (-1))] (pc' := 66) (L' := [(0, .ref 196)]) (S' := [.int (-1)]) (by decide +kernel) rfl ?_
    exact sm_iret C hr rfl (by decide +kernel)
def X3_readLaw_L18 (F : Nat) : Nat → Int32 → Tau → Option (Int32 × Tau)
  | 0, _, _ => none
  | n + 1, a1, τ =>
    if 16 < a1 then (X3_readLaw_j45 F τ) else (cal (X6_goesOn F τ) fun r5 τ6 => if r5 = 0 then (X3_readLaw_j45 F τ6) else (cal (X3_readLawLine F a1 τ6) fun r7 τ8 => X3_readLaw_L18 F n (a1 + 1) τ8))
theorem s_X3_readLaw_L18 (F : Nat) {K : Ctx} (C : Cx K sysX RX3 cX3_readLaw 2 31) (hr : Rt K (some .int)) : ∀ (n : Nat) (a1 : Int32) (τ : Tau), Sm K sysX 2 (Qi K sysX) (X3_readLaw_L18 F n a1 τ) 18 [(0, .ref 196), (1, .int a1)] [] τ := by
  intro n
  induction n with
  | zero => intro a1 τ; exact sm_none
  | succ n ih =>
    intro a1 τ
    rw [X3_readLaw_L18]
    refine sm_seg C [(.iload_n 1, 0), (.bipush 16, 16)] (pc' := 21) (L' := [(0, .ref 196), (1, .int a1)]) (S' := [.int 16, .int a1]) (by decide +kernel) rfl ?_
    refine sm_icmpgt 45 (off := 24) C (by decide +kernel) (by decide) (fun _ => ?_) (fun _ => ?_)
    · exact sm_sub [0] rfl (s_X3_readLaw_j45 F C hr τ)
    · refine sm_seg C [(.aload_n 0, 0)] (pc' := 25) (L' := [(0, .ref 196), (1, .int a1)]) (S' := [.ref 196]) (by decide +kernel) rfl ?_
      refine sm_getR 3 0 197 cls3 C (ltX (by decide +kernel : kdX 196 = 3) (by decide)) (by decide +kernel : kdX 196 = 3) (obX3 (by decide +kernel : kdX 196 = 3)) (by decide) (frX3_0 (by decide +kernel : kdX 196 = 3)) fl3_12 (by decide +kernel) ?_
      refine sm_vcal [] [] rfl C mw_X6_goesOn ml_3_38 rfl (ci := 6) rfl (ltX (krX3_0 (by decide +kernel : kdX 196 = 3)) (by decide)) (krX3_0 (by decide +kernel : kdX 196 = 3)) (by decide) ⟨by decide, by decide⟩ (Nat.le_of_ble_eq_true rfl) (by decide +kernel) (c_X6_goesOn F τ) (fun r5 τ6 => ?_)
      refine sm_ifeq 45 (off := 14) C (by decide +kernel) (by decide) (fun _ => ?_) (fun _ => ?_)
      · exact sm_sub [0] rfl (s_X3_readLaw_j45 F C hr τ6)
      · refine sm_seg C [(.aload_n 0, 0), (.iload_n 1, 0)] (pc' := 36) (L' := [(0, .ref 196), (1, .int a1)]) (S' := [.int a1, .ref 196]) (by decide +kernel) rfl ?_
        refine sm_vcalv [.int a1] [] rfl C mw_X3_readLawLine ml_3_42 rfl (ci := 3) rfl (ltX (by decide +kernel : kdX 196 = 3) (by decide)) (by decide +kernel : kdX 196 = 3) (by decide) ⟨by decide, by decide⟩ (Nat.le_of_ble_eq_true rfl) (by decide +kernel) (c_X3_readLawLine F a1 τ6) (fun r7 τ8 => ?_)
        refine sm_seg C [(.iinc 1 1, 1), (.goto (-24), 0)] (pc' := 18) (L' := [(1, .int (a1 + 1)), (0, .ref 196)]) (S' := []) (by decide +kernel) rfl ?_
        exact sm_sub [1, 0] rfl (ih (a1 + 1) τ8)
def X3_readLaw (F : Nat) (τ : Tau) : Option (Int32 × Tau) :=
  cal (X6_scan F 0 τ) fun r1 τ2 => cal (X2_clear F 203 τ2) fun r3 τ4 => X3_readLaw_L18 F F 0 τ4
set_option maxRecDepth 20000 in
set_option maxHeartbeats 4000000 in
theorem c_X3_readLaw (F : Nat) (τ : Tau) (r : Int32) (τ' : Tau) (h : X3_readLaw F τ = some (r, τ')) : MCi sysX yX3_readLaw cX3_readLaw 2 (some .int) 31 [.ref 196] τ r τ' :=
  mci_of (by decide +kernel) (Nat.le_of_ble_eq_true rfl) (fun K C hr => by
    show Sm K sysX 2 (Qi K sysX) (X3_readLaw F τ) 0 [(0, .ref 196)] [] τ
    unfold X3_readLaw
    refine sm_seg C [(.aload_n 0, 0)] (pc' := 1) (L' := [(0, .ref 196)]) (S' := [.ref 196]) (by decide +kernel) rfl ?_
    refine sm_getR 3 0 197 cls3 C (ltX (by decide +kernel : kdX 196 = 3) (by decide)) (by decide +kernel : kdX 196 = 3) (obX3 (by decide +kernel : kdX 196 = 3)) (by decide) (frX3_0 (by decide +kernel : kdX 196 = 3)) fl3_12 (by decide +kernel) ?_
    refine sm_ldcS C st_0 (by decide +kernel) ?_
    refine sm_vcalv [.ref (100000 + 0)] [] rfl C mw_X6_scan ml_3_31 rfl (ci := 6) rfl (ltX (krX3_0 (by decide +kernel : kdX 196 = 3)) (by decide)) (krX3_0 (by decide +kernel : kdX 196 = 3)) (by decide) ⟨by decide, by decide⟩ (Nat.le_of_ble_eq_true rfl) (by decide +kernel) (c_X6_scan F 0 (by decide : 0 < 30) τ) (fun r1 τ2 => ?_)
    refine sm_seg C [(.aload_n 0, 0)] (pc' := 10) (L' := [(0, .ref 196)]) (S' := [.ref 196]) (by decide +kernel) rfl ?_
    refine sm_getR 3 1 203 cls3 C (ltX (by decide +kernel : kdX 196 = 3) (by decide)) (by decide +kernel : kdX 196 = 3) (obX3 (by decide +kernel : kdX 196 = 3)) (by decide) (frX3_1 (by decide +kernel : kdX 196 = 3)) fl3_21 (by decide +kernel) ?_
    refine sm_vcalv [] [] rfl C mw_X2_clear ml_3_35 rfl (ci := 2) rfl (ltX (krX3_1 (by decide +kernel : kdX 196 = 3)) (by decide)) (krX3_1 (by decide +kernel : kdX 196 = 3)) (by decide) ⟨by decide, by decide⟩ (Nat.le_of_ble_eq_true rfl) (by decide +kernel) (c_X2_clear F 203 (krX3_1 (by decide +kernel : kdX 196 = 3)) τ2) (fun r3 τ4 => ?_)
    refine sm_seg C [(.iconst 0, 0), (.istore_n 1, 0)] (pc' := 18) (L' := [(1, .int 0), (0, .ref 196)]) (S' := []) (by decide +kernel) rfl ?_
    exact sm_sub [1, 0] rfl (s_X3_readLaw_L18 F C hr F 0 τ4)) h
/-! BasketEnvoys_Tokens.takeWord -/
def X6_takeWord (F : Nat) (a1 : Int32) (τ : Tau) : Option (Int32 × Tau) :=
  cal (X6_isWord F a1 τ) fun r1 τ2 => if r1 = 0 then (cal (X6_refuse F 1 τ2) fun r3 τ4 => some (0, τ4)) else (cal (X6_skip F τ2) fun r5 τ6 => some (0, τ6))
set_option maxRecDepth 20000 in
set_option maxHeartbeats 4000000 in
theorem c_X6_takeWord (F : Nat) (a1 : Int32) (τ : Tau) (r : Int32) (τ' : Tau) (h : X6_takeWord F a1 τ = some (r, τ')) : MCv sysX yX6_takeWord cX6_takeWord 2 2 [.ref 197, .int a1] τ τ' :=
  mcv_of (by decide +kernel) (Nat.le_of_ble_eq_true rfl) (fun K C hr => by
    show Sm K sysX 2 (Qv K sysX) (X6_takeWord F a1 τ) 0 [(0, .ref 197), (1, .int a1)] [] τ
    unfold X6_takeWord
    refine sm_seg C [(.aload_n 0, 0), (.iload_n 1, 0)] (pc' := 2) (L' := [(0, .ref 197), (1, .int a1)]) (S' := [.int a1, .ref 197]) (by decide +kernel) rfl ?_
    refine sm_vcal [.int a1] [] rfl C mw_X6_isWord ml_6_106 rfl (ci := 6) rfl (ltX (by decide +kernel : kdX 197 = 6) (by decide)) (by decide +kernel : kdX 197 = 6) (by decide) ⟨by decide, by decide⟩ (Nat.le_of_ble_eq_true rfl) (by decide +kernel) (c_X6_isWord F a1 τ) (fun r1 τ2 => ?_)
    refine sm_ifeq 15 (off := 10) C (by decide +kernel) (by decide) (fun _ => ?_) (fun _ => ?_)
    · refine sm_seg C [(.aload_n 0, 0), (.iconst 1, 1)] (pc' := 17) (L' := [(0, .ref 197), (1, .int a1)]) (S' := [.int 1, .ref 197]) (by decide +kernel) rfl ?_
      refine sm_vcalv [.int 1] [] rfl C mw_X6_refuse ml_6_110 rfl (ci := 6) rfl (ltX (by decide +kernel : kdX 197 = 6) (by decide)) (by decide +kernel : kdX 197 = 6) (by decide) ⟨by decide, by decide⟩ (Nat.le_of_ble_eq_true rfl) (by decide +kernel) (c_X6_refuse F 1 τ2) (fun r3 τ4 => ?_)
      exact sm_vret C hr (by decide +kernel)
    · refine sm_seg C [(.aload_n 0, 0)] (pc' := 9) (L' := [(0, .ref 197), (1, .int a1)]) (S' := [.ref 197]) (by decide +kernel) rfl ?_
      refine sm_vcalv [] [] rfl C mw_X6_skip ml_6_68 rfl (ci := 6) rfl (ltX (by decide +kernel : kdX 197 = 6) (by decide)) (by decide +kernel : kdX 197 = 6) (by decide) ⟨by decide, by decide⟩ (Nat.le_of_ble_eq_true rfl) (by decide +kernel) (c_X6_skip F τ2) (fun r5 τ6 => ?_)
      refine sm_seg C [(.goto 8, 0)] (pc' := 20) (L' := [(0, .ref 197), (1, .int a1)]) (S' := []) (by decide +kernel) rfl ?_
      exact sm_vret C hr (by decide +kernel)) h
/-! BasketEnvoys_Reader.readTongue -/
def X3_readTongue (F : Nat) (t2 : Nat) (a1 : Int32) (τ : Tau) : Option (Int32 × Tau) :=
  cal (X6_takeNumber F 0 ((τ t2 0) - 1) τ) fun r1 τ2 => cal (X10_put F 210 a1 r1 1 τ2) fun r3 τ4 => cal (X6_takeWord F 1 τ4) fun r5 τ6 => cal (X6_takeNumber F 0 11 τ6) fun r7 τ8 => cal (X10_put F 210 (a1 + 1) r7 1 τ8) fun r9 τ10 => cal (X6_takeWord F 2 τ10) fun r11 τ12 => cal (X6_takeNumber F 0 15 τ12) fun r13 τ14 => cal (X10_put F 210 (a1 + 2) r13 1 τ14) fun r15 τ16 => some (0, τ16)
set_option maxRecDepth 20000 in
set_option maxHeartbeats 4000000 in
theorem c_X3_readTongue (F : Nat) (t2 : Nat) (h2 : kdX t2 = 8) (a1 : Int32) (τ : Tau) (r : Int32) (τ' : Tau) (h : X3_readTongue F t2 a1 τ = some (r, τ')) : MCv sysX yX3_readTongue cX3_readTongue 3 3 [.ref 196, .int a1, .ref t2] τ τ' :=
  mcv_of (by decide +kernel) (Nat.le_of_ble_eq_true rfl) (fun K C hr => by
    show Sm K sysX 3 (Qv K sysX) (X3_readTongue F t2 a1 τ) 0 [(0, .ref 196), (1, .int a1), (2, .ref t2)] [] τ
    unfold X3_readTongue
    refine sm_seg C [(.aload_n 0, 0)] (pc' := 1) (L' := [(0, .ref 196), (1, .int a1), (2, .ref t2)]) (S' := [.ref 196]) (by decide +kernel) rfl ?_
    refine sm_getR 3 2 210 cls3 C (ltX (by decide +kernel : kdX 196 = 3) (by decide)) (by decide +kernel : kdX 196 = 3) (obX3 (by decide +kernel : kdX 196 = 3)) (by decide) (frX3_2 (by decide +kernel : kdX 196 = 3)) fl3_25 (by decide +kernel) ?_
    refine sm_seg C [(.iload_n 1, 0), (.aload_n 0, 0)] (pc' := 6) (L' := [(0, .ref 196), (1, .int a1), (2, .ref t2)]) (S' := [.ref 196, .int a1, .ref 210]) (by decide +kernel) rfl ?_
    refine sm_getR 3 0 197 cls3 C (ltX (by decide +kernel : kdX 196 = 3) (by decide)) (by decide +kernel : kdX 196 = 3) (obX3 (by decide +kernel : kdX 196 = 3)) (by decide) (frX3_0 (by decide +kernel : kdX 196 = 3)) fl3_12 (by decide +kernel) ?_
    refine sm_seg C [(.iconst 0, 0), (.aload_n 2, 0)] (pc' := 11) (L' := [(0, .ref 196), (1, .int a1), (2, .ref t2)]) (S' := [.ref t2, .int 0, .ref 197, .int a1, .ref 210]) (by decide +kernel) rfl ?_
    refine sm_getI 8 0 cls8 C (ltX h2 (by decide)) h2 (obX8 h2) (by decide) (fiX8_0 h2) fl3_145 (by decide +kernel) ?_
    refine sm_seg C [(.iconst 1, 1), (.isub, 0)] (pc' := 16) (L' := [(0, .ref 196), (1, .int a1), (2, .ref t2)]) (S' := [.int ((τ t2 0) - 1), .int 0, .ref 197, .int a1, .ref 210]) (by decide +kernel) rfl ?_
    refine sm_vcal [.int 0, .int ((τ t2 0) - 1)] [.int a1, .ref 210] rfl C mw_X6_takeNumber ml_3_112 rfl (ci := 6) rfl (ltX (krX3_0 (by decide +kernel : kdX 196 = 3)) (by decide)) (krX3_0 (by decide +kernel : kdX 196 = 3)) (by decide) ⟨by decide, by decide⟩ (Nat.le_of_ble_eq_true rfl) (by decide +kernel) (c_X6_takeNumber F 0 ((τ t2 0) - 1) τ) (fun r1 τ2 => ?_)
    refine sm_seg C [(.iconst 1, 1)] (pc' := 20) (L' := [(0, .ref 196), (1, .int a1), (2, .ref t2)]) (S' := [.int 1, .int r1, .int a1, .ref 210]) (by decide +kernel) rfl ?_
    refine sm_ncal "BasketEnvoys" [.ref 210, .int a1, .int r1, .int 1] [] rfl C mw_X10_put ml_3_150 rfl ⟨by decide, by decide⟩ (Nat.le_of_ble_eq_true rfl) (by decide +kernel) (c_X10_put F 210 (krX3_2 (by decide +kernel : kdX 196 = 3)) a1 r1 1 τ2) (fun r3 τ4 => ?_)
    refine sm_seg C [(.pop, 0), (.aload_n 0, 0)] (pc' := 25) (L' := [(0, .ref 196), (1, .int a1), (2, .ref t2)]) (S' := [.ref 196]) (by decide +kernel) rfl ?_
    refine sm_getR 3 0 197 cls3 C (ltX (by decide +kernel : kdX 196 = 3) (by decide)) (by decide +kernel : kdX 196 = 3) (obX3 (by decide +kernel : kdX 196 = 3)) (by decide) (frX3_0 (by decide +kernel : kdX 196 = 3)) fl3_12 (by decide +kernel) ?_
    refine sm_seg C [(.iconst 1, 1)] (pc' := 29) (L' := [(0, .ref 196), (1, .int a1), (2, .ref t2)]) (S' := [.int 1, .ref 197]) (by decide +kernel) rfl ?_
    refine sm_vcalv [.int 1] [] rfl C mw_X6_takeWord ml_3_154 rfl (ci := 6) rfl (ltX (krX3_0 (by decide +kernel : kdX 196 = 3)) (by decide)) (krX3_0 (by decide +kernel : kdX 196 = 3)) (by decide) ⟨by decide, by decide⟩ (Nat.le_of_ble_eq_true rfl) (by decide +kernel) (c_X6_takeWord F 1 τ4) (fun r5 τ6 => ?_)
    refine sm_seg C [(.aload_n 0, 0)] (pc' := 33) (L' := [(0, .ref 196), (1, .int a1), (2, .ref t2)]) (S' := [.ref 196]) (by decide +kernel) rfl ?_
    refine sm_getR 3 2 210 cls3 C (ltX (by decide +kernel : kdX 196 = 3) (by decide)) (by decide +kernel : kdX 196 = 3) (obX3 (by decide +kernel : kdX 196 = 3)) (by decide) (frX3_2 (by decide +kernel : kdX 196 = 3)) fl3_25 (by decide +kernel) ?_
    refine sm_seg C [(.iload_n 1, 0), (.iconst 1, 1), (.iadd, 0), (.aload_n 0, 0)] (pc' := 40) (L' := [(0, .ref 196), (1, .int a1), (2, .ref t2)]) (S' := [.ref 196, .int (a1 + 1), .ref 210]) (by decide +kernel) rfl ?_
    refine sm_getR 3 0 197 cls3 C (ltX (by decide +kernel : kdX 196 = 3) (by decide)) (by decide +kernel : kdX 196 = 3) (obX3 (by decide +kernel : kdX 196 = 3)) (by decide) (frX3_0 (by decide +kernel : kdX 196 = 3)) fl3_12 (by decide +kernel) ?_
    refine sm_seg C [(.iconst 0, 0), (.bipush 11, 11)] (pc' := 46) (L' := [(0, .ref 196), (1, .int a1), (2, .ref t2)]) (S' := [.int 11, .int 0, .ref 197, .int (a1 + 1), .ref 210]) (by decide +kernel) rfl ?_
    refine sm_vcal [.int 0, .int 11] [.int (a1 + 1), .ref 210] rfl C mw_X6_takeNumber ml_3_112 rfl (ci := 6) rfl (ltX (krX3_0 (by decide +kernel : kdX 196 = 3)) (by decide)) (krX3_0 (by decide +kernel : kdX 196 = 3)) (by decide) ⟨by decide, by decide⟩ (Nat.le_of_ble_eq_true rfl) (by decide +kernel) (c_X6_takeNumber F 0 11 τ6) (fun r7 τ8 => ?_)
    refine sm_seg C [(.iconst 1, 1)] (pc' := 50) (L' := [(0, .ref 196), (1, .int a1), (2, .ref t2)]) (S' := [.int 1, .int r7, .int (a1 + 1), .ref 210]) (by decide +kernel) rfl ?_
    refine sm_ncal "BasketEnvoys" [.ref 210, .int (a1 + 1), .int r7, .int 1] [] rfl C mw_X10_put ml_3_150 rfl ⟨by decide, by decide⟩ (Nat.le_of_ble_eq_true rfl) (by decide +kernel) (c_X10_put F 210 (krX3_2 (by decide +kernel : kdX 196 = 3)) (a1 + 1) r7 1 τ8) (fun r9 τ10 => ?_)
    refine sm_seg C [(.pop, 0), (.aload_n 0, 0)] (pc' := 55) (L' := [(0, .ref 196), (1, .int a1), (2, .ref t2)]) (S' := [.ref 196]) (by decide +kernel) rfl ?_
    refine sm_getR 3 0 197 cls3 C (ltX (by decide +kernel : kdX 196 = 3) (by decide)) (by decide +kernel : kdX 196 = 3) (obX3 (by decide +kernel : kdX 196 = 3)) (by decide) (frX3_0 (by decide +kernel : kdX 196 = 3)) fl3_12 (by decide +kernel) ?_
    refine sm_seg C [(.iconst 2, 2)] (pc' := 59) (L' := [(0, .ref 196), (1, .int a1), (2, .ref t2)]) (S' := [.int 2, .ref 197]) (by decide +kernel) rfl ?_
    refine sm_vcalv [.int 2] [] rfl C mw_X6_takeWord ml_3_154 rfl (ci := 6) rfl (ltX (krX3_0 (by decide +kernel : kdX 196 = 3)) (by decide)) (krX3_0 (by decide +kernel : kdX 196 = 3)) (by decide) ⟨by decide, by decide⟩ (Nat.le_of_ble_eq_true rfl) (by decide +kernel) (c_X6_takeWord F 2 τ10) (fun r11 τ12 => ?_)
    refine sm_seg C [(.aload_n 0, 0)] (pc' := 63) (L' := [(0, .ref 196), (1, .int a1), (2, .ref t2)]) (S' := [.ref 196]) (by decide +kernel) rfl ?_
    refine sm_getR 3 2 210 cls3 C (ltX (by decide +kernel : kdX 196 = 3) (by decide)) (by decide +kernel : kdX 196 = 3) (obX3 (by decide +kernel : kdX 196 = 3)) (by decide) (frX3_2 (by decide +kernel : kdX 196 = 3)) fl3_25 (by decide +kernel) ?_
    refine sm_seg C [(.iload_n 1, 0), (.iconst 2, 2), (.iadd, 0), (.aload_n 0, 0)] (pc' := 70) (L' := [(0, .ref 196), (1, .int a1), (2, .ref t2)]) (S' := [.ref 196, .int (a1 + 2), .ref 210]) (by decide +kernel) rfl ?_
    refine sm_getR 3 0 197 cls3 C (ltX (by decide +kernel : kdX 196 = 3) (by decide)) (by decide +kernel : kdX 196 = 3) (obX3 (by decide +kernel : kdX 196 = 3)) (by decide) (frX3_0 (by decide +kernel : kdX 196 = 3)) fl3_12 (by decide +kernel) ?_
    refine sm_seg C [(.iconst 0, 0), (.bipush 15, 15)] (pc' := 76) (L' := [(0, .ref 196), (1, .int a1), (2, .ref t2)]) (S' := [.int 15, .int 0, .ref 197, .int (a1 + 2), .ref 210]) (by decide +kernel) rfl ?_
    refine sm_vcal [.int 0, .int 15] [.int (a1 + 2), .ref 210] rfl C mw_X6_takeNumber ml_3_112 rfl (ci := 6) rfl (ltX (krX3_0 (by decide +kernel : kdX 196 = 3)) (by decide)) (krX3_0 (by decide +kernel : kdX 196 = 3)) (by decide) ⟨by decide, by decide⟩ (Nat.le_of_ble_eq_true rfl) (by decide +kernel) (c_X6_takeNumber F 0 15 τ12) (fun r13 τ14 => ?_)
    refine sm_seg C [(.iconst 1, 1)] (pc' := 80) (L' := [(0, .ref 196), (1, .int a1), (2, .ref t2)]) (S' := [.int 1, .int r13, .int (a1 + 2), .ref 210]) (by decide +kernel) rfl ?_
    refine sm_ncal "BasketEnvoys" [.ref 210, .int (a1 + 2), .int r13, .int 1] [] rfl C mw_X10_put ml_3_150 rfl ⟨by decide, by decide⟩ (Nat.le_of_ble_eq_true rfl) (by decide +kernel) (c_X10_put F 210 (krX3_2 (by decide +kernel : kdX 196 = 3)) (a1 + 2) r13 1 τ14) (fun r15 τ16 => ?_)
    refine sm_seg C [(.pop, 0)] (pc' := 84) (L' := [(0, .ref 196), (1, .int a1), (2, .ref t2)]) (S' := []) (by decide +kernel) rfl ?_
    exact sm_vret C hr (by decide +kernel)) h
/-! BasketEnvoys_Reader.readCourt -/
def X3_readCourt_j87 (F : Nat) (t2 : Nat) (a1 : Int32) (a3 : Int32) (z0 : Int32) (τ : Tau) : Option (Int32 × Tau) :=
  cal (X6_takeNumber F 0 z0 τ) fun r15 τ16 => cal (X10_put F 210 (a1 + 2) r15 1 τ16) fun r17 τ18 => if a3 = 1 then (cal (X6_takeNumber F 0 ((τ18 t2 0) - 1) τ18) fun r19 τ20 => cal (X10_put F 210 (a1 + 3) r19 1 τ20) fun r21 τ22 => some (0, τ22)) else if a3 = 2 then (some (0, τ18)) else if a3 = 3 then (cal (X6_takeNumber F 1 99 τ18) fun r23 τ24 => cal (X10_put F 210 (a1 + 3) r23 1 τ24) fun r25 τ26 => some (0, τ26)) else if a3 = 4 then (cal (X6_takeNumber F 0 9 τ18) fun r27 τ28 => cal (X10_put F 210 (a1 + 3) r27 1 τ28) fun r29 τ30 => some (0, τ30)) else (some (0, τ18))
theorem s_X3_readCourt_j87 (F : Nat) (t2 : Nat) {K : Ctx} (C : Cx K sysX RX3 cX3_readCourt 5 3) (hr : Rt K none) (h2 : kdX t2 = 8) (a1 : Int32) (a3 : Int32) (z0 : Int32) (τ : Tau) : Sm K sysX 5 (Qv K sysX) (X3_readCourt_j87 F t2 a1 a3 z0 τ) 87 [(0, .ref 196), (1, .int a1), (2, .ref t2), (3, .int a3)] [.int z0] τ := by
  unfold X3_readCourt_j87
  refine sm_seg C [(.istore 4, 0), (.aload_n 0, 0)] (pc' := 90) (L' := [(4, .int z0), (0, .ref 196), (1, .int a1), (2, .ref t2), (3, .int a3)]) (S' := [.ref 196]) (by decide +kernel) rfl ?_
  refine sm_getR 3 2 210 cls3 C (ltX (by decide +kernel : kdX 196 = 3) (by decide)) (by decide +kernel : kdX 196 = 3) (obX3 (by decide +kernel : kdX 196 = 3)) (by decide) (frX3_2 (by decide +kernel : kdX 196 = 3)) fl3_25 (by decide +kernel) ?_
  refine sm_seg C [(.iload_n 1, 0), (.iconst 2, 2), (.iadd, 0), (.aload_n 0, 0)] (pc' := 97) (L' := [(4, .int z0), (0, .ref 196), (1, .int a1), (2, .ref t2), (3, .int a3)]) (S' := [.ref 196, .int (a1 + 2), .ref 210]) (by decide +kernel) rfl ?_
  refine sm_getR 3 0 197 cls3 C (ltX (by decide +kernel : kdX 196 = 3) (by decide)) (by decide +kernel : kdX 196 = 3) (obX3 (by decide +kernel : kdX 196 = 3)) (by decide) (frX3_0 (by decide +kernel : kdX 196 = 3)) fl3_12 (by decide +kernel) ?_
  refine sm_seg C [(.iconst 0, 0), (.iload 4, 0)] (pc' := 103) (L' := [(4, .int z0), (0, .ref 196), (1, .int a1), (2, .ref t2), (3, .int a3)]) (S' := [.int z0, .int 0, .ref 197, .int (a1 + 2), .ref 210]) (by decide +kernel) rfl ?_
  refine sm_vcal [.int 0, .int z0] [.int (a1 + 2), .ref 210] rfl C mw_X6_takeNumber ml_3_112 rfl (ci := 6) rfl (ltX (krX3_0 (by decide +kernel : kdX 196 = 3)) (by decide)) (krX3_0 (by decide +kernel : kdX 196 = 3)) (by decide) ⟨by decide, by decide⟩ (Nat.le_of_ble_eq_true rfl) (by decide +kernel) (c_X6_takeNumber F 0 z0 τ) (fun r15 τ16 => ?_)
  refine sm_seg C [(.iconst 1, 1)] (pc' := 107) (L' := [(4, .int z0), (0, .ref 196), (1, .int a1), (2, .ref t2), (3, .int a3)]) (S' := [.int 1, .int r15, .int (a1 + 2), .ref 210]) (by decide +kernel) rfl ?_
  refine sm_ncal "BasketEnvoys" [.ref 210, .int (a1 + 2), .int r15, .int 1] [] rfl C mw_X10_put ml_3_150 rfl ⟨by decide, by decide⟩ (Nat.le_of_ble_eq_true rfl) (by decide +kernel) (c_X10_put F 210 (krX3_2 (by decide +kernel : kdX 196 = 3)) (a1 + 2) r15 1 τ16) (fun r17 τ18 => ?_)
  refine sm_seg C [(.pop, 0), (.iload_n 3, 0)] (pc' := 112) (L' := [(4, .int z0), (0, .ref 196), (1, .int a1), (2, .ref t2), (3, .int a3)]) (S' := [.int a3]) (by decide +kernel) rfl ?_
  have hd112 : decode cX3_readCourt 112 = .ok (.tableswitch 111 1 4 #[32, 111, 61, 86], 32) := by decide +kernel
  refine sm_ite (fun e => ?_) (fun n112_0 => ?_)
  · refine sm_tabIn (off := 32) 144 C hd112 (by rw [e]; decide) (by rw [e]; decide) (by rw [e]; decide) (by decide) ?_
    refine sm_seg C [(.aload_n 0, 0)] (pc' := 145) (L' := [(4, .int z0), (0, .ref 196), (1, .int a1), (2, .ref t2), (3, .int a3)]) (S' := [.ref 196]) (by decide +kernel) rfl ?_
    refine sm_getR 3 2 210 cls3 C (ltX (by decide +kernel : kdX 196 = 3) (by decide)) (by decide +kernel : kdX 196 = 3) (obX3 (by decide +kernel : kdX 196 = 3)) (by decide) (frX3_2 (by decide +kernel : kdX 196 = 3)) fl3_25 (by decide +kernel) ?_
    refine sm_seg C [(.iload_n 1, 0), (.iconst 3, 3), (.iadd, 0), (.aload_n 0, 0)] (pc' := 152) (L' := [(4, .int z0), (0, .ref 196), (1, .int a1), (2, .ref t2), (3, .int a3)]) (S' := [.ref 196, .int (a1 + 3), .ref 210]) (by decide +kernel) rfl ?_
    refine sm_getR 3 0 197 cls3 C (ltX (by decide +kernel : kdX 196 = 3) (by decide)) (by decide +kernel : kdX 196 = 3) (obX3 (by decide +kernel : kdX 196 = 3)) (by decide) (frX3_0 (by decide +kernel : kdX 196 = 3)) fl3_12 (by decide +kernel) ?_
    refine sm_seg C [(.iconst 0, 0), (.aload_n 2, 0)] (pc' := 157) (L' := [(4, .int z0), (0, .ref 196), (1, .int a1), (2, .ref t2), (3, .int a3)]) (S' := [.ref t2, .int 0, .ref 197, .int (a1 + 3), .ref 210]) (by decide +kernel) rfl ?_
    refine sm_getI 8 0 cls8 C (ltX h2 (by decide)) h2 (obX8 h2) (by decide) (fiX8_0 h2) fl3_145 (by decide +kernel) ?_
    refine sm_seg C [(.iconst 1, 1), (.isub, 0)] (pc' := 162) (L' := [(4, .int z0), (0, .ref 196), (1, .int a1), (2, .ref t2), (3, .int a3)]) (S' := [.int ((τ18 t2 0) - 1), .int 0, .ref 197, .int (a1 + 3), .ref 210]) (by decide +kernel) rfl ?_
    refine sm_vcal [.int 0, .int ((τ18 t2 0) - 1)] [.int (a1 + 3), .ref 210] rfl C mw_X6_takeNumber ml_3_112 rfl (ci := 6) rfl (ltX (krX3_0 (by decide +kernel : kdX 196 = 3)) (by decide)) (krX3_0 (by decide +kernel : kdX 196 = 3)) (by decide) ⟨by decide, by decide⟩ (Nat.le_of_ble_eq_true rfl) (by decide +kernel) (c_X6_takeNumber F 0 ((τ18 t2 0) - 1) τ18) (fun r19 τ20 => ?_)
    refine sm_seg C [(.iconst 1, 1)] (pc' := 166) (L' := [(4, .int z0), (0, .ref 196), (1, .int a1), (2, .ref t2), (3, .int a3)]) (S' := [.int 1, .int r19, .int (a1 + 3), .ref 210]) (by decide +kernel) rfl ?_
    refine sm_ncal "BasketEnvoys" [.ref 210, .int (a1 + 3), .int r19, .int 1] [] rfl C mw_X10_put ml_3_150 rfl ⟨by decide, by decide⟩ (Nat.le_of_ble_eq_true rfl) (by decide +kernel) (c_X10_put F 210 (krX3_2 (by decide +kernel : kdX 196 = 3)) (a1 + 3) r19 1 τ20) (fun r21 τ22 => ?_)
    refine sm_seg C [(.pop, 0), (.goto 53, 0)] (pc' := 223) (L' := [(4, .int z0), (0, .ref 196), (1, .int a1), (2, .ref t2), (3, .int a3)]) (S' := []) (by decide +kernel) rfl ?_
    exact sm_vret C hr (by decide +kernel)
  refine sm_ite (fun e => ?_) (fun n112_1 => ?_)
  · refine sm_tabIn (off := 111) 223 C hd112 (by rw [e]; decide) (by rw [e]; decide) (by rw [e]; decide) (by decide) ?_
    exact sm_vret C hr (by decide +kernel)
  refine sm_ite (fun e => ?_) (fun n112_2 => ?_)
  · refine sm_tabIn (off := 61) 173 C hd112 (by rw [e]; decide) (by rw [e]; decide) (by rw [e]; decide) (by decide) ?_
    refine sm_seg C [(.aload_n 0, 0)] (pc' := 174) (L' := [(4, .int z0), (0, .ref 196), (1, .int a1), (2, .ref t2), (3, .int a3)]) (S' := [.ref 196]) (by decide +kernel) rfl ?_
    refine sm_getR 3 2 210 cls3 C (ltX (by decide +kernel : kdX 196 = 3) (by decide)) (by decide +kernel : kdX 196 = 3) (obX3 (by decide +kernel : kdX 196 = 3)) (by decide) (frX3_2 (by decide +kernel : kdX 196 = 3)) fl3_25 (by decide +kernel) ?_
    refine sm_seg C [(.iload_n 1, 0), (.iconst 3, 3), (.iadd, 0), (.aload_n 0, 0)] (pc' := 181) (L' := [(4, .int z0), (0, .ref 196), (1, .int a1), (2, .ref t2), (3, .int a3)]) (S' := [.ref 196, .int (a1 + 3), .ref 210]) (by decide +kernel) rfl ?_
    refine sm_getR 3 0 197 cls3 C (ltX (by decide +kernel : kdX 196 = 3) (by decide)) (by decide +kernel : kdX 196 = 3) (obX3 (by decide +kernel : kdX 196 = 3)) (by decide) (frX3_0 (by decide +kernel : kdX 196 = 3)) fl3_12 (by decide +kernel) ?_
    refine sm_seg C [(.iconst 1, 1), (.bipush 99, 99)] (pc' := 187) (L' := [(4, .int z0), (0, .ref 196), (1, .int a1), (2, .ref t2), (3, .int a3)]) (S' := [.int 99, .int 1, .ref 197, .int (a1 + 3), .ref 210]) (by decide +kernel) rfl ?_
    refine sm_vcal [.int 1, .int 99] [.int (a1 + 3), .ref 210] rfl C mw_X6_takeNumber ml_3_112 rfl (ci := 6) rfl (ltX (krX3_0 (by decide +kernel : kdX 196 = 3)) (by decide)) (krX3_0 (by decide +kernel : kdX 196 = 3)) (by decide) ⟨by decide, by decide⟩ (Nat.le_of_ble_eq_true rfl) (by decide +kernel) (c_X6_takeNumber F 1 99 τ18) (fun r23 τ24 => ?_)
    refine sm_seg C [(.iconst 1, 1)] (pc' := 191) (L' := [(4, .int z0), (0, .ref 196), (1, .int a1), (2, .ref t2), (3, .int a3)]) (S' := [.int 1, .int r23, .int (a1 + 3), .ref 210]) (by decide +kernel) rfl ?_
    refine sm_ncal "BasketEnvoys" [.ref 210, .int (a1 + 3), .int r23, .int 1] [] rfl C mw_X10_put ml_3_150 rfl ⟨by decide, by decide⟩ (Nat.le_of_ble_eq_true rfl) (by decide +kernel) (c_X10_put F 210 (krX3_2 (by decide +kernel : kdX 196 = 3)) (a1 + 3) r23 1 τ24) (fun r25 τ26 => ?_)
    refine sm_seg C [(.pop, 0), (.goto 28, 0)] (pc' := 223) (L' := [(4, .int z0), (0, .ref 196), (1, .int a1), (2, .ref t2), (3, .int a3)]) (S' := []) (by decide +kernel) rfl ?_
    exact sm_vret C hr (by decide +kernel)
  refine sm_ite (fun e => ?_) (fun n112_3 => ?_)
  · refine sm_tabIn (off := 86) 198 C hd112 (by rw [e]; decide) (by rw [e]; decide) (by rw [e]; decide) (by decide) ?_
    refine sm_seg C [(.aload_n 0, 0)] (pc' := 199) (L' := [(4, .int z0), (0, .ref 196), (1, .int a1), (2, .ref t2), (3, .int a3)]) (S' := [.ref 196]) (by decide +kernel) rfl ?_
    refine sm_getR 3 2 210 cls3 C (ltX (by decide +kernel : kdX 196 = 3) (by decide)) (by decide +kernel : kdX 196 = 3) (obX3 (by decide +kernel : kdX 196 = 3)) (by decide) (frX3_2 (by decide +kernel : kdX 196 = 3)) fl3_25 (by decide +kernel) ?_
    refine sm_seg C [(.iload_n 1, 0), (.iconst 3, 3), (.iadd, 0), (.aload_n 0, 0)] (pc' := 206) (L' := [(4, .int z0), (0, .ref 196), (1, .int a1), (2, .ref t2), (3, .int a3)]) (S' := [.ref 196, .int (a1 + 3), .ref 210]) (by decide +kernel) rfl ?_
    refine sm_getR 3 0 197 cls3 C (ltX (by decide +kernel : kdX 196 = 3) (by decide)) (by decide +kernel : kdX 196 = 3) (obX3 (by decide +kernel : kdX 196 = 3)) (by decide) (frX3_0 (by decide +kernel : kdX 196 = 3)) fl3_12 (by decide +kernel) ?_
    refine sm_seg C [(.iconst 0, 0), (.bipush 9, 9)] (pc' := 212) (L' := [(4, .int z0), (0, .ref 196), (1, .int a1), (2, .ref t2), (3, .int a3)]) (S' := [.int 9, .int 0, .ref 197, .int (a1 + 3), .ref 210]) (by decide +kernel) rfl ?_
    refine sm_vcal [.int 0, .int 9] [.int (a1 + 3), .ref 210] rfl C mw_X6_takeNumber ml_3_112 rfl (ci := 6) rfl (ltX (krX3_0 (by decide +kernel : kdX 196 = 3)) (by decide)) (krX3_0 (by decide +kernel : kdX 196 = 3)) (by decide) ⟨by decide, by decide⟩ (Nat.le_of_ble_eq_true rfl) (by decide +kernel) (c_X6_takeNumber F 0 9 τ18) (fun r27 τ28 => ?_)
    refine sm_seg C [(.iconst 1, 1)] (pc' := 216) (L' := [(4, .int z0), (0, .ref 196), (1, .int a1), (2, .ref t2), (3, .int a3)]) (S' := [.int 1, .int r27, .int (a1 + 3), .ref 210]) (by decide +kernel) rfl ?_
    refine sm_ncal "BasketEnvoys" [.ref 210, .int (a1 + 3), .int r27, .int 1] [] rfl C mw_X10_put ml_3_150 rfl ⟨by decide, by decide⟩ (Nat.le_of_ble_eq_true rfl) (by decide +kernel) (c_X10_put F 210 (krX3_2 (by decide +kernel : kdX 196 = 3)) (a1 + 3) r27 1 τ28) (fun r29 τ30 => ?_)
    refine sm_seg C [(.pop, 0), (.goto 3, 0)] (pc' := 223) (L' := [(4, .int z0), (0, .ref 196), (1, .int a1), (2, .ref t2), (3, .int a3)]) (S' := []) (by decide +kernel) rfl ?_
    exact sm_vret C hr (by decide +kernel)
  refine sm_tabOut 223 C hd112 (by have q0 := toInt_neZ (z := 1) n112_0 (by decide); have q1 := toInt_neZ (z := 2) n112_1 (by decide); have q2 := toInt_neZ (z := 3) n112_2 (by decide); have q3 := toInt_neZ (z := 4) n112_3 (by decide); omega) (by decide) ?_
  exact sm_vret C hr (by decide +kernel)
def X3_readCourt (F : Nat) (t2 : Nat) (a1 : Int32) (τ : Tau) : Option (Int32 × Tau) :=
  cal (X6_takeNumber F 0 999 τ) fun r1 τ2 => cal (X10_put F 210 a1 r1 1 τ2) fun r3 τ4 => cal (X6_wordHere F τ4) fun r5 τ6 => cal (X10_within F r5 1 4 τ6) fun r7 τ8 => if r7 = 0 then (cal (X6_refuse F 1 τ8) fun r9 τ10 => some (0, τ10)) else (cal (X6_skip F τ8) fun r11 τ12 => cal (X10_put F 210 (a1 + 1) r5 1 τ12) fun r13 τ14 => if r5 = 3 then (X3_readCourt_j87 F t2 a1 r5 ((τ14 t2 0) - 1) τ14) else (X3_readCourt_j87 F t2 a1 r5 ((τ14 t2 1) - 1) τ14))
set_option maxRecDepth 20000 in
set_option maxHeartbeats 4000000 in
theorem c_X3_readCourt (F : Nat) (t2 : Nat) (h2 : kdX t2 = 8) (a1 : Int32) (τ : Tau) (r : Int32) (τ' : Tau) (h : X3_readCourt F t2 a1 τ = some (r, τ')) : MCv sysX yX3_readCourt cX3_readCourt 5 3 [.ref 196, .int a1, .ref t2] τ τ' :=
  mcv_of (by decide +kernel) (Nat.le_of_ble_eq_true rfl) (fun K C hr => by
    show Sm K sysX 5 (Qv K sysX) (X3_readCourt F t2 a1 τ) 0 [(0, .ref 196), (1, .int a1), (2, .ref t2)] [] τ
    unfold X3_readCourt
    refine sm_seg C [(.aload_n 0, 0)] (pc' := 1) (L' := [(0, .ref 196), (1, .int a1), (2, .ref t2)]) (S' := [.ref 196]) (by decide +kernel) rfl ?_
    refine sm_getR 3 2 210 cls3 C (ltX (by decide +kernel : kdX 196 = 3) (by decide)) (by decide +kernel : kdX 196 = 3) (obX3 (by decide +kernel : kdX 196 = 3)) (by decide) (frX3_2 (by decide +kernel : kdX 196 = 3)) fl3_25 (by decide +kernel) ?_
    refine sm_seg C [(.iload_n 1, 0), (.aload_n 0, 0)] (pc' := 6) (L' := [(0, .ref 196), (1, .int a1), (2, .ref t2)]) (S' := [.ref 196, .int a1, .ref 210]) (by decide +kernel) rfl ?_
    refine sm_getR 3 0 197 cls3 C (ltX (by decide +kernel : kdX 196 = 3) (by decide)) (by decide +kernel : kdX 196 = 3) (obX3 (by decide +kernel : kdX 196 = 3)) (by decide) (frX3_0 (by decide +kernel : kdX 196 = 3)) fl3_12 (by decide +kernel) ?_
    refine sm_seg C [(.iconst 0, 0), (.sipush 999, 999)] (pc' := 13) (L' := [(0, .ref 196), (1, .int a1), (2, .ref t2)]) (S' := [.int 999, .int 0, .ref 197, .int a1, .ref 210]) (by decide +kernel) rfl ?_
    refine sm_vcal [.int 0, .int 999] [.int a1, .ref 210] rfl C mw_X6_takeNumber ml_3_112 rfl (ci := 6) rfl (ltX (krX3_0 (by decide +kernel : kdX 196 = 3)) (by decide)) (krX3_0 (by decide +kernel : kdX 196 = 3)) (by decide) ⟨by decide, by decide⟩ (Nat.le_of_ble_eq_true rfl) (by decide +kernel) (c_X6_takeNumber F 0 999 τ) (fun r1 τ2 => ?_)
    refine sm_seg C [(.iconst 1, 1)] (pc' := 17) (L' := [(0, .ref 196), (1, .int a1), (2, .ref t2)]) (S' := [.int 1, .int r1, .int a1, .ref 210]) (by decide +kernel) rfl ?_
    refine sm_ncal "BasketEnvoys" [.ref 210, .int a1, .int r1, .int 1] [] rfl C mw_X10_put ml_3_150 rfl ⟨by decide, by decide⟩ (Nat.le_of_ble_eq_true rfl) (by decide +kernel) (c_X10_put F 210 (krX3_2 (by decide +kernel : kdX 196 = 3)) a1 r1 1 τ2) (fun r3 τ4 => ?_)
    refine sm_seg C [(.pop, 0), (.aload_n 0, 0)] (pc' := 22) (L' := [(0, .ref 196), (1, .int a1), (2, .ref t2)]) (S' := [.ref 196]) (by decide +kernel) rfl ?_
    refine sm_getR 3 0 197 cls3 C (ltX (by decide +kernel : kdX 196 = 3) (by decide)) (by decide +kernel : kdX 196 = 3) (obX3 (by decide +kernel : kdX 196 = 3)) (by decide) (frX3_0 (by decide +kernel : kdX 196 = 3)) fl3_12 (by decide +kernel) ?_
    refine sm_vcal [] [] rfl C mw_X6_wordHere ml_3_53 rfl (ci := 6) rfl (ltX (krX3_0 (by decide +kernel : kdX 196 = 3)) (by decide)) (krX3_0 (by decide +kernel : kdX 196 = 3)) (by decide) ⟨by decide, by decide⟩ (Nat.le_of_ble_eq_true rfl) (by decide +kernel) (c_X6_wordHere F τ4) (fun r5 τ6 => ?_)
    refine sm_seg C [(.istore_n 3, 0), (.iload_n 3, 0), (.iconst 1, 1), (.iconst 4, 4)] (pc' := 32) (L' := [(3, .int r5), (0, .ref 196), (1, .int a1), (2, .ref t2)]) (S' := [.int 4, .int 1, .int r5]) (by decide +kernel) rfl ?_
    refine sm_ncal "BasketEnvoys" [.int r5, .int 1, .int 4] [] rfl C mw_X10_within ml_3_57 rfl ⟨by decide, by decide⟩ (Nat.le_of_ble_eq_true rfl) (by decide +kernel) (c_X10_within F r5 1 4 τ6) (fun r7 τ8 => ?_)
    refine sm_ifne 47 (off := 12) C (by decide +kernel) (by decide) (fun _ => ?_) (fun _ => ?_)
    · refine sm_seg C [(.aload_n 0, 0)] (pc' := 39) (L' := [(3, .int r5), (0, .ref 196), (1, .int a1), (2, .ref t2)]) (S' := [.ref 196]) (by decide +kernel) rfl ?_
      refine sm_getR 3 0 197 cls3 C (ltX (by decide +kernel : kdX 196 = 3) (by decide)) (by decide +kernel : kdX 196 = 3) (obX3 (by decide +kernel : kdX 196 = 3)) (by decide) (frX3_0 (by decide +kernel : kdX 196 = 3)) fl3_12 (by decide +kernel) ?_
      refine sm_seg C [(.iconst 1, 1)] (pc' := 43) (L' := [(3, .int r5), (0, .ref 196), (1, .int a1), (2, .ref t2)]) (S' := [.int 1, .ref 197]) (by decide +kernel) rfl ?_
      refine sm_vcalv [.int 1] [] rfl C mw_X6_refuse ml_3_61 rfl (ci := 6) rfl (ltX (krX3_0 (by decide +kernel : kdX 196 = 3)) (by decide)) (krX3_0 (by decide +kernel : kdX 196 = 3)) (by decide) ⟨by decide, by decide⟩ (Nat.le_of_ble_eq_true rfl) (by decide +kernel) (c_X6_refuse F 1 τ8) (fun r9 τ10 => ?_)
      exact sm_vret C hr (by decide +kernel)
    · refine sm_seg C [(.aload_n 0, 0)] (pc' := 48) (L' := [(3, .int r5), (0, .ref 196), (1, .int a1), (2, .ref t2)]) (S' := [.ref 196]) (by decide +kernel) rfl ?_
      refine sm_getR 3 0 197 cls3 C (ltX (by decide +kernel : kdX 196 = 3) (by decide)) (by decide +kernel : kdX 196 = 3) (obX3 (by decide +kernel : kdX 196 = 3)) (by decide) (frX3_0 (by decide +kernel : kdX 196 = 3)) fl3_12 (by decide +kernel) ?_
      refine sm_vcalv [] [] rfl C mw_X6_skip ml_3_64 rfl (ci := 6) rfl (ltX (krX3_0 (by decide +kernel : kdX 196 = 3)) (by decide)) (krX3_0 (by decide +kernel : kdX 196 = 3)) (by decide) ⟨by decide, by decide⟩ (Nat.le_of_ble_eq_true rfl) (by decide +kernel) (c_X6_skip F τ8) (fun r11 τ12 => ?_)
      refine sm_seg C [(.aload_n 0, 0)] (pc' := 55) (L' := [(3, .int r5), (0, .ref 196), (1, .int a1), (2, .ref t2)]) (S' := [.ref 196]) (by decide +kernel) rfl ?_
      refine sm_getR 3 2 210 cls3 C (ltX (by decide +kernel : kdX 196 = 3) (by decide)) (by decide +kernel : kdX 196 = 3) (obX3 (by decide +kernel : kdX 196 = 3)) (by decide) (frX3_2 (by decide +kernel : kdX 196 = 3)) fl3_25 (by decide +kernel) ?_
      refine sm_seg C [(.iload_n 1, 0), (.iconst 1, 1), (.iadd, 0), (.iload_n 3, 0), (.iconst 1, 1)] (pc' := 63) (L' := [(3, .int r5), (0, .ref 196), (1, .int a1), (2, .ref t2)]) (S' := [.int 1, .int r5, .int (a1 + 1), .ref 210]) (by decide +kernel) rfl ?_
      refine sm_ncal "BasketEnvoys" [.ref 210, .int (a1 + 1), .int r5, .int 1] [] rfl C mw_X10_put ml_3_150 rfl ⟨by decide, by decide⟩ (Nat.le_of_ble_eq_true rfl) (by decide +kernel) (c_X10_put F 210 (krX3_2 (by decide +kernel : kdX 196 = 3)) (a1 + 1) r5 1 τ12) (fun r13 τ14 => ?_)
      refine sm_seg C [(.pop, 0), (.iload_n 3, 0), (.iconst 3, 3)] (pc' := 69) (L' := [(3, .int r5), (0, .ref 196), (1, .int a1), (2, .ref t2)]) (S' := [.int 3, .int r5]) (by decide +kernel) rfl ?_
      refine sm_icmpne 81 (off := 12) C (by decide +kernel) (by decide) (fun _ => ?_) (fun _ => ?_)
      · refine sm_seg C [(.aload_n 2, 0)] (pc' := 73) (L' := [(3, .int r5), (0, .ref 196), (1, .int a1), (2, .ref t2)]) (S' := [.ref t2]) (by decide +kernel) rfl ?_
        refine sm_getI 8 0 cls8 C (ltX h2 (by decide)) h2 (obX8 h2) (by decide) (fiX8_0 h2) fl3_145 (by decide +kernel) ?_
        refine sm_seg C [(.iconst 1, 1), (.isub, 0), (.goto 9, 0)] (pc' := 87) (L' := [(3, .int r5), (0, .ref 196), (1, .int a1), (2, .ref t2)]) (S' := [.int ((τ14 t2 0) - 1)]) (by decide +kernel) rfl ?_
        exact sm_sub [1, 2, 3, 0] rfl (s_X3_readCourt_j87 F t2 C hr h2 a1 r5 ((τ14 t2 0) - 1) τ14)
      · refine sm_seg C [(.aload_n 2, 0)] (pc' := 82) (L' := [(3, .int r5), (0, .ref 196), (1, .int a1), (2, .ref t2)]) (S' := [.ref t2]) (by decide +kernel) rfl ?_
        refine sm_getI 8 1 cls8 C (ltX h2 (by decide)) h2 (obX8 h2) (by decide) (fiX8_1 h2) fl3_157 (by decide +kernel) ?_
        refine sm_seg C [(.iconst 1, 1), (.isub, 0)] (pc' := 87) (L' := [(3, .int r5), (0, .ref 196), (1, .int a1), (2, .ref t2)]) (S' := [.int ((τ14 t2 1) - 1)]) (by decide +kernel) rfl ?_
        exact sm_sub [1, 2, 3, 0] rfl (s_X3_readCourt_j87 F t2 C hr h2 a1 r5 ((τ14 t2 1) - 1) τ14)) h
/-! BasketEnvoys_Reader.readWants -/
def X3_readWants_j135 (F : Nat) (t2 : Nat) (a1 : Int32) (a3 : Int32) (τ : Tau) : Option (Int32 × Tau) :=
  cal (X10_put F 210 (a1 + 1) a3 1 τ) fun r7 τ8 => some (0, τ8)
theorem s_X3_readWants_j135 (F : Nat) (t2 : Nat) {K : Ctx} (C : Cx K sysX RX3 cX3_readWants 5 3) (hr : Rt K none) (h2 : kdX t2 = 8) (a1 : Int32) (a3 : Int32) (τ : Tau) : Sm K sysX 5 (Qv K sysX) (X3_readWants_j135 F t2 a1 a3 τ) 135 [(0, .ref 196), (1, .int a1), (3, .int a3)] [] τ := by
  unfold X3_readWants_j135
  refine sm_seg C [(.aload_n 0, 0)] (pc' := 136) (L' := [(0, .ref 196), (1, .int a1), (3, .int a3)]) (S' := [.ref 196]) (by decide +kernel) rfl ?_
  refine sm_getR 3 2 210 cls3 C (ltX (by decide +kernel : kdX 196 = 3) (by decide)) (by decide +kernel : kdX 196 = 3) (obX3 (by decide +kernel : kdX 196 = 3)) (by decide) (frX3_2 (by decide +kernel : kdX 196 = 3)) fl3_25 (by decide +kernel) ?_
  refine sm_seg C [(.iload_n 1, 0), (.iconst 1, 1), (.iadd, 0), (.iload_n 3, 0), (.iconst 1, 1)] (pc' := 144) (L' := [(0, .ref 196), (1, .int a1), (3, .int a3)]) (S' := [.int 1, .int a3, .int (a1 + 1), .ref 210]) (by decide +kernel) rfl ?_
  refine sm_ncal "BasketEnvoys" [.ref 210, .int (a1 + 1), .int a3, .int 1] [] rfl C mw_X10_put ml_3_150 rfl ⟨by decide, by decide⟩ (Nat.le_of_ble_eq_true rfl) (by decide +kernel) (c_X10_put F 210 (krX3_2 (by decide +kernel : kdX 196 = 3)) (a1 + 1) a3 1 τ) (fun r7 τ8 => ?_)
  refine sm_seg C [(.pop, 0)] (pc' := 148) (L' := [(0, .ref 196), (1, .int a1), (3, .int a3)]) (S' := []) (by decide +kernel) rfl ?_
  exact sm_vret C hr (by decide +kernel)
def X3_readWants_j122 (F : Nat) (self37 : Int32 → Int32 → Int32 → Tau → Option (Int32 × Tau)) (t2 : Nat) (a1 : Int32) (a3 : Int32) (a4 : Int32) (z0 : Int32) (z1 : Int32) (z2 : Int32) (τ : Tau) : Option (Int32 × Tau) :=
  cal (X10_put F 210 z2 z1 z0 τ) fun r15 τ16 => self37 a1 (a3 + 1) (a4 + 1) τ16
theorem s_X3_readWants_j122 (F : Nat) (t2 : Nat) {K : Ctx} (C : Cx K sysX RX3 cX3_readWants 5 3) (hr : Rt K none) (h2 : kdX t2 = 8) (self37 : Int32 → Int32 → Int32 → Tau → Option (Int32 × Tau)) (ih37 : ∀ (a1 : Int32) (a3 : Int32) (a4 : Int32) (τ : Tau), Sm K sysX 5 (Qv K sysX) (self37 a1 a3 a4 τ) 37 [(0, .ref 196), (1, .int a1), (3, .int a3), (4, .int a4)] [] τ) (a1 : Int32) (a3 : Int32) (a4 : Int32) (z0 : Int32) (z1 : Int32) (z2 : Int32) (τ : Tau) : Sm K sysX 5 (Qv K sysX) (X3_readWants_j122 F self37 t2 a1 a3 a4 z0 z1 z2 τ) 122 [(0, .ref 196), (1, .int a1), (3, .int a3), (4, .int a4)] [.int z0, .int z1, .int z2, .ref 210] τ := by
  unfold X3_readWants_j122
  refine sm_ncal "BasketEnvoys" [.ref 210, .int z2, .int z1, .int z0] [] rfl C mw_X10_put ml_3_150 rfl ⟨by decide, by decide⟩ (Nat.le_of_ble_eq_true rfl) (by decide +kernel) (c_X10_put F 210 (krX3_2 (by decide +kernel : kdX 196 = 3)) z2 z1 z0 τ) (fun r15 τ16 => ?_)
  refine sm_seg C [(.pop, 0), (.iinc 3 1, 1), (.iinc 4 1, 1), (.goto (-95), 0)] (pc' := 37) (L' := [(4, .int (a4 + 1)), (3, .int (a3 + 1)), (0, .ref 196), (1, .int a1)]) (S' := []) (by decide +kernel) rfl ?_
  exact sm_sub [2, 3, 1, 0] rfl (ih37 a1 (a3 + 1) (a4 + 1) τ16)
def X3_readWants_j90 (F : Nat) (self37 : Int32 → Int32 → Int32 → Tau → Option (Int32 × Tau)) (t2 : Nat) (a1 : Int32) (a3 : Int32) (a4 : Int32) (τ : Tau) : Option (Int32 × Tau) :=
  cal (X6_takeNumber F 0 15 τ) fun r13 τ14 => if 6 ≤ a4 then (X3_readWants_j122 F self37 t2 a1 a3 a4 0 r13 ((a1 + 2) + a4) τ14) else (X3_readWants_j122 F self37 t2 a1 a3 a4 1 r13 ((a1 + 2) + a4) τ14)
theorem s_X3_readWants_j90 (F : Nat) (t2 : Nat) {K : Ctx} (C : Cx K sysX RX3 cX3_readWants 5 3) (hr : Rt K none) (h2 : kdX t2 = 8) (self37 : Int32 → Int32 → Int32 → Tau → Option (Int32 × Tau)) (ih37 : ∀ (a1 : Int32) (a3 : Int32) (a4 : Int32) (τ : Tau), Sm K sysX 5 (Qv K sysX) (self37 a1 a3 a4 τ) 37 [(0, .ref 196), (1, .int a1), (3, .int a3), (4, .int a4)] [] τ) (a1 : Int32) (a3 : Int32) (a4 : Int32) (τ : Tau) : Sm K sysX 5 (Qv K sysX) (X3_readWants_j90 F self37 t2 a1 a3 a4 τ) 90 [(0, .ref 196), (1, .int a1), (3, .int a3), (4, .int a4)] [] τ := by
  unfold X3_readWants_j90
  refine sm_seg C [(.aload_n 0, 0)] (pc' := 91) (L' := [(0, .ref 196), (1, .int a1), (3, .int a3), (4, .int a4)]) (S' := [.ref 196]) (by decide +kernel) rfl ?_
  refine sm_getR 3 2 210 cls3 C (ltX (by decide +kernel : kdX 196 = 3) (by decide)) (by decide +kernel : kdX 196 = 3) (obX3 (by decide +kernel : kdX 196 = 3)) (by decide) (frX3_2 (by decide +kernel : kdX 196 = 3)) fl3_25 (by decide +kernel) ?_
  refine sm_seg C [(.iload_n 1, 0), (.iconst 2, 2), (.iadd, 0), (.iload 4, 0), (.iadd, 0), (.aload_n 0, 0)] (pc' := 101) (L' := [(0, .ref 196), (1, .int a1), (3, .int a3), (4, .int a4)]) (S' := [.ref 196, .int ((a1 + 2) + a4), .ref 210]) (by decide +kernel) rfl ?_
  refine sm_getR 3 0 197 cls3 C (ltX (by decide +kernel : kdX 196 = 3) (by decide)) (by decide +kernel : kdX 196 = 3) (obX3 (by decide +kernel : kdX 196 = 3)) (by decide) (frX3_0 (by decide +kernel : kdX 196 = 3)) fl3_12 (by decide +kernel) ?_
  refine sm_seg C [(.iconst 0, 0), (.bipush 15, 15)] (pc' := 107) (L' := [(0, .ref 196), (1, .int a1), (3, .int a3), (4, .int a4)]) (S' := [.int 15, .int 0, .ref 197, .int ((a1 + 2) + a4), .ref 210]) (by decide +kernel) rfl ?_
  refine sm_vcal [.int 0, .int 15] [.int ((a1 + 2) + a4), .ref 210] rfl C mw_X6_takeNumber ml_3_112 rfl (ci := 6) rfl (ltX (krX3_0 (by decide +kernel : kdX 196 = 3)) (by decide)) (krX3_0 (by decide +kernel : kdX 196 = 3)) (by decide) ⟨by decide, by decide⟩ (Nat.le_of_ble_eq_true rfl) (by decide +kernel) (c_X6_takeNumber F 0 15 τ) (fun r13 τ14 => ?_)
  refine sm_seg C [(.iload 4, 0), (.bipush 6, 6)] (pc' := 114) (L' := [(0, .ref 196), (1, .int a1), (3, .int a3), (4, .int a4)]) (S' := [.int 6, .int a4, .int r13, .int ((a1 + 2) + a4), .ref 210]) (by decide +kernel) rfl ?_
  refine sm_icmpge 121 (off := 7) C (by decide +kernel) (by decide) (fun _ => ?_) (fun _ => ?_)
  · refine sm_seg C [(.iconst 0, 0)] (pc' := 122) (L' := [(0, .ref 196), (1, .int a1), (3, .int a3), (4, .int a4)]) (S' := [.int 0, .int r13, .int ((a1 + 2) + a4), .ref 210]) (by decide +kernel) rfl ?_
    exact sm_sub [0, 1, 2, 3] rfl (s_X3_readWants_j122 F t2 C hr h2 self37 ih37 a1 a3 a4 0 r13 ((a1 + 2) + a4) τ14)
  · refine sm_seg C [(.iconst 1, 1), (.goto 4, 0)] (pc' := 122) (L' := [(0, .ref 196), (1, .int a1), (3, .int a3), (4, .int a4)]) (S' := [.int 1, .int r13, .int ((a1 + 2) + a4), .ref 210]) (by decide +kernel) rfl ?_
    exact sm_sub [0, 1, 2, 3] rfl (s_X3_readWants_j122 F t2 C hr h2 self37 ih37 a1 a3 a4 1 r13 ((a1 + 2) + a4) τ14)
def X3_readWants_j59 (F : Nat) (self37 : Int32 → Int32 → Int32 → Tau → Option (Int32 × Tau)) (t2 : Nat) (a1 : Int32) (a3 : Int32) (a4 : Int32) (τ : Tau) : Option (Int32 × Tau) :=
  if a4 = 6 then (cal (X6_numberHere F τ) fun r9 τ10 => cal (X10_within F r9 0 15 τ10) fun r11 τ12 => if r11 = 0 then (X3_readWants_j90 F self37 t2 a1 a3 a4 τ12) else (cal (X6_refuse F 3 τ12) fun r17 τ18 => X3_readWants_j90 F self37 t2 a1 a3 a4 τ18)) else (X3_readWants_j90 F self37 t2 a1 a3 a4 τ)
theorem s_X3_readWants_j59 (F : Nat) (t2 : Nat) {K : Ctx} (C : Cx K sysX RX3 cX3_readWants 5 3) (hr : Rt K none) (h2 : kdX t2 = 8) (self37 : Int32 → Int32 → Int32 → Tau → Option (Int32 × Tau)) (ih37 : ∀ (a1 : Int32) (a3 : Int32) (a4 : Int32) (τ : Tau), Sm K sysX 5 (Qv K sysX) (self37 a1 a3 a4 τ) 37 [(0, .ref 196), (1, .int a1), (3, .int a3), (4, .int a4)] [] τ) (a1 : Int32) (a3 : Int32) (a4 : Int32) (τ : Tau) : Sm K sysX 5 (Qv K sysX) (X3_readWants_j59 F self37 t2 a1 a3 a4 τ) 59 [(0, .ref 196), (1, .int a1), (3, .int a3), (4, .int a4)] [] τ := by
  unfold X3_readWants_j59
  refine sm_seg C [(.iload 4, 0), (.bipush 6, 6)] (pc' := 63) (L' := [(0, .ref 196), (1, .int a1), (3, .int a3), (4, .int a4)]) (S' := [.int 6, .int a4]) (by decide +kernel) rfl ?_
  refine sm_icmpne 90 (off := 27) C (by decide +kernel) (by decide) (fun _ => ?_) (fun _ => ?_)
  · refine sm_seg C [(.aload_n 0, 0)] (pc' := 67) (L' := [(0, .ref 196), (1, .int a1), (3, .int a3), (4, .int a4)]) (S' := [.ref 196]) (by decide +kernel) rfl ?_
    refine sm_getR 3 0 197 cls3 C (ltX (by decide +kernel : kdX 196 = 3) (by decide)) (by decide +kernel : kdX 196 = 3) (obX3 (by decide +kernel : kdX 196 = 3)) (by decide) (frX3_0 (by decide +kernel : kdX 196 = 3)) fl3_12 (by decide +kernel) ?_
    refine sm_vcal [] [] rfl C mw_X6_numberHere ml_3_119 rfl (ci := 6) rfl (ltX (krX3_0 (by decide +kernel : kdX 196 = 3)) (by decide)) (krX3_0 (by decide +kernel : kdX 196 = 3)) (by decide) ⟨by decide, by decide⟩ (Nat.le_of_ble_eq_true rfl) (by decide +kernel) (c_X6_numberHere F τ) (fun r9 τ10 => ?_)
    refine sm_seg C [(.iconst 0, 0), (.bipush 15, 15)] (pc' := 76) (L' := [(0, .ref 196), (1, .int a1), (3, .int a3), (4, .int a4)]) (S' := [.int 15, .int 0, .int r9]) (by decide +kernel) rfl ?_
    refine sm_ncal "BasketEnvoys" [.int r9, .int 0, .int 15] [] rfl C mw_X10_within ml_3_57 rfl ⟨by decide, by decide⟩ (Nat.le_of_ble_eq_true rfl) (by decide +kernel) (c_X10_within F r9 0 15 τ10) (fun r11 τ12 => ?_)
    refine sm_ifeq 90 (off := 11) C (by decide +kernel) (by decide) (fun _ => ?_) (fun _ => ?_)
    · exact sm_sub [0, 1, 2, 3] rfl (s_X3_readWants_j90 F t2 C hr h2 self37 ih37 a1 a3 a4 τ12)
    · refine sm_seg C [(.aload_n 0, 0)] (pc' := 83) (L' := [(0, .ref 196), (1, .int a1), (3, .int a3), (4, .int a4)]) (S' := [.ref 196]) (by decide +kernel) rfl ?_
      refine sm_getR 3 0 197 cls3 C (ltX (by decide +kernel : kdX 196 = 3) (by decide)) (by decide +kernel : kdX 196 = 3) (obX3 (by decide +kernel : kdX 196 = 3)) (by decide) (frX3_0 (by decide +kernel : kdX 196 = 3)) fl3_12 (by decide +kernel) ?_
      refine sm_seg C [(.iconst 3, 3)] (pc' := 87) (L' := [(0, .ref 196), (1, .int a1), (3, .int a3), (4, .int a4)]) (S' := [.int 3, .ref 197]) (by decide +kernel) rfl ?_
      refine sm_vcalv [.int 3] [] rfl C mw_X6_refuse ml_3_61 rfl (ci := 6) rfl (ltX (krX3_0 (by decide +kernel : kdX 196 = 3)) (by decide)) (krX3_0 (by decide +kernel : kdX 196 = 3)) (by decide) ⟨by decide, by decide⟩ (Nat.le_of_ble_eq_true rfl) (by decide +kernel) (c_X6_refuse F 3 τ12) (fun r17 τ18 => ?_)
      exact sm_sub [0, 1, 2, 3] rfl (s_X3_readWants_j90 F t2 C hr h2 self37 ih37 a1 a3 a4 τ18)
  · exact sm_sub [0, 1, 2, 3] rfl (s_X3_readWants_j90 F t2 C hr h2 self37 ih37 a1 a3 a4 τ)
def X3_readWants_L37 (F : Nat) (t2 : Nat) : Nat → Int32 → Int32 → Int32 → Tau → Option (Int32 × Tau)
  | 0, _, _, _, _ => none
  | n + 1, a1, a3, a4, τ =>
    if 6 < a4 then (X3_readWants_j135 F t2 a1 a3 τ) else (if a4 = 0 then (X3_readWants_j59 F (X3_readWants_L37 F t2 n) t2 a1 a3 a4 τ) else (cal (X6_isNumber F τ) fun r19 τ20 => if r19 = 0 then (X3_readWants_j135 F t2 a1 a3 τ20) else (X3_readWants_j59 F (X3_readWants_L37 F t2 n) t2 a1 a3 a4 τ20)))
theorem s_X3_readWants_L37 (F : Nat) (t2 : Nat) {K : Ctx} (C : Cx K sysX RX3 cX3_readWants 5 3) (hr : Rt K none) (h2 : kdX t2 = 8) : ∀ (n : Nat) (a1 : Int32) (a3 : Int32) (a4 : Int32) (τ : Tau), Sm K sysX 5 (Qv K sysX) (X3_readWants_L37 F t2 n a1 a3 a4 τ) 37 [(0, .ref 196), (1, .int a1), (3, .int a3), (4, .int a4)] [] τ := by
  intro n
  induction n with
  | zero => intro a1 a3 a4 τ; exact sm_none
  | succ n ih =>
    intro a1 a3 a4 τ
    rw [X3_readWants_L37]
    refine sm_seg C [(.iload 4, 0), (.bipush 6, 6)] (pc' := 41) (L' := [(0, .ref 196), (1, .int a1), (3, .int a3), (4, .int a4)]) (S' := [.int 6, .int a4]) (by decide +kernel) rfl ?_
    refine sm_icmpgt 135 (off := 94) C (by decide +kernel) (by decide) (fun _ => ?_) (fun _ => ?_)
    · exact sm_sub [0, 1, 2] rfl (s_X3_readWants_j135 F t2 C hr h2 a1 a3 τ)
    · refine sm_seg C [(.iload 4, 0)] (pc' := 46) (L' := [(0, .ref 196), (1, .int a1), (3, .int a3), (4, .int a4)]) (S' := [.int a4]) (by decide +kernel) rfl ?_
      refine sm_ifeq 59 (off := 13) C (by decide +kernel) (by decide) (fun _ => ?_) (fun _ => ?_)
      · exact sm_sub [0, 1, 2, 3] rfl (s_X3_readWants_j59 F t2 C hr h2 (X3_readWants_L37 F t2 n) ih a1 a3 a4 τ)
      · refine sm_seg C [(.aload_n 0, 0)] (pc' := 50) (L' := [(0, .ref 196), (1, .int a1), (3, .int a3), (4, .int a4)]) (S' := [.ref 196]) (by decide +kernel) rfl ?_
        refine sm_getR 3 0 197 cls3 C (ltX (by decide +kernel : kdX 196 = 3) (by decide)) (by decide +kernel : kdX 196 = 3) (obX3 (by decide +kernel : kdX 196 = 3)) (by decide) (frX3_0 (by decide +kernel : kdX 196 = 3)) fl3_12 (by decide +kernel) ?_
        refine sm_vcal [] [] rfl C mw_X6_isNumber ml_3_116 rfl (ci := 6) rfl (ltX (krX3_0 (by decide +kernel : kdX 196 = 3)) (by decide)) (krX3_0 (by decide +kernel : kdX 196 = 3)) (by decide) ⟨by decide, by decide⟩ (Nat.le_of_ble_eq_true rfl) (by decide +kernel) (c_X6_isNumber F τ) (fun r19 τ20 => ?_)
        refine sm_ifeq 135 (off := 79) C (by decide +kernel) (by decide) (fun _ => ?_) (fun _ => ?_)
        · exact sm_sub [0, 1, 2] rfl (s_X3_readWants_j135 F t2 C hr h2 a1 a3 τ20)
        · exact sm_sub [0, 1, 2, 3] rfl (s_X3_readWants_j59 F t2 C hr h2 (X3_readWants_L37 F t2 n) ih a1 a3 a4 τ20)
def X3_readWants (F : Nat) (t2 : Nat) (a1 : Int32) (τ : Tau) : Option (Int32 × Tau) :=
  cal (X6_takeNumber F 0 ((τ t2 0) - 1) τ) fun r1 τ2 => cal (X10_put F 210 a1 r1 1 τ2) fun r3 τ4 => cal (X6_takeWord F 1 τ4) fun r5 τ6 => X3_readWants_L37 F t2 F a1 0 0 τ6
set_option maxRecDepth 20000 in
set_option maxHeartbeats 4000000 in
theorem c_X3_readWants (F : Nat) (t2 : Nat) (h2 : kdX t2 = 8) (a1 : Int32) (τ : Tau) (r : Int32) (τ' : Tau) (h : X3_readWants F t2 a1 τ = some (r, τ')) : MCv sysX yX3_readWants cX3_readWants 5 3 [.ref 196, .int a1, .ref t2] τ τ' :=
  mcv_of (by decide +kernel) (Nat.le_of_ble_eq_true rfl) (fun K C hr => by
    show Sm K sysX 5 (Qv K sysX) (X3_readWants F t2 a1 τ) 0 [(0, .ref 196), (1, .int a1), (2, .ref t2)] [] τ
    unfold X3_readWants
    refine sm_seg C [(.aload_n 0, 0)] (pc' := 1) (L' := [(0, .ref 196), (1, .int a1), (2, .ref t2)]) (S' := [.ref 196]) (by decide +kernel) rfl ?_
    refine sm_getR 3 2 210 cls3 C (ltX (by decide +kernel : kdX 196 = 3) (by decide)) (by decide +kernel : kdX 196 = 3) (obX3 (by decide +kernel : kdX 196 = 3)) (by decide) (frX3_2 (by decide +kernel : kdX 196 = 3)) fl3_25 (by decide +kernel) ?_
    refine sm_seg C [(.iload_n 1, 0), (.aload_n 0, 0)] (pc' := 6) (L' := [(0, .ref 196), (1, .int a1), (2, .ref t2)]) (S' := [.ref 196, .int a1, .ref 210]) (by decide +kernel) rfl ?_
    refine sm_getR 3 0 197 cls3 C (ltX (by decide +kernel : kdX 196 = 3) (by decide)) (by decide +kernel : kdX 196 = 3) (obX3 (by decide +kernel : kdX 196 = 3)) (by decide) (frX3_0 (by decide +kernel : kdX 196 = 3)) fl3_12 (by decide +kernel) ?_
    refine sm_seg C [(.iconst 0, 0), (.aload_n 2, 0)] (pc' := 11) (L' := [(0, .ref 196), (1, .int a1), (2, .ref t2)]) (S' := [.ref t2, .int 0, .ref 197, .int a1, .ref 210]) (by decide +kernel) rfl ?_
    refine sm_getI 8 0 cls8 C (ltX h2 (by decide)) h2 (obX8 h2) (by decide) (fiX8_0 h2) fl3_145 (by decide +kernel) ?_
    refine sm_seg C [(.iconst 1, 1), (.isub, 0)] (pc' := 16) (L' := [(0, .ref 196), (1, .int a1), (2, .ref t2)]) (S' := [.int ((τ t2 0) - 1), .int 0, .ref 197, .int a1, .ref 210]) (by decide +kernel) rfl ?_
    refine sm_vcal [.int 0, .int ((τ t2 0) - 1)] [.int a1, .ref 210] rfl C mw_X6_takeNumber ml_3_112 rfl (ci := 6) rfl (ltX (krX3_0 (by decide +kernel : kdX 196 = 3)) (by decide)) (krX3_0 (by decide +kernel : kdX 196 = 3)) (by decide) ⟨by decide, by decide⟩ (Nat.le_of_ble_eq_true rfl) (by decide +kernel) (c_X6_takeNumber F 0 ((τ t2 0) - 1) τ) (fun r1 τ2 => ?_)
    refine sm_seg C [(.iconst 1, 1)] (pc' := 20) (L' := [(0, .ref 196), (1, .int a1), (2, .ref t2)]) (S' := [.int 1, .int r1, .int a1, .ref 210]) (by decide +kernel) rfl ?_
    refine sm_ncal "BasketEnvoys" [.ref 210, .int a1, .int r1, .int 1] [] rfl C mw_X10_put ml_3_150 rfl ⟨by decide, by decide⟩ (Nat.le_of_ble_eq_true rfl) (by decide +kernel) (c_X10_put F 210 (krX3_2 (by decide +kernel : kdX 196 = 3)) a1 r1 1 τ2) (fun r3 τ4 => ?_)
    refine sm_seg C [(.pop, 0), (.aload_n 0, 0)] (pc' := 25) (L' := [(0, .ref 196), (1, .int a1), (2, .ref t2)]) (S' := [.ref 196]) (by decide +kernel) rfl ?_
    refine sm_getR 3 0 197 cls3 C (ltX (by decide +kernel : kdX 196 = 3) (by decide)) (by decide +kernel : kdX 196 = 3) (obX3 (by decide +kernel : kdX 196 = 3)) (by decide) (frX3_0 (by decide +kernel : kdX 196 = 3)) fl3_12 (by decide +kernel) ?_
    refine sm_seg C [(.iconst 1, 1)] (pc' := 29) (L' := [(0, .ref 196), (1, .int a1), (2, .ref t2)]) (S' := [.int 1, .ref 197]) (by decide +kernel) rfl ?_
    refine sm_vcalv [.int 1] [] rfl C mw_X6_takeWord ml_3_154 rfl (ci := 6) rfl (ltX (krX3_0 (by decide +kernel : kdX 196 = 3)) (by decide)) (krX3_0 (by decide +kernel : kdX 196 = 3)) (by decide) ⟨by decide, by decide⟩ (Nat.le_of_ble_eq_true rfl) (by decide +kernel) (c_X6_takeWord F 1 τ4) (fun r5 τ6 => ?_)
    refine sm_seg C [(.iconst 0, 0), (.istore_n 3, 0), (.iconst 0, 0), (.istore 4, 0)] (pc' := 37) (L' := [(4, .int 0), (3, .int 0), (0, .ref 196), (1, .int a1), (2, .ref t2)]) (S' := []) (by decide +kernel) rfl ?_
    exact sm_sub [2, 3, 1, 0] rfl (s_X3_readWants_L37 F t2 C hr h2 F a1 0 0 τ6)) h
/-! BasketEnvoys_Reader.readRow -/
def X3_readRow_j89 (F : Nat) (t3 : Nat) (τ : Tau) : Option (Int32 × Tau) :=
  cal (X6_takeSign F 59 τ) fun r9 τ10 => some (0, τ10)
theorem s_X3_readRow_j89 (F : Nat) (t3 : Nat) {K : Ctx} (C : Cx K sysX RX3 cX3_readRow 5 4) (hr : Rt K none) (h3 : kdX t3 = 8) (τ : Tau) : Sm K sysX 5 (Qv K sysX) (X3_readRow_j89 F t3 τ) 89 [(0, .ref 196)] [] τ := by
  unfold X3_readRow_j89
  refine sm_seg C [(.aload_n 0, 0)] (pc' := 90) (L' := [(0, .ref 196)]) (S' := [.ref 196]) (by decide +kernel) rfl ?_
  refine sm_getR 3 0 197 cls3 C (ltX (by decide +kernel : kdX 196 = 3) (by decide)) (by decide +kernel : kdX 196 = 3) (obX3 (by decide +kernel : kdX 196 = 3)) (by decide) (frX3_0 (by decide +kernel : kdX 196 = 3)) fl3_12 (by decide +kernel) ?_
  refine sm_seg C [(.bipush 59, 59)] (pc' := 95) (L' := [(0, .ref 196)]) (S' := [.int 59, .ref 197]) (by decide +kernel) rfl ?_
  refine sm_vcalv [.int 59] [] rfl C mw_X6_takeSign ml_3_80 rfl (ci := 6) rfl (ltX (krX3_0 (by decide +kernel : kdX 196 = 3)) (by decide)) (krX3_0 (by decide +kernel : kdX 196 = 3)) (by decide) ⟨by decide, by decide⟩ (Nat.le_of_ble_eq_true rfl) (by decide +kernel) (c_X6_takeSign F 59 τ) (fun r9 τ10 => ?_)
  exact sm_vret C hr (by decide +kernel)
def X3_readRow (F : Nat) (t3 : Nat) (a1 : Int32) (a2 : Int32) (τ : Tau) : Option (Int32 × Tau) :=
  cal (X6_isWord F 0 τ) fun r1 τ2 => if r1 = 0 then (cal (X6_refuse F 1 τ2) fun r3 τ4 => some (0, τ4)) else (if a2 < 16 then (cal (X6_skip F τ2) fun r5 τ6 => if a1 = 1 then (cal (X3_readTongue F t3 (8 * a2) τ6) fun r7 τ8 => X3_readRow_j89 F t3 τ8) else (if a1 = 2 then (cal (X3_readCourt F t3 (8 * a2) τ6) fun r11 τ12 => X3_readRow_j89 F t3 τ12) else (cal (X3_readWants F t3 (8 * a2) τ6) fun r13 τ14 => X3_readRow_j89 F t3 τ14))) else (cal (X6_refuse F 3 τ2) fun r15 τ16 => some (0, τ16)))
set_option maxRecDepth 20000 in
set_option maxHeartbeats 4000000 in
theorem c_X3_readRow (F : Nat) (t3 : Nat) (h3 : kdX t3 = 8) (a1 : Int32) (a2 : Int32) (τ : Tau) (r : Int32) (τ' : Tau) (h : X3_readRow F t3 a1 a2 τ = some (r, τ')) : MCv sysX yX3_readRow cX3_readRow 5 4 [.ref 196, .int a1, .int a2, .ref t3] τ τ' :=
  mcv_of (by decide +kernel) (Nat.le_of_ble_eq_true rfl) (fun K C hr => by
    show Sm K sysX 5 (Qv K sysX) (X3_readRow F t3 a1 a2 τ) 0 [(0, .ref 196), (1, .int a1), (2, .int a2), (3, .ref t3)] [] τ
    unfold X3_readRow
    refine sm_seg C [(.aload_n 0, 0)] (pc' := 1) (L' := [(0, .ref 196), (1, .int a1), (2, .int a2), (3, .ref t3)]) (S' := [.ref 196]) (by decide +kernel) rfl ?_
    refine sm_getR 3 0 197 cls3 C (ltX (by decide +kernel : kdX 196 = 3) (by decide)) (by decide +kernel : kdX 196 = 3) (obX3 (by decide +kernel : kdX 196 = 3)) (by decide) (frX3_0 (by decide +kernel : kdX 196 = 3)) fl3_12 (by decide +kernel) ?_
    refine sm_seg C [(.iconst 0, 0)] (pc' := 5) (L' := [(0, .ref 196), (1, .int a1), (2, .int a2), (3, .ref t3)]) (S' := [.int 0, .ref 197]) (by decide +kernel) rfl ?_
    refine sm_vcal [.int 0] [] rfl C mw_X6_isWord ml_3_73 rfl (ci := 6) rfl (ltX (krX3_0 (by decide +kernel : kdX 196 = 3)) (by decide)) (krX3_0 (by decide +kernel : kdX 196 = 3)) (by decide) ⟨by decide, by decide⟩ (Nat.le_of_ble_eq_true rfl) (by decide +kernel) (c_X6_isWord F 0 τ) (fun r1 τ2 => ?_)
    refine sm_ifne 22 (off := 14) C (by decide +kernel) (by decide) (fun _ => ?_) (fun _ => ?_)
    · refine sm_seg C [(.aload_n 0, 0)] (pc' := 12) (L' := [(0, .ref 196), (1, .int a1), (2, .int a2), (3, .ref t3)]) (S' := [.ref 196]) (by decide +kernel) rfl ?_
      refine sm_getR 3 0 197 cls3 C (ltX (by decide +kernel : kdX 196 = 3) (by decide)) (by decide +kernel : kdX 196 = 3) (obX3 (by decide +kernel : kdX 196 = 3)) (by decide) (frX3_0 (by decide +kernel : kdX 196 = 3)) fl3_12 (by decide +kernel) ?_
      refine sm_seg C [(.iconst 1, 1)] (pc' := 16) (L' := [(0, .ref 196), (1, .int a1), (2, .int a2), (3, .ref t3)]) (S' := [.int 1, .ref 197]) (by decide +kernel) rfl ?_
      refine sm_vcalv [.int 1] [] rfl C mw_X6_refuse ml_3_61 rfl (ci := 6) rfl (ltX (krX3_0 (by decide +kernel : kdX 196 = 3)) (by decide)) (krX3_0 (by decide +kernel : kdX 196 = 3)) (by decide) ⟨by decide, by decide⟩ (Nat.le_of_ble_eq_true rfl) (by decide +kernel) (c_X6_refuse F 1 τ2) (fun r3 τ4 => ?_)
      refine sm_seg C [(.goto 79, 0)] (pc' := 98) (L' := [(0, .ref 196), (1, .int a1), (2, .int a2), (3, .ref t3)]) (S' := []) (by decide +kernel) rfl ?_
      exact sm_vret C hr (by decide +kernel)
    · refine sm_seg C [(.iload_n 2, 0), (.bipush 16, 16)] (pc' := 25) (L' := [(0, .ref 196), (1, .int a1), (2, .int a2), (3, .ref t3)]) (S' := [.int 16, .int a2]) (by decide +kernel) rfl ?_
      refine sm_icmplt 39 (off := 14) C (by decide +kernel) (by decide) (fun _ => ?_) (fun _ => ?_)
      · refine sm_seg C [(.aload_n 0, 0)] (pc' := 40) (L' := [(0, .ref 196), (1, .int a1), (2, .int a2), (3, .ref t3)]) (S' := [.ref 196]) (by decide +kernel) rfl ?_
        refine sm_getR 3 0 197 cls3 C (ltX (by decide +kernel : kdX 196 = 3) (by decide)) (by decide +kernel : kdX 196 = 3) (obX3 (by decide +kernel : kdX 196 = 3)) (by decide) (frX3_0 (by decide +kernel : kdX 196 = 3)) fl3_12 (by decide +kernel) ?_
        refine sm_vcalv [] [] rfl C mw_X6_skip ml_3_64 rfl (ci := 6) rfl (ltX (krX3_0 (by decide +kernel : kdX 196 = 3)) (by decide)) (krX3_0 (by decide +kernel : kdX 196 = 3)) (by decide) ⟨by decide, by decide⟩ (Nat.le_of_ble_eq_true rfl) (by decide +kernel) (c_X6_skip F τ2) (fun r5 τ6 => ?_)
        refine sm_seg C [(.bipush 8, 8), (.iload_n 2, 0), (.imul, 0), (.istore 4, 0), (.iload_n 1, 0), (.iconst 1, 1)] (pc' := 54) (L' := [(4, .int (8 * a2)), (0, .ref 196), (1, .int a1), (2, .int a2), (3, .ref t3)]) (S' := [.int 1, .int a1]) (by decide +kernel) rfl ?_
        refine sm_icmpne 67 (off := 13) C (by decide +kernel) (by decide) (fun _ => ?_) (fun _ => ?_)
        · refine sm_seg C [(.aload_n 0, 0), (.iload 4, 0), (.aload_n 3, 0)] (pc' := 61) (L' := [(4, .int (8 * a2)), (0, .ref 196), (1, .int a1), (2, .int a2), (3, .ref t3)]) (S' := [.ref t3, .int (8 * a2), .ref 196]) (by decide +kernel) rfl ?_
          refine sm_vcalv [.int (8 * a2), .ref t3] [] rfl C mw_X3_readTongue ml_3_135 rfl (ci := 3) rfl (ltX (by decide +kernel : kdX 196 = 3) (by decide)) (by decide +kernel : kdX 196 = 3) (by decide) ⟨by decide, by decide⟩ (Nat.le_of_ble_eq_true rfl) (by decide +kernel) (c_X3_readTongue F t3 h3 (8 * a2) τ6) (fun r7 τ8 => ?_)
          refine sm_seg C [(.goto 25, 0)] (pc' := 89) (L' := [(4, .int (8 * a2)), (0, .ref 196), (1, .int a1), (2, .int a2), (3, .ref t3)]) (S' := []) (by decide +kernel) rfl ?_
          exact sm_sub [1] rfl (s_X3_readRow_j89 F t3 C hr h3 τ8)
        · refine sm_seg C [(.iload_n 1, 0), (.iconst 2, 2)] (pc' := 69) (L' := [(4, .int (8 * a2)), (0, .ref 196), (1, .int a1), (2, .int a2), (3, .ref t3)]) (S' := [.int 2, .int a1]) (by decide +kernel) rfl ?_
          refine sm_icmpne 82 (off := 13) C (by decide +kernel) (by decide) (fun _ => ?_) (fun _ => ?_)
          · refine sm_seg C [(.aload_n 0, 0), (.iload 4, 0), (.aload_n 3, 0)] (pc' := 76) (L' := [(4, .int (8 * a2)), (0, .ref 196), (1, .int a1), (2, .int a2), (3, .ref t3)]) (S' := [.ref t3, .int (8 * a2), .ref 196]) (by decide +kernel) rfl ?_
            refine sm_vcalv [.int (8 * a2), .ref t3] [] rfl C mw_X3_readCourt ml_3_139 rfl (ci := 3) rfl (ltX (by decide +kernel : kdX 196 = 3) (by decide)) (by decide +kernel : kdX 196 = 3) (by decide) ⟨by decide, by decide⟩ (Nat.le_of_ble_eq_true rfl) (by decide +kernel) (c_X3_readCourt F t3 h3 (8 * a2) τ6) (fun r11 τ12 => ?_)
            refine sm_seg C [(.goto 10, 0)] (pc' := 89) (L' := [(4, .int (8 * a2)), (0, .ref 196), (1, .int a1), (2, .int a2), (3, .ref t3)]) (S' := []) (by decide +kernel) rfl ?_
            exact sm_sub [1] rfl (s_X3_readRow_j89 F t3 C hr h3 τ12)
          · refine sm_seg C [(.aload_n 0, 0), (.iload 4, 0), (.aload_n 3, 0)] (pc' := 86) (L' := [(4, .int (8 * a2)), (0, .ref 196), (1, .int a1), (2, .int a2), (3, .ref t3)]) (S' := [.ref t3, .int (8 * a2), .ref 196]) (by decide +kernel) rfl ?_
            refine sm_vcalv [.int (8 * a2), .ref t3] [] rfl C mw_X3_readWants ml_3_142 rfl (ci := 3) rfl (ltX (by decide +kernel : kdX 196 = 3) (by decide)) (by decide +kernel : kdX 196 = 3) (by decide) ⟨by decide, by decide⟩ (Nat.le_of_ble_eq_true rfl) (by decide +kernel) (c_X3_readWants F t3 h3 (8 * a2) τ6) (fun r13 τ14 => ?_)
            exact sm_sub [1] rfl (s_X3_readRow_j89 F t3 C hr h3 τ14)
      · refine sm_seg C [(.aload_n 0, 0)] (pc' := 29) (L' := [(0, .ref 196), (1, .int a1), (2, .int a2), (3, .ref t3)]) (S' := [.ref 196]) (by decide +kernel) rfl ?_
        refine sm_getR 3 0 197 cls3 C (ltX (by decide +kernel : kdX 196 = 3) (by decide)) (by decide +kernel : kdX 196 = 3) (obX3 (by decide +kernel : kdX 196 = 3)) (by decide) (frX3_0 (by decide +kernel : kdX 196 = 3)) fl3_12 (by decide +kernel) ?_
        refine sm_seg C [(.iconst 3, 3)] (pc' := 33) (L' := [(0, .ref 196), (1, .int a1), (2, .int a2), (3, .ref t3)]) (S' := [.int 3, .ref 197]) (by decide +kernel) rfl ?_
        refine sm_vcalv [.int 3] [] rfl C mw_X6_refuse ml_3_61 rfl (ci := 6) rfl (ltX (krX3_0 (by decide +kernel : kdX 196 = 3)) (by decide)) (krX3_0 (by decide +kernel : kdX 196 = 3)) (by decide) ⟨by decide, by decide⟩ (Nat.le_of_ble_eq_true rfl) (by decide +kernel) (c_X6_refuse F 3 τ2) (fun r15 τ16 => ?_)
        refine sm_seg C [(.goto 62, 0)] (pc' := 98) (L' := [(0, .ref 196), (1, .int a1), (2, .int a2), (3, .ref t3)]) (S' := []) (by decide +kernel) rfl ?_
        exact sm_vret C hr (by decide +kernel)) h
/-! BasketEnvoys_Reader.readRows -/
def X3_readRows_j112 (F : Nat) (t2 : Nat) (a3 : Int32) (τ : Tau) : Option (Int32 × Tau) :=
  if (τ 197 1) = 0 then (some (a3, τ)) else (some ((-1), τ))
theorem s_X3_readRows_j112 (F : Nat) (t2 : Nat) {K : Ctx} (C : Cx K sysX RX3 cX3_readRows 5 9) (hr : Rt K (some .int)) (h2 : kdX t2 = 8) (a3 : Int32) (τ : Tau) : Sm K sysX 5 (Qi K sysX) (X3_readRows_j112 F t2 a3 τ) 112 [(0, .ref 196), (3, .int a3)] [] τ := by
  unfold X3_readRows_j112
  refine sm_seg C [(.aload_n 0, 0)] (pc' := 113) (L' := [(0, .ref 196), (3, .int a3)]) (S' := [.ref 196]) (by decide +kernel) rfl ?_
  refine sm_getR 3 0 197 cls3 C (ltX (by decide +kernel : kdX 196 = 3) (by decide)) (by decide +kernel : kdX 196 = 3) (obX3 (by decide +kernel : kdX 196 = 3)) (by decide) (frX3_0 (by decide +kernel : kdX 196 = 3)) fl3_12 (by decide +kernel) ?_
  refine sm_getI 6 1 cls6 C (ltX (krX3_0 (by decide +kernel : kdX 196 = 3)) (by decide)) (krX3_0 (by decide +kernel : kdX 196 = 3)) (obX6 (krX3_0 (by decide +kernel : kdX 196 = 3))) (by decide) (fiX6_1 (krX3_0 (by decide +kernel : kdX 196 = 3))) fl3_46 (by decide +kernel) ?_
  refine sm_ifne 126 (off := 7) C (by decide +kernel) (by decide) (fun _ => ?_) (fun _ => ?_)
  · refine sm_seg C [(.iload_n 3, 0), (.goto 4, 0)] (pc' := 127) (L' := [(0, .ref 196), (3, .int a3)]) (S' := [.int a3]) (by decide +kernel) rfl ?_
    exact sm_iret C hr rfl (by decide +kernel)
  · refine sm_seg C [(.iconst (-1), (-1))] (pc' := 127) (L' := [(0, .ref 196), (3, .int a3)]) (S' := [.int (-1)]) (by decide +kernel) rfl ?_
    exact sm_iret C hr rfl (by decide +kernel)
def X3_readRows_L78 (F : Nat) (t2 : Nat) : Nat → Int32 → Int32 → Int32 → Tau → Option (Int32 × Tau)
  | 0, _, _, _, _ => none
  | n + 1, a1, a3, a4, τ =>
    if 16 < a4 then (X3_readRows_j112 F t2 a3 τ) else (cal (X6_goesOn F τ) fun r3 τ4 => if r3 = 0 then (X3_readRows_j112 F t2 a3 τ4) else (cal (X3_readRow F t2 a1 a4 τ4) fun r5 τ6 => X3_readRows_L78 F t2 n a1 (a3 + 1) (a4 + 1) τ6))
theorem s_X3_readRows_L78 (F : Nat) (t2 : Nat) {K : Ctx} (C : Cx K sysX RX3 cX3_readRows 5 9) (hr : Rt K (some .int)) (h2 : kdX t2 = 8) : ∀ (n : Nat) (a1 : Int32) (a3 : Int32) (a4 : Int32) (τ : Tau), Sm K sysX 5 (Qi K sysX) (X3_readRows_L78 F t2 n a1 a3 a4 τ) 78 [(0, .ref 196), (1, .int a1), (2, .ref t2), (3, .int a3), (4, .int a4)] [] τ := by
  intro n
  induction n with
  | zero => intro a1 a3 a4 τ; exact sm_none
  | succ n ih =>
    intro a1 a3 a4 τ
    rw [X3_readRows_L78]
    refine sm_seg C [(.iload 4, 0), (.bipush 16, 16)] (pc' := 82) (L' := [(0, .ref 196), (1, .int a1), (2, .ref t2), (3, .int a3), (4, .int a4)]) (S' := [.int 16, .int a4]) (by decide +kernel) rfl ?_
    refine sm_icmpgt 112 (off := 30) C (by decide +kernel) (by decide) (fun _ => ?_) (fun _ => ?_)
    · exact sm_sub [0, 3] rfl (s_X3_readRows_j112 F t2 C hr h2 a3 τ)
    · refine sm_seg C [(.aload_n 0, 0)] (pc' := 86) (L' := [(0, .ref 196), (1, .int a1), (2, .ref t2), (3, .int a3), (4, .int a4)]) (S' := [.ref 196]) (by decide +kernel) rfl ?_
      refine sm_getR 3 0 197 cls3 C (ltX (by decide +kernel : kdX 196 = 3) (by decide)) (by decide +kernel : kdX 196 = 3) (obX3 (by decide +kernel : kdX 196 = 3)) (by decide) (frX3_0 (by decide +kernel : kdX 196 = 3)) fl3_12 (by decide +kernel) ?_
      refine sm_vcal [] [] rfl C mw_X6_goesOn ml_3_38 rfl (ci := 6) rfl (ltX (krX3_0 (by decide +kernel : kdX 196 = 3)) (by decide)) (krX3_0 (by decide +kernel : kdX 196 = 3)) (by decide) ⟨by decide, by decide⟩ (Nat.le_of_ble_eq_true rfl) (by decide +kernel) (c_X6_goesOn F τ) (fun r3 τ4 => ?_)
      refine sm_ifeq 112 (off := 20) C (by decide +kernel) (by decide) (fun _ => ?_) (fun _ => ?_)
      · exact sm_sub [0, 3] rfl (s_X3_readRows_j112 F t2 C hr h2 a3 τ4)
      · refine sm_seg C [(.aload_n 0, 0), (.iload_n 1, 0), (.iload 4, 0), (.aload_n 2, 0)] (pc' := 100) (L' := [(0, .ref 196), (1, .int a1), (2, .ref t2), (3, .int a3), (4, .int a4)]) (S' := [.ref t2, .int a4, .int a1, .ref 196]) (by decide +kernel) rfl ?_
        refine sm_vcalv [.int a1, .int a4, .ref t2] [] rfl C mw_X3_readRow ml_3_131 rfl (ci := 3) rfl (ltX (by decide +kernel : kdX 196 = 3) (by decide)) (by decide +kernel : kdX 196 = 3) (by decide) ⟨by decide, by decide⟩ (Nat.le_of_ble_eq_true rfl) (by decide +kernel) (c_X3_readRow F t2 h2 a1 a4 τ4) (fun r5 τ6 => ?_)
        refine sm_seg C [(.iinc 3 1, 1), (.iinc 4 1, 1), (.goto (-31), 0)] (pc' := 78) (L' := [(4, .int (a4 + 1)), (3, .int (a3 + 1)), (0, .ref 196), (1, .int a1), (2, .ref t2)]) (S' := []) (by decide +kernel) rfl ?_
        exact sm_sub [2, 3, 4, 1, 0] rfl (ih a1 (a3 + 1) (a4 + 1) τ6)
def X3_readRows_j73 (F : Nat) (t2 : Nat) (a1 : Int32) (τ : Tau) : Option (Int32 × Tau) :=
  X3_readRows_L78 F t2 F a1 0 0 τ
theorem s_X3_readRows_j73 (F : Nat) (t2 : Nat) {K : Ctx} (C : Cx K sysX RX3 cX3_readRows 5 9) (hr : Rt K (some .int)) (h2 : kdX t2 = 8) (a1 : Int32) (τ : Tau) : Sm K sysX 5 (Qi K sysX) (X3_readRows_j73 F t2 a1 τ) 73 [(0, .ref 196), (1, .int a1), (2, .ref t2)] [] τ := by
  unfold X3_readRows_j73
  refine sm_seg C [(.iconst 0, 0), (.istore_n 3, 0), (.iconst 0, 0), (.istore 4, 0)] (pc' := 78) (L' := [(4, .int 0), (3, .int 0), (0, .ref 196), (1, .int a1), (2, .ref t2)]) (S' := []) (by decide +kernel) rfl ?_
  exact sm_sub [2, 3, 4, 1, 0] rfl (s_X3_readRows_L78 F t2 C hr h2 F a1 0 0 τ)
def X3_readRows (F : Nat) (t2 : Nat) (a1 : Int32) (τ : Tau) : Option (Int32 × Tau) :=
  if a1 = 1 then (cal (X6_scan F 3 τ) fun r1 τ2 => X3_readRows_j73 F t2 a1 τ2) else if a1 = 2 then (cal (X6_scan F 4 τ) fun r7 τ8 => X3_readRows_j73 F t2 a1 τ8) else if a1 = 3 then (cal (X6_scan F 5 τ) fun r9 τ10 => X3_readRows_j73 F t2 a1 τ10) else (cal (X6_clearFault F τ) fun r11 τ12 => some ((-1), τ12))
set_option maxRecDepth 20000 in
set_option maxHeartbeats 4000000 in
theorem c_X3_readRows (F : Nat) (t2 : Nat) (h2 : kdX t2 = 8) (a1 : Int32) (τ : Tau) (r : Int32) (τ' : Tau) (h : X3_readRows F t2 a1 τ = some (r, τ')) : MCi sysX yX3_readRows cX3_readRows 5 (some .int) 9 [.ref 196, .int a1, .ref t2] τ r τ' :=
  mci_of (by decide +kernel) (Nat.le_of_ble_eq_true rfl) (fun K C hr => by
    show Sm K sysX 5 (Qi K sysX) (X3_readRows F t2 a1 τ) 0 [(0, .ref 196), (1, .int a1), (2, .ref t2)] [] τ
    unfold X3_readRows
    refine sm_seg C [(.iload_n 1, 0)] (pc' := 1) (L' := [(0, .ref 196), (1, .int a1), (2, .ref t2)]) (S' := [.int a1]) (by decide +kernel) rfl ?_
    have hd1 : decode cX3_readRows 1 = .ok (.tableswitch 63 1 3 #[27, 39, 51], 27) := by decide +kernel
    refine sm_ite (fun e => ?_) (fun n1_0 => ?_)
    · refine sm_tabIn (off := 27) 28 C hd1 (by rw [e]; decide) (by rw [e]; decide) (by rw [e]; decide) (by decide) ?_
      refine sm_seg C [(.aload_n 0, 0)] (pc' := 29) (L' := [(0, .ref 196), (1, .int a1), (2, .ref t2)]) (S' := [.ref 196]) (by decide +kernel) rfl ?_
      refine sm_getR 3 0 197 cls3 C (ltX (by decide +kernel : kdX 196 = 3) (by decide)) (by decide +kernel : kdX 196 = 3) (obX3 (by decide +kernel : kdX 196 = 3)) (by decide) (frX3_0 (by decide +kernel : kdX 196 = 3)) fl3_12 (by decide +kernel) ?_
      refine sm_ldcS C st_3 (by decide +kernel) ?_
      refine sm_vcalv [.ref (100000 + 3)] [] rfl C mw_X6_scan ml_3_31 rfl (ci := 6) rfl (ltX (krX3_0 (by decide +kernel : kdX 196 = 3)) (by decide)) (krX3_0 (by decide +kernel : kdX 196 = 3)) (by decide) ⟨by decide, by decide⟩ (Nat.le_of_ble_eq_true rfl) (by decide +kernel) (c_X6_scan F 3 (by decide : 3 < 30) τ) (fun r1 τ2 => ?_)
      refine sm_seg C [(.goto 36, 0)] (pc' := 73) (L' := [(0, .ref 196), (1, .int a1), (2, .ref t2)]) (S' := []) (by decide +kernel) rfl ?_
      exact sm_sub [0, 1, 2] rfl (s_X3_readRows_j73 F t2 C hr h2 a1 τ2)
    refine sm_ite (fun e => ?_) (fun n1_1 => ?_)
    · refine sm_tabIn (off := 39) 40 C hd1 (by rw [e]; decide) (by rw [e]; decide) (by rw [e]; decide) (by decide) ?_
      refine sm_seg C [(.aload_n 0, 0)] (pc' := 41) (L' := [(0, .ref 196), (1, .int a1), (2, .ref t2)]) (S' := [.ref 196]) (by decide +kernel) rfl ?_
      refine sm_getR 3 0 197 cls3 C (ltX (by decide +kernel : kdX 196 = 3) (by decide)) (by decide +kernel : kdX 196 = 3) (obX3 (by decide +kernel : kdX 196 = 3)) (by decide) (frX3_0 (by decide +kernel : kdX 196 = 3)) fl3_12 (by decide +kernel) ?_
      refine sm_ldcS C st_4 (by decide +kernel) ?_
      refine sm_vcalv [.ref (100000 + 4)] [] rfl C mw_X6_scan ml_3_31 rfl (ci := 6) rfl (ltX (krX3_0 (by decide +kernel : kdX 196 = 3)) (by decide)) (krX3_0 (by decide +kernel : kdX 196 = 3)) (by decide) ⟨by decide, by decide⟩ (Nat.le_of_ble_eq_true rfl) (by decide +kernel) (c_X6_scan F 4 (by decide : 4 < 30) τ) (fun r7 τ8 => ?_)
      refine sm_seg C [(.goto 24, 0)] (pc' := 73) (L' := [(0, .ref 196), (1, .int a1), (2, .ref t2)]) (S' := []) (by decide +kernel) rfl ?_
      exact sm_sub [0, 1, 2] rfl (s_X3_readRows_j73 F t2 C hr h2 a1 τ8)
    refine sm_ite (fun e => ?_) (fun n1_2 => ?_)
    · refine sm_tabIn (off := 51) 52 C hd1 (by rw [e]; decide) (by rw [e]; decide) (by rw [e]; decide) (by decide) ?_
      refine sm_seg C [(.aload_n 0, 0)] (pc' := 53) (L' := [(0, .ref 196), (1, .int a1), (2, .ref t2)]) (S' := [.ref 196]) (by decide +kernel) rfl ?_
      refine sm_getR 3 0 197 cls3 C (ltX (by decide +kernel : kdX 196 = 3) (by decide)) (by decide +kernel : kdX 196 = 3) (obX3 (by decide +kernel : kdX 196 = 3)) (by decide) (frX3_0 (by decide +kernel : kdX 196 = 3)) fl3_12 (by decide +kernel) ?_
      refine sm_ldcS C st_5 (by decide +kernel) ?_
      refine sm_vcalv [.ref (100000 + 5)] [] rfl C mw_X6_scan ml_3_31 rfl (ci := 6) rfl (ltX (krX3_0 (by decide +kernel : kdX 196 = 3)) (by decide)) (krX3_0 (by decide +kernel : kdX 196 = 3)) (by decide) ⟨by decide, by decide⟩ (Nat.le_of_ble_eq_true rfl) (by decide +kernel) (c_X6_scan F 5 (by decide : 5 < 30) τ) (fun r9 τ10 => ?_)
      refine sm_seg C [(.goto 12, 0)] (pc' := 73) (L' := [(0, .ref 196), (1, .int a1), (2, .ref t2)]) (S' := []) (by decide +kernel) rfl ?_
      exact sm_sub [0, 1, 2] rfl (s_X3_readRows_j73 F t2 C hr h2 a1 τ10)
    refine sm_tabOut 64 C hd1 (by have q0 := toInt_neZ (z := 1) n1_0 (by decide); have q1 := toInt_neZ (z := 2) n1_1 (by decide); have q2 := toInt_neZ (z := 3) n1_2 (by decide); omega) (by decide) ?_
    refine sm_seg C [(.aload_n 0, 0)] (pc' := 65) (L' := [(0, .ref 196), (1, .int a1), (2, .ref t2)]) (S' := [.ref 196]) (by decide +kernel) rfl ?_
    refine sm_getR 3 0 197 cls3 C (ltX (by decide +kernel : kdX 196 = 3) (by decide)) (by decide +kernel : kdX 196 = 3) (obX3 (by decide +kernel : kdX 196 = 3)) (by decide) (frX3_0 (by decide +kernel : kdX 196 = 3)) fl3_12 (by decide +kernel) ?_
    refine sm_vcalv [] [] rfl C mw_X6_clearFault ml_3_128 rfl (ci := 6) rfl (ltX (krX3_0 (by decide +kernel : kdX 196 = 3)) (by decide)) (krX3_0 (by decide +kernel : kdX 196 = 3)) (by decide) ⟨by decide, by decide⟩ (Nat.le_of_ble_eq_true rfl) (by decide +kernel) (c_X6_clearFault F τ) (fun r11 τ12 => ?_)
    refine sm_seg C [(.iconst (-1), (-1))] (pc' := 72) (L' := [(0, .ref 196), (1, .int a1), (2, .ref t2)]) (S' := [.int (-1)]) (by decide +kernel) rfl ?_
    exact sm_iret C hr rfl (by decide +kernel)) h
/-! BasketEnvoys_World.letThingsSayThemselves -/
def X9_letThingsSayThemselves_L2 (F : Nat) (t0 : Nat) : Nat → Int32 → Tau → Option (Int32 × Tau)
  | 0, _, _ => none
  | n + 1, a1, τ =>
    if 120 ≤ a1 then (some (0, τ)) else (ast τ (t0 + 47) 120 a1 (rmd a1 12) fun τ1 => X9_letThingsSayThemselves_L2 F t0 n (a1 + 1) τ1)
theorem s_X9_letThingsSayThemselves_L2 (F : Nat) (t0 : Nat) {K : Ctx} (C : Cx K sysX RX9 cX9_letThingsSayThemselves 2 1) (hr : Rt K none) (h0 : kdX t0 = 9) : ∀ (n : Nat) (a1 : Int32) (τ : Tau), Sm K sysX 2 (Qv K sysX) (X9_letThingsSayThemselves_L2 F t0 n a1 τ) 2 [(0, .ref t0), (1, .int a1)] [] τ := by
  intro n
  induction n with
  | zero => intro a1 τ; exact sm_none
  | succ n ih =>
    intro a1 τ
    rw [X9_letThingsSayThemselves_L2]
    refine sm_seg C [(.iload_n 1, 0), (.aload_n 0, 0)] (pc' := 4) (L' := [(0, .ref t0), (1, .int a1)]) (S' := [.ref t0, .int a1]) (by decide +kernel) rfl ?_
    refine sm_getR 9 5 (t0 + 47) cls9 C (ltX h0 (by decide)) h0 (obX9 h0) (by decide) (frX9_5 h0) fl9_39 (by decide +kernel) ?_
    refine sm_alen 20 0 120 (fun _ => rfl) C (ltX (krX9_5 h0) (by decide)) (krX9_5 h0) (by decide) (by decide) (nrX9_5 h0) rfl (by decide +kernel) ?_
    refine sm_icmpge 27 (off := 19) C (by decide +kernel) (by decide) (fun _ => ?_) (fun _ => ?_)
    · exact sm_vret C hr (by decide +kernel)
    · refine sm_seg C [(.aload_n 0, 0)] (pc' := 12) (L' := [(0, .ref t0), (1, .int a1)]) (S' := [.ref t0]) (by decide +kernel) rfl ?_
      refine sm_getR 9 5 (t0 + 47) cls9 C (ltX h0 (by decide)) h0 (obX9 h0) (by decide) (frX9_5 h0) fl9_39 (by decide +kernel) ?_
      refine sm_seg C [(.iload_n 1, 0), (.iload_n 1, 0), (.bipush 12, 12)] (pc' := 19) (L' := [(0, .ref t0), (1, .int a1)]) (S' := [.int 12, .int a1, .int a1, .ref (t0 + 47)]) (by decide +kernel) rfl ?_
      refine sm_irem C (by decide +kernel) (by decide) ?_
      refine sm_ast 120 C (ltX (krX9_5 h0) (by decide)) (krX9_5 h0) (nrX9_5 h0) (by decide +kernel) (fun τ1 => ?_)
      refine sm_seg C [(.iinc 1 1, 1), (.goto (-22), 0)] (pc' := 2) (L' := [(1, .int (a1 + 1)), (0, .ref t0)]) (S' := []) (by decide +kernel) rfl ?_
      exact sm_sub [1, 0] rfl (ih (a1 + 1) τ1)
def X9_letThingsSayThemselves (F : Nat) (t0 : Nat) (τ : Tau) : Option (Int32 × Tau) :=
  X9_letThingsSayThemselves_L2 F t0 F 0 τ
set_option maxRecDepth 20000 in
set_option maxHeartbeats 4000000 in
theorem c_X9_letThingsSayThemselves (F : Nat) (t0 : Nat) (h0 : kdX t0 = 9) (τ : Tau) (r : Int32) (τ' : Tau) (h : X9_letThingsSayThemselves F t0 τ = some (r, τ')) : MCv sysX yX9_letThingsSayThemselves cX9_letThingsSayThemselves 2 1 [.ref t0] τ τ' :=
  mcv_of (by decide +kernel) (Nat.le_of_ble_eq_true rfl) (fun K C hr => by
    show Sm K sysX 2 (Qv K sysX) (X9_letThingsSayThemselves F t0 τ) 0 [(0, .ref t0)] [] τ
    unfold X9_letThingsSayThemselves
    refine sm_seg C [(.iconst 0, 0), (.istore_n 1, 0)] (pc' := 2) (L' := [(1, .int 0), (0, .ref t0)]) (S' := []) (by decide +kernel) rfl ?_
    exact sm_sub [1, 0] rfl (s_X9_letThingsSayThemselves_L2 F t0 C hr h0 F 0 τ)) h
/-! BasketEnvoys_World.tellTongues -/
def X9_tellTongues_L6 (F : Nat) (t0 : Nat) (t1 : Nat) : Nat → Int32 → Int32 → Tau → Option (Int32 × Tau)
  | 0, _, _, _ => none
  | n + 1, a2, a3, τ =>
    if a2 ≤ a3 then (some (0, τ)) else (cal (X10_entry F t1 ((8 * a3) + 1) τ) fun r3 τ4 => cal (X10_entry F t1 (8 * a3) τ4) fun r5 τ6 => cal (X10_entry F t1 ((8 * a3) + 2) τ6) fun r7 τ8 => cal (X10_put F (t0 + 47) ((12 * r5) + r3) r7 1 τ8) fun r9 τ10 => X9_tellTongues_L6 F t0 t1 n a2 (a3 + 1) τ10)
theorem s_X9_tellTongues_L6 (F : Nat) (t0 : Nat) (t1 : Nat) {K : Ctx} (C : Cx K sysX RX9 cX9_tellTongues 6 2) (hr : Rt K none) (h0 : kdX t0 = 9) (h1 : kdX t1 = 20) : ∀ (n : Nat) (a2 : Int32) (a3 : Int32) (τ : Tau), Sm K sysX 6 (Qv K sysX) (X9_tellTongues_L6 F t0 t1 n a2 a3 τ) 6 [(0, .ref t0), (1, .ref t1), (2, .int a2), (3, .int a3)] [] τ := by
  intro n
  induction n with
  | zero => intro a2 a3 τ; exact sm_none
  | succ n ih =>
    intro a2 a3 τ
    rw [X9_tellTongues_L6]
    refine sm_seg C [(.iload_n 3, 0), (.iload_n 2, 0)] (pc' := 8) (L' := [(0, .ref t0), (1, .ref t1), (2, .int a2), (3, .int a3)]) (S' := [.int a2, .int a3]) (by decide +kernel) rfl ?_
    refine sm_icmpge 66 (off := 58) C (by decide +kernel) (by decide) (fun _ => ?_) (fun _ => ?_)
    · exact sm_vret C hr (by decide +kernel)
    · refine sm_seg C [(.aload_n 1, 0), (.bipush 8, 8), (.iload_n 3, 0), (.imul, 0), (.iconst 1, 1), (.iadd, 0)] (pc' := 18) (L' := [(0, .ref t0), (1, .ref t1), (2, .int a2), (3, .int a3)]) (S' := [.int ((8 * a3) + 1), .ref t1]) (by decide +kernel) rfl ?_
      refine sm_ncal "BasketEnvoys" [.ref t1, .int ((8 * a3) + 1)] [] rfl C mw_X10_entry ml_9_78 rfl ⟨by decide, by decide⟩ (Nat.le_of_ble_eq_true rfl) (by decide +kernel) (c_X10_entry F t1 h1 ((8 * a3) + 1) τ) (fun r3 τ4 => ?_)
      refine sm_seg C [(.istore 4, 0), (.aload_n 1, 0), (.bipush 8, 8), (.iload_n 3, 0), (.imul, 0)] (pc' := 28) (L' := [(4, .int r3), (0, .ref t0), (1, .ref t1), (2, .int a2), (3, .int a3)]) (S' := [.int (8 * a3), .ref t1]) (by decide +kernel) rfl ?_
      refine sm_ncal "BasketEnvoys" [.ref t1, .int (8 * a3)] [] rfl C mw_X10_entry ml_9_78 rfl ⟨by decide, by decide⟩ (Nat.le_of_ble_eq_true rfl) (by decide +kernel) (c_X10_entry F t1 h1 (8 * a3) τ4) (fun r5 τ6 => ?_)
      refine sm_seg C [(.istore 5, 0), (.aload_n 0, 0)] (pc' := 34) (L' := [(5, .int r5), (4, .int r3), (0, .ref t0), (1, .ref t1), (2, .int a2), (3, .int a3)]) (S' := [.ref t0]) (by decide +kernel) rfl ?_
      refine sm_getR 9 5 (t0 + 47) cls9 C (ltX h0 (by decide)) h0 (obX9 h0) (by decide) (frX9_5 h0) fl9_39 (by decide +kernel) ?_
      refine sm_seg C [(.bipush 12, 12), (.iload 5, 0), (.imul, 0), (.iload 4, 0), (.iadd, 0), (.aload_n 1, 0), (.bipush 8, 8), (.iload_n 3, 0), (.imul, 0), (.iconst 2, 2), (.iadd, 0)] (pc' := 52) (L' := [(5, .int r5), (4, .int r3), (0, .ref t0), (1, .ref t1), (2, .int a2), (3, .int a3)]) (S' := [.int ((8 * a3) + 2), .ref t1, .int ((12 * r5) + r3), .ref (t0 + 47)]) (by decide +kernel) rfl ?_
      refine sm_ncal "BasketEnvoys" [.ref t1, .int ((8 * a3) + 2)] [.int ((12 * r5) + r3), .ref (t0 + 47)] rfl C mw_X10_entry ml_9_78 rfl ⟨by decide, by decide⟩ (Nat.le_of_ble_eq_true rfl) (by decide +kernel) (c_X10_entry F t1 h1 ((8 * a3) + 2) τ6) (fun r7 τ8 => ?_)
      refine sm_seg C [(.iconst 1, 1)] (pc' := 56) (L' := [(5, .int r5), (4, .int r3), (0, .ref t0), (1, .ref t1), (2, .int a2), (3, .int a3)]) (S' := [.int 1, .int r7, .int ((12 * r5) + r3), .ref (t0 + 47)]) (by decide +kernel) rfl ?_
      refine sm_ncal "BasketEnvoys" [.ref (t0 + 47), .int ((12 * r5) + r3), .int r7, .int 1] [] rfl C mw_X10_put ml_9_82 rfl ⟨by decide, by decide⟩ (Nat.le_of_ble_eq_true rfl) (by decide +kernel) (c_X10_put F (t0 + 47) (krX9_5 h0) ((12 * r5) + r3) r7 1 τ8) (fun r9 τ10 => ?_)
      refine sm_seg C [(.pop, 0), (.iinc 3 1, 1), (.goto (-57), 0)] (pc' := 6) (L' := [(3, .int (a3 + 1)), (5, .int r5), (4, .int r3), (0, .ref t0), (1, .ref t1), (2, .int a2)]) (S' := []) (by decide +kernel) rfl ?_
      exact sm_sub [3, 4, 5, 0] rfl (ih a2 (a3 + 1) τ10)
def X9_tellTongues (F : Nat) (t0 : Nat) (t1 : Nat) (a2 : Int32) (τ : Tau) : Option (Int32 × Tau) :=
  cal (X9_letThingsSayThemselves F t0 τ) fun r1 τ2 => X9_tellTongues_L6 F t0 t1 F a2 0 τ2
set_option maxRecDepth 20000 in
set_option maxHeartbeats 4000000 in
theorem c_X9_tellTongues (F : Nat) (t0 : Nat) (t1 : Nat) (h0 : kdX t0 = 9) (h1 : kdX t1 = 20) (a2 : Int32) (τ : Tau) (r : Int32) (τ' : Tau) (h : X9_tellTongues F t0 t1 a2 τ = some (r, τ')) : MCv sysX yX9_tellTongues cX9_tellTongues 6 2 [.ref t0, .ref t1, .int a2] τ τ' :=
  mcv_of (by decide +kernel) (Nat.le_of_ble_eq_true rfl) (fun K C hr => by
    show Sm K sysX 6 (Qv K sysX) (X9_tellTongues F t0 t1 a2 τ) 0 [(0, .ref t0), (1, .ref t1), (2, .int a2)] [] τ
    unfold X9_tellTongues
    refine sm_seg C [(.aload_n 0, 0)] (pc' := 1) (L' := [(0, .ref t0), (1, .ref t1), (2, .int a2)]) (S' := [.ref t0]) (by decide +kernel) rfl ?_
    refine sm_vcalv [] [] rfl C mw_X9_letThingsSayThemselves ml_9_51 rfl (ci := 9) rfl (ltX h0 (by decide)) h0 (by decide) ⟨by decide, by decide⟩ (Nat.le_of_ble_eq_true rfl) (by decide +kernel) (c_X9_letThingsSayThemselves F t0 h0 τ) (fun r1 τ2 => ?_)
    refine sm_seg C [(.iconst 0, 0), (.istore_n 3, 0)] (pc' := 6) (L' := [(3, .int 0), (0, .ref t0), (1, .ref t1), (2, .int a2)]) (S' := []) (by decide +kernel) rfl ?_
    exact sm_sub [1, 2, 3, 0] rfl (s_X9_tellTongues_L6 F t0 t1 C hr h0 h1 F a2 0 τ2)) h
/-! BasketEnvoys_World.tellCourt -/
def X9_tellCourt_L10 (F : Nat) (self2 : Int32 → Int32 → Tau → Option (Int32 × Tau)) (t0 : Nat) (t1 : Nat) : Nat → Int32 → Int32 → Int32 → Tau → Option (Int32 × Tau)
  | 0, _, _, _, _ => none
  | n + 1, a2, a3, a4, τ =>
    if 4 ≤ a4 then (self2 a2 (a3 + 1) τ) else (cal (X10_entry F t1 ((8 * a3) + a4) τ) fun r1 τ2 => cal (X10_put F (t0 + 48) ((4 * a3) + a4) r1 1 τ2) fun r3 τ4 => X9_tellCourt_L10 F self2 t0 t1 n a2 a3 (a4 + 1) τ4)
theorem s_X9_tellCourt_L10 (F : Nat) (t0 : Nat) (t1 : Nat) {K : Ctx} (C : Cx K sysX RX9 cX9_tellCourt 5 2) (hr : Rt K none) (h0 : kdX t0 = 9) (h1 : kdX t1 = 20) (self2 : Int32 → Int32 → Tau → Option (Int32 × Tau)) (ih2 : ∀ (a2 : Int32) (a3 : Int32) (τ : Tau), Sm K sysX 5 (Qv K sysX) (self2 a2 a3 τ) 2 [(0, .ref t0), (1, .ref t1), (2, .int a2), (3, .int a3)] [] τ) : ∀ (n : Nat) (a2 : Int32) (a3 : Int32) (a4 : Int32) (τ : Tau), Sm K sysX 5 (Qv K sysX) (X9_tellCourt_L10 F self2 t0 t1 n a2 a3 a4 τ) 10 [(0, .ref t0), (1, .ref t1), (2, .int a2), (3, .int a3), (4, .int a4)] [] τ := by
  intro n
  induction n with
  | zero => intro a2 a3 a4 τ; exact sm_none
  | succ n ih =>
    intro a2 a3 a4 τ
    rw [X9_tellCourt_L10]
    refine sm_seg C [(.iload 4, 0), (.iconst 4, 4)] (pc' := 13) (L' := [(0, .ref t0), (1, .ref t1), (2, .int a2), (3, .int a3), (4, .int a4)]) (S' := [.int 4, .int a4]) (by decide +kernel) rfl ?_
    refine sm_icmpge 48 (off := 35) C (by decide +kernel) (by decide) (fun _ => ?_) (fun _ => ?_)
    · refine sm_seg C [(.iinc 3 1, 1), (.goto (-49), 0)] (pc' := 2) (L' := [(3, .int (a3 + 1)), (0, .ref t0), (1, .ref t1), (2, .int a2), (4, .int a4)]) (S' := []) (by decide +kernel) rfl ?_
      exact sm_sub [1, 2, 3, 0] rfl (ih2 a2 (a3 + 1) τ)
    · refine sm_seg C [(.aload_n 0, 0)] (pc' := 17) (L' := [(0, .ref t0), (1, .ref t1), (2, .int a2), (3, .int a3), (4, .int a4)]) (S' := [.ref t0]) (by decide +kernel) rfl ?_
      refine sm_getR 9 6 (t0 + 48) cls9 C (ltX h0 (by decide)) h0 (obX9 h0) (by decide) (frX9_6 h0) fl9_42 (by decide +kernel) ?_
      refine sm_seg C [(.iconst 4, 4), (.iload_n 3, 0), (.imul, 0), (.iload 4, 0), (.iadd, 0), (.aload_n 1, 0), (.bipush 8, 8), (.iload_n 3, 0), (.imul, 0), (.iload 4, 0), (.iadd, 0)] (pc' := 34) (L' := [(0, .ref t0), (1, .ref t1), (2, .int a2), (3, .int a3), (4, .int a4)]) (S' := [.int ((8 * a3) + a4), .ref t1, .int ((4 * a3) + a4), .ref (t0 + 48)]) (by decide +kernel) rfl ?_
      refine sm_ncal "BasketEnvoys" [.ref t1, .int ((8 * a3) + a4)] [.int ((4 * a3) + a4), .ref (t0 + 48)] rfl C mw_X10_entry ml_9_78 rfl ⟨by decide, by decide⟩ (Nat.le_of_ble_eq_true rfl) (by decide +kernel) (c_X10_entry F t1 h1 ((8 * a3) + a4) τ) (fun r1 τ2 => ?_)
      refine sm_seg C [(.iconst 1, 1)] (pc' := 38) (L' := [(0, .ref t0), (1, .ref t1), (2, .int a2), (3, .int a3), (4, .int a4)]) (S' := [.int 1, .int r1, .int ((4 * a3) + a4), .ref (t0 + 48)]) (by decide +kernel) rfl ?_
      refine sm_ncal "BasketEnvoys" [.ref (t0 + 48), .int ((4 * a3) + a4), .int r1, .int 1] [] rfl C mw_X10_put ml_9_82 rfl ⟨by decide, by decide⟩ (Nat.le_of_ble_eq_true rfl) (by decide +kernel) (c_X10_put F (t0 + 48) (krX9_6 h0) ((4 * a3) + a4) r1 1 τ2) (fun r3 τ4 => ?_)
      refine sm_seg C [(.pop, 0), (.iinc 4 1, 1), (.goto (-35), 0)] (pc' := 10) (L' := [(4, .int (a4 + 1)), (0, .ref t0), (1, .ref t1), (2, .int a2), (3, .int a3)]) (S' := []) (by decide +kernel) rfl ?_
      exact sm_sub [1, 2, 3, 4, 0] rfl (ih a2 a3 (a4 + 1) τ4)
def X9_tellCourt_L2 (F : Nat) (t0 : Nat) (t1 : Nat) : Nat → Int32 → Int32 → Tau → Option (Int32 × Tau)
  | 0, _, _, _ => none
  | n + 1, a2, a3, τ =>
    if a2 ≤ a3 then (some (0, τ)) else (X9_tellCourt_L10 F (X9_tellCourt_L2 F t0 t1 n) t0 t1 F a2 a3 0 τ)
theorem s_X9_tellCourt_L2 (F : Nat) (t0 : Nat) (t1 : Nat) {K : Ctx} (C : Cx K sysX RX9 cX9_tellCourt 5 2) (hr : Rt K none) (h0 : kdX t0 = 9) (h1 : kdX t1 = 20) : ∀ (n : Nat) (a2 : Int32) (a3 : Int32) (τ : Tau), Sm K sysX 5 (Qv K sysX) (X9_tellCourt_L2 F t0 t1 n a2 a3 τ) 2 [(0, .ref t0), (1, .ref t1), (2, .int a2), (3, .int a3)] [] τ := by
  intro n
  induction n with
  | zero => intro a2 a3 τ; exact sm_none
  | succ n ih =>
    intro a2 a3 τ
    rw [X9_tellCourt_L2]
    refine sm_seg C [(.iload_n 3, 0), (.iload_n 2, 0)] (pc' := 4) (L' := [(0, .ref t0), (1, .ref t1), (2, .int a2), (3, .int a3)]) (S' := [.int a2, .int a3]) (by decide +kernel) rfl ?_
    refine sm_icmpge 54 (off := 50) C (by decide +kernel) (by decide) (fun _ => ?_) (fun _ => ?_)
    · exact sm_vret C hr (by decide +kernel)
    · refine sm_seg C [(.iconst 0, 0), (.istore 4, 0)] (pc' := 10) (L' := [(4, .int 0), (0, .ref t0), (1, .ref t1), (2, .int a2), (3, .int a3)]) (S' := []) (by decide +kernel) rfl ?_
      exact sm_sub [1, 2, 3, 4, 0] rfl (s_X9_tellCourt_L10 F t0 t1 C hr h0 h1 (X9_tellCourt_L2 F t0 t1 n) ih F a2 a3 0 τ)
def X9_tellCourt (F : Nat) (t0 : Nat) (t1 : Nat) (a2 : Int32) (τ : Tau) : Option (Int32 × Tau) :=
  X9_tellCourt_L2 F t0 t1 F a2 0 τ
set_option maxRecDepth 20000 in
set_option maxHeartbeats 4000000 in
theorem c_X9_tellCourt (F : Nat) (t0 : Nat) (t1 : Nat) (h0 : kdX t0 = 9) (h1 : kdX t1 = 20) (a2 : Int32) (τ : Tau) (r : Int32) (τ' : Tau) (h : X9_tellCourt F t0 t1 a2 τ = some (r, τ')) : MCv sysX yX9_tellCourt cX9_tellCourt 5 2 [.ref t0, .ref t1, .int a2] τ τ' :=
  mcv_of (by decide +kernel) (Nat.le_of_ble_eq_true rfl) (fun K C hr => by
    show Sm K sysX 5 (Qv K sysX) (X9_tellCourt F t0 t1 a2 τ) 0 [(0, .ref t0), (1, .ref t1), (2, .int a2)] [] τ
    unfold X9_tellCourt
    refine sm_seg C [(.iconst 0, 0), (.istore_n 3, 0)] (pc' := 2) (L' := [(3, .int 0), (0, .ref t0), (1, .ref t1), (2, .int a2)]) (S' := []) (by decide +kernel) rfl ?_
    exact sm_sub [1, 2, 3, 0] rfl (s_X9_tellCourt_L2 F t0 t1 C hr h0 h1 F a2 0 τ)) h
/-! BasketEnvoys_World.tellWants -/
def X9_tellWants_L60 (F : Nat) (self21 : Int32 → Int32 → Tau → Option (Int32 × Tau)) (t0 : Nat) (t1 : Nat) : Nat → Int32 → Int32 → Int32 → Int32 → Tau → Option (Int32 × Tau)
  | 0, _, _, _, _, _ => none
  | n + 1, a2, a3, a4, a5, τ =>
    if 6 ≤ a5 then (self21 a2 (a3 + 1) τ) else (cal (X10_entry F t1 (((8 * a3) + 2) + a5) τ) fun r11 τ12 => cal (X10_put F (t0 + 49) ((6 * a4) + a5) r11 1 τ12) fun r13 τ14 => X9_tellWants_L60 F self21 t0 t1 n a2 a3 a4 (a5 + 1) τ14)
theorem s_X9_tellWants_L60 (F : Nat) (t0 : Nat) (t1 : Nat) {K : Ctx} (C : Cx K sysX RX9 cX9_tellWants 6 2) (hr : Rt K none) (h0 : kdX t0 = 9) (h1 : kdX t1 = 20) (self21 : Int32 → Int32 → Tau → Option (Int32 × Tau)) (ih21 : ∀ (a2 : Int32) (a3 : Int32) (τ : Tau), Sm K sysX 6 (Qv K sysX) (self21 a2 a3 τ) 21 [(0, .ref t0), (1, .ref t1), (2, .int a2), (3, .int a3)] [] τ) : ∀ (n : Nat) (a2 : Int32) (a3 : Int32) (a4 : Int32) (a5 : Int32) (τ : Tau), Sm K sysX 6 (Qv K sysX) (X9_tellWants_L60 F self21 t0 t1 n a2 a3 a4 a5 τ) 60 [(0, .ref t0), (1, .ref t1), (2, .int a2), (3, .int a3), (4, .int a4), (5, .int a5)] [] τ := by
  intro n
  induction n with
  | zero => intro a2 a3 a4 a5 τ; exact sm_none
  | succ n ih =>
    intro a2 a3 a4 a5 τ
    rw [X9_tellWants_L60]
    refine sm_seg C [(.iload 5, 0), (.bipush 6, 6)] (pc' := 64) (L' := [(0, .ref t0), (1, .ref t1), (2, .int a2), (3, .int a3), (4, .int a4), (5, .int a5)]) (S' := [.int 6, .int a5]) (by decide +kernel) rfl ?_
    refine sm_icmpge 103 (off := 39) C (by decide +kernel) (by decide) (fun _ => ?_) (fun _ => ?_)
    · refine sm_seg C [(.iinc 3 1, 1), (.goto (-85), 0)] (pc' := 21) (L' := [(3, .int (a3 + 1)), (0, .ref t0), (1, .ref t1), (2, .int a2), (4, .int a4), (5, .int a5)]) (S' := []) (by decide +kernel) rfl ?_
      exact sm_sub [1, 2, 3, 0] rfl (ih21 a2 (a3 + 1) τ)
    · refine sm_seg C [(.aload_n 0, 0)] (pc' := 68) (L' := [(0, .ref t0), (1, .ref t1), (2, .int a2), (3, .int a3), (4, .int a4), (5, .int a5)]) (S' := [.ref t0]) (by decide +kernel) rfl ?_
      refine sm_getR 9 7 (t0 + 49) cls9 C (ltX h0 (by decide)) h0 (obX9 h0) (by decide) (frX9_7 h0) fl9_45 (by decide +kernel) ?_
      refine sm_seg C [(.bipush 6, 6), (.iload 4, 0), (.imul, 0), (.iload 5, 0), (.iadd, 0), (.aload_n 1, 0), (.bipush 8, 8), (.iload_n 3, 0), (.imul, 0), (.iconst 2, 2), (.iadd, 0), (.iload 5, 0), (.iadd, 0)] (pc' := 89) (L' := [(0, .ref t0), (1, .ref t1), (2, .int a2), (3, .int a3), (4, .int a4), (5, .int a5)]) (S' := [.int (((8 * a3) + 2) + a5), .ref t1, .int ((6 * a4) + a5), .ref (t0 + 49)]) (by decide +kernel) rfl ?_
      refine sm_ncal "BasketEnvoys" [.ref t1, .int (((8 * a3) + 2) + a5)] [.int ((6 * a4) + a5), .ref (t0 + 49)] rfl C mw_X10_entry ml_9_78 rfl ⟨by decide, by decide⟩ (Nat.le_of_ble_eq_true rfl) (by decide +kernel) (c_X10_entry F t1 h1 (((8 * a3) + 2) + a5) τ) (fun r11 τ12 => ?_)
      refine sm_seg C [(.iconst 1, 1)] (pc' := 93) (L' := [(0, .ref t0), (1, .ref t1), (2, .int a2), (3, .int a3), (4, .int a4), (5, .int a5)]) (S' := [.int 1, .int r11, .int ((6 * a4) + a5), .ref (t0 + 49)]) (by decide +kernel) rfl ?_
      refine sm_ncal "BasketEnvoys" [.ref (t0 + 49), .int ((6 * a4) + a5), .int r11, .int 1] [] rfl C mw_X10_put ml_9_82 rfl ⟨by decide, by decide⟩ (Nat.le_of_ble_eq_true rfl) (by decide +kernel) (c_X10_put F (t0 + 49) (krX9_7 h0) ((6 * a4) + a5) r11 1 τ12) (fun r13 τ14 => ?_)
      refine sm_seg C [(.pop, 0), (.iinc 5 1, 1), (.goto (-40), 0)] (pc' := 60) (L' := [(5, .int (a5 + 1)), (0, .ref t0), (1, .ref t1), (2, .int a2), (3, .int a3), (4, .int a4)]) (S' := []) (by decide +kernel) rfl ?_
      exact sm_sub [1, 2, 3, 4, 5, 0] rfl (ih a2 a3 a4 (a5 + 1) τ14)
def X9_tellWants_L21 (F : Nat) (t0 : Nat) (t1 : Nat) : Nat → Int32 → Int32 → Tau → Option (Int32 × Tau)
  | 0, _, _, _ => none
  | n + 1, a2, a3, τ =>
    if a2 ≤ a3 then (some (0, τ)) else (cal (X10_entry F t1 (8 * a3) τ) fun r5 τ6 => cal (X10_entry F t1 ((8 * a3) + 1) τ6) fun r7 τ8 => cal (X10_put F (t0 + 50) r5 r7 1 τ8) fun r9 τ10 => X9_tellWants_L60 F (X9_tellWants_L21 F t0 t1 n) t0 t1 F a2 a3 r5 0 τ10)
theorem s_X9_tellWants_L21 (F : Nat) (t0 : Nat) (t1 : Nat) {K : Ctx} (C : Cx K sysX RX9 cX9_tellWants 6 2) (hr : Rt K none) (h0 : kdX t0 = 9) (h1 : kdX t1 = 20) : ∀ (n : Nat) (a2 : Int32) (a3 : Int32) (τ : Tau), Sm K sysX 6 (Qv K sysX) (X9_tellWants_L21 F t0 t1 n a2 a3 τ) 21 [(0, .ref t0), (1, .ref t1), (2, .int a2), (3, .int a3)] [] τ := by
  intro n
  induction n with
  | zero => intro a2 a3 τ; exact sm_none
  | succ n ih =>
    intro a2 a3 τ
    rw [X9_tellWants_L21]
    refine sm_seg C [(.iload_n 3, 0), (.iload_n 2, 0)] (pc' := 23) (L' := [(0, .ref t0), (1, .ref t1), (2, .int a2), (3, .int a3)]) (S' := [.int a2, .int a3]) (by decide +kernel) rfl ?_
    refine sm_icmpge 109 (off := 86) C (by decide +kernel) (by decide) (fun _ => ?_) (fun _ => ?_)
    · exact sm_vret C hr (by decide +kernel)
    · refine sm_seg C [(.aload_n 1, 0), (.bipush 8, 8), (.iload_n 3, 0), (.imul, 0)] (pc' := 31) (L' := [(0, .ref t0), (1, .ref t1), (2, .int a2), (3, .int a3)]) (S' := [.int (8 * a3), .ref t1]) (by decide +kernel) rfl ?_
      refine sm_ncal "BasketEnvoys" [.ref t1, .int (8 * a3)] [] rfl C mw_X10_entry ml_9_78 rfl ⟨by decide, by decide⟩ (Nat.le_of_ble_eq_true rfl) (by decide +kernel) (c_X10_entry F t1 h1 (8 * a3) τ) (fun r5 τ6 => ?_)
      refine sm_seg C [(.istore 4, 0), (.aload_n 0, 0)] (pc' := 37) (L' := [(4, .int r5), (0, .ref t0), (1, .ref t1), (2, .int a2), (3, .int a3)]) (S' := [.ref t0]) (by decide +kernel) rfl ?_
      refine sm_getR 9 8 (t0 + 50) cls9 C (ltX h0 (by decide)) h0 (obX9 h0) (by decide) (frX9_8 h0) fl9_48 (by decide +kernel) ?_
      refine sm_seg C [(.iload 4, 0), (.aload_n 1, 0), (.bipush 8, 8), (.iload_n 3, 0), (.imul, 0), (.iconst 1, 1), (.iadd, 0)] (pc' := 49) (L' := [(4, .int r5), (0, .ref t0), (1, .ref t1), (2, .int a2), (3, .int a3)]) (S' := [.int ((8 * a3) + 1), .ref t1, .int r5, .ref (t0 + 50)]) (by decide +kernel) rfl ?_
      refine sm_ncal "BasketEnvoys" [.ref t1, .int ((8 * a3) + 1)] [.int r5, .ref (t0 + 50)] rfl C mw_X10_entry ml_9_78 rfl ⟨by decide, by decide⟩ (Nat.le_of_ble_eq_true rfl) (by decide +kernel) (c_X10_entry F t1 h1 ((8 * a3) + 1) τ6) (fun r7 τ8 => ?_)
      refine sm_seg C [(.iconst 1, 1)] (pc' := 53) (L' := [(4, .int r5), (0, .ref t0), (1, .ref t1), (2, .int a2), (3, .int a3)]) (S' := [.int 1, .int r7, .int r5, .ref (t0 + 50)]) (by decide +kernel) rfl ?_
      refine sm_ncal "BasketEnvoys" [.ref (t0 + 50), .int r5, .int r7, .int 1] [] rfl C mw_X10_put ml_9_82 rfl ⟨by decide, by decide⟩ (Nat.le_of_ble_eq_true rfl) (by decide +kernel) (c_X10_put F (t0 + 50) (krX9_8 h0) r5 r7 1 τ8) (fun r9 τ10 => ?_)
      refine sm_seg C [(.pop, 0), (.iconst 0, 0), (.istore 5, 0)] (pc' := 60) (L' := [(5, .int 0), (4, .int r5), (0, .ref t0), (1, .ref t1), (2, .int a2), (3, .int a3)]) (S' := []) (by decide +kernel) rfl ?_
      exact sm_sub [2, 3, 4, 5, 1, 0] rfl (s_X9_tellWants_L60 F t0 t1 C hr h0 h1 (X9_tellWants_L21 F t0 t1 n) ih F a2 a3 r5 0 τ10)
def X9_tellWants (F : Nat) (t0 : Nat) (t1 : Nat) (a2 : Int32) (τ : Tau) : Option (Int32 × Tau) :=
  cal (X_Arrays_fill___II_V F (t0 + 50) 0 τ) fun r1 τ2 => cal (X_Arrays_fill___II_V F (t0 + 3) 0 τ2) fun r3 τ4 => X9_tellWants_L21 F t0 t1 F a2 0 τ4
set_option maxRecDepth 20000 in
set_option maxHeartbeats 4000000 in
theorem c_X9_tellWants (F : Nat) (t0 : Nat) (t1 : Nat) (h0 : kdX t0 = 9) (h1 : kdX t1 = 20) (a2 : Int32) (τ : Tau) (r : Int32) (τ' : Tau) (h : X9_tellWants F t0 t1 a2 τ = some (r, τ')) : MCv sysX yX9_tellWants cX9_tellWants 6 2 [.ref t0, .ref t1, .int a2] τ τ' :=
  mcv_of (by decide +kernel) (Nat.le_of_ble_eq_true rfl) (fun K C hr => by
    show Sm K sysX 6 (Qv K sysX) (X9_tellWants F t0 t1 a2 τ) 0 [(0, .ref t0), (1, .ref t1), (2, .int a2)] [] τ
    unfold X9_tellWants
    refine sm_seg C [(.aload_n 0, 0)] (pc' := 1) (L' := [(0, .ref t0), (1, .ref t1), (2, .int a2)]) (S' := [.ref t0]) (by decide +kernel) rfl ?_
    refine sm_getR 9 8 (t0 + 50) cls9 C (ltX h0 (by decide)) h0 (obX9 h0) (by decide) (frX9_8 h0) fl9_48 (by decide +kernel) ?_
    refine sm_seg C [(.iconst 0, 0)] (pc' := 5) (L' := [(0, .ref t0), (1, .ref t1), (2, .int a2)]) (S' := [.int 0, .ref (t0 + 50)]) (by decide +kernel) rfl ?_
    refine sm_scalv [.ref (t0 + 50), .int 0] [] rfl C mw_Arrays_fill___II_V ml_9_86 rfl ⟨by decide, by decide⟩ (Nat.le_of_ble_eq_true rfl) (by decide +kernel) (c_X_Arrays_fill___II_V F (t0 + 50) (krX9_8 h0) 0 τ) (fun r1 τ2 => ?_)
    refine sm_seg C [(.aload_n 0, 0)] (pc' := 9) (L' := [(0, .ref t0), (1, .ref t1), (2, .int a2)]) (S' := [.ref t0]) (by decide +kernel) rfl ?_
    refine sm_getR 9 0 (t0 + 1) cls9 C (ltX h0 (by decide)) h0 (obX9 h0) (by decide) (frX9_0 h0) fl9_12 (by decide +kernel) ?_
    refine sm_getR 8 8 (t0 + 3) cls8 C (ltX (krX9_0 h0) (by decide)) (krX9_0 h0) (obX8 (krX9_0 h0)) (by decide) (frX8_8 (krX9_0 h0)) fl9_91 (by decide +kernel) ?_
    refine sm_seg C [(.iconst 0, 0)] (pc' := 16) (L' := [(0, .ref t0), (1, .ref t1), (2, .int a2)]) (S' := [.int 0, .ref (t0 + 3)]) (by decide +kernel) rfl ?_
    refine sm_scalv [.ref (t0 + 3), .int 0] [] rfl C mw_Arrays_fill___II_V ml_9_86 rfl ⟨by decide, by decide⟩ (Nat.le_of_ble_eq_true rfl) (by decide +kernel) (c_X_Arrays_fill___II_V F (t0 + 3) (krX8_8 (krX9_0 h0)) 0 τ2) (fun r3 τ4 => ?_)
    refine sm_seg C [(.iconst 0, 0), (.istore_n 3, 0)] (pc' := 21) (L' := [(3, .int 0), (0, .ref t0), (1, .ref t1), (2, .int a2)]) (S' := []) (by decide +kernel) rfl ?_
    exact sm_sub [1, 2, 3, 0] rfl (s_X9_tellWants_L21 F t0 t1 C hr h0 h1 F a2 0 τ4)) h
/-! BasketEnvoys_World.tell -/
def X9_tell_j56 (F : Nat) (t0 : Nat) (t2 : Nat) (a1 : Int32) (a3 : Int32) (τ : Tau) : Option (Int32 × Tau) :=
  ast τ (t0 + 46) 4 a1 a3 fun τ3 => some (0, τ3)
theorem s_X9_tell_j56 (F : Nat) (t0 : Nat) (t2 : Nat) {K : Ctx} (C : Cx K sysX RX9 cX9_tell 4 3) (hr : Rt K none) (h0 : kdX t0 = 9) (h2 : kdX t2 = 20) (a1 : Int32) (a3 : Int32) (τ : Tau) : Sm K sysX 4 (Qv K sysX) (X9_tell_j56 F t0 t2 a1 a3 τ) 56 [(0, .ref t0), (1, .int a1), (3, .int a3)] [] τ := by
  unfold X9_tell_j56
  refine sm_seg C [(.aload_n 0, 0)] (pc' := 57) (L' := [(0, .ref t0), (1, .int a1), (3, .int a3)]) (S' := [.ref t0]) (by decide +kernel) rfl ?_
  refine sm_getR 9 4 (t0 + 46) cls9 C (ltX h0 (by decide)) h0 (obX9 h0) (by decide) (frX9_4 h0) fl9_36 (by decide +kernel) ?_
  refine sm_seg C [(.iload_n 1, 0), (.iload_n 3, 0)] (pc' := 62) (L' := [(0, .ref t0), (1, .int a1), (3, .int a3)]) (S' := [.int a3, .int a1, .ref (t0 + 46)]) (by decide +kernel) rfl ?_
  refine sm_ast 4 C (ltX (krX9_4 h0) (by decide)) (krX9_4 h0) (nrX9_4 h0) (by decide +kernel) (fun τ3 => ?_)
  exact sm_vret C hr (by decide +kernel)
def X9_tell (F : Nat) (t0 : Nat) (t2 : Nat) (a1 : Int32) (a3 : Int32) (τ : Tau) : Option (Int32 × Tau) :=
  if a1 = 1 then (cal (X9_tellTongues F t0 t2 a3 τ) fun r1 τ2 => X9_tell_j56 F t0 t2 a1 a3 τ2) else if a1 = 2 then (cal (X9_tellCourt F t0 t2 a3 τ) fun r4 τ5 => X9_tell_j56 F t0 t2 a1 a3 τ5) else if a1 = 3 then (cal (X9_tellWants F t0 t2 a3 τ) fun r6 τ7 => X9_tell_j56 F t0 t2 a1 a3 τ7) else (some (0, τ))
set_option maxRecDepth 20000 in
set_option maxHeartbeats 4000000 in
theorem c_X9_tell (F : Nat) (t0 : Nat) (t2 : Nat) (h0 : kdX t0 = 9) (h2 : kdX t2 = 20) (a1 : Int32) (a3 : Int32) (τ : Tau) (r : Int32) (τ' : Tau) (h : X9_tell F t0 t2 a1 a3 τ = some (r, τ')) : MCv sysX yX9_tell cX9_tell 4 3 [.ref t0, .int a1, .ref t2, .int a3] τ τ' :=
  mcv_of (by decide +kernel) (Nat.le_of_ble_eq_true rfl) (fun K C hr => by
    show Sm K sysX 4 (Qv K sysX) (X9_tell F t0 t2 a1 a3 τ) 0 [(0, .ref t0), (1, .int a1), (2, .ref t2), (3, .int a3)] [] τ
    unfold X9_tell
    refine sm_seg C [(.iload_n 1, 0)] (pc' := 1) (L' := [(0, .ref t0), (1, .int a1), (2, .ref t2), (3, .int a3)]) (S' := [.int a1]) (by decide +kernel) rfl ?_
    have hd1 : decode cX9_tell 1 = .ok (.tableswitch 54 1 3 #[27, 36, 45], 27) := by decide +kernel
    refine sm_ite (fun e => ?_) (fun n1_0 => ?_)
    · refine sm_tabIn (off := 27) 28 C hd1 (by rw [e]; decide) (by rw [e]; decide) (by rw [e]; decide) (by decide) ?_
      refine sm_seg C [(.aload_n 0, 0), (.aload_n 2, 0), (.iload_n 3, 0)] (pc' := 31) (L' := [(0, .ref t0), (1, .int a1), (2, .ref t2), (3, .int a3)]) (S' := [.int a3, .ref t2, .ref t0]) (by decide +kernel) rfl ?_
      refine sm_vcalv [.ref t2, .int a3] [] rfl C mw_X9_tellTongues ml_9_68 rfl (ci := 9) rfl (ltX h0 (by decide)) h0 (by decide) ⟨by decide, by decide⟩ (Nat.le_of_ble_eq_true rfl) (by decide +kernel) (c_X9_tellTongues F t0 t2 h0 h2 a3 τ) (fun r1 τ2 => ?_)
      refine sm_seg C [(.goto 22, 0)] (pc' := 56) (L' := [(0, .ref t0), (1, .int a1), (2, .ref t2), (3, .int a3)]) (S' := []) (by decide +kernel) rfl ?_
      exact sm_sub [0, 1, 3] rfl (s_X9_tell_j56 F t0 t2 C hr h0 h2 a1 a3 τ2)
    refine sm_ite (fun e => ?_) (fun n1_1 => ?_)
    · refine sm_tabIn (off := 36) 37 C hd1 (by rw [e]; decide) (by rw [e]; decide) (by rw [e]; decide) (by decide) ?_
      refine sm_seg C [(.aload_n 0, 0), (.aload_n 2, 0), (.iload_n 3, 0)] (pc' := 40) (L' := [(0, .ref t0), (1, .int a1), (2, .ref t2), (3, .int a3)]) (S' := [.int a3, .ref t2, .ref t0]) (by decide +kernel) rfl ?_
      refine sm_vcalv [.ref t2, .int a3] [] rfl C mw_X9_tellCourt ml_9_72 rfl (ci := 9) rfl (ltX h0 (by decide)) h0 (by decide) ⟨by decide, by decide⟩ (Nat.le_of_ble_eq_true rfl) (by decide +kernel) (c_X9_tellCourt F t0 t2 h0 h2 a3 τ) (fun r4 τ5 => ?_)
      refine sm_seg C [(.goto 13, 0)] (pc' := 56) (L' := [(0, .ref t0), (1, .int a1), (2, .ref t2), (3, .int a3)]) (S' := []) (by decide +kernel) rfl ?_
      exact sm_sub [0, 1, 3] rfl (s_X9_tell_j56 F t0 t2 C hr h0 h2 a1 a3 τ5)
    refine sm_ite (fun e => ?_) (fun n1_2 => ?_)
    · refine sm_tabIn (off := 45) 46 C hd1 (by rw [e]; decide) (by rw [e]; decide) (by rw [e]; decide) (by decide) ?_
      refine sm_seg C [(.aload_n 0, 0), (.aload_n 2, 0), (.iload_n 3, 0)] (pc' := 49) (L' := [(0, .ref t0), (1, .int a1), (2, .ref t2), (3, .int a3)]) (S' := [.int a3, .ref t2, .ref t0]) (by decide +kernel) rfl ?_
      refine sm_vcalv [.ref t2, .int a3] [] rfl C mw_X9_tellWants ml_9_75 rfl (ci := 9) rfl (ltX h0 (by decide)) h0 (by decide) ⟨by decide, by decide⟩ (Nat.le_of_ble_eq_true rfl) (by decide +kernel) (c_X9_tellWants F t0 t2 h0 h2 a3 τ) (fun r6 τ7 => ?_)
      refine sm_seg C [(.goto 4, 0)] (pc' := 56) (L' := [(0, .ref t0), (1, .int a1), (2, .ref t2), (3, .int a3)]) (S' := []) (by decide +kernel) rfl ?_
      exact sm_sub [0, 1, 3] rfl (s_X9_tell_j56 F t0 t2 C hr h0 h2 a1 a3 τ7)
    refine sm_tabOut 55 C hd1 (by have q0 := toInt_neZ (z := 1) n1_0 (by decide); have q1 := toInt_neZ (z := 2) n1_1 (by decide); have q2 := toInt_neZ (z := 3) n1_2 (by decide); omega) (by decide) ?_
    exact sm_vret C hr (by decide +kernel)) h
/-! BasketEnvoys.text -/
def X10_text_j29 (F : Nat) (a1 : Int32) (z0 : Int32) (τ : Tau) : Option (Int32 × Tau) :=
  pst τ 197 0 0 fun τ3 => if z0 = (-1) then (some ((-1), τ3)) else (if a1 = 0 then (cal (X2_copyFrom F 39 203 τ3) fun r4 τ5 => some (z0, τ5)) else (cal (X9_tell F 1 210 a1 z0 τ3) fun r6 τ7 => cal (X1_forget F τ7) fun r8 τ9 => some (z0, τ9)))
theorem s_X10_text_j29 (F : Nat) {K : Ctx} (C : Cx K sysX RX10 cX10_text 3 32) (hr : Rt K (some .int)) (a1 : Int32) (z0 : Int32) (τ : Tau) : Sm K sysX 3 (Qi K sysX) (X10_text_j29 F a1 z0 τ) 29 [(0, .ref 0), (1, .int a1)] [.int z0] τ := by
  unfold X10_text_j29
  refine sm_seg C [(.istore_n 2, 0), (.aload_n 0, 0)] (pc' := 31) (L' := [(2, .int z0), (0, .ref 0), (1, .int a1)]) (S' := [.ref 0]) (by decide +kernel) rfl ?_
  refine sm_getR 10 5 196 cls10 C (ltX (by decide +kernel : kdX 0 = 10) (by decide)) (by decide +kernel : kdX 0 = 10) (obX10 (by decide +kernel : kdX 0 = 10)) (by decide) (frX10_5 (by decide +kernel : kdX 0 = 10)) fl10_40 (by decide +kernel) ?_
  refine sm_getR 3 0 197 cls3 C (ltX (krX10_5 (by decide +kernel : kdX 0 = 10)) (by decide)) (krX10_5 (by decide +kernel : kdX 0 = 10)) (obX3 (krX10_5 (by decide +kernel : kdX 0 = 10))) (by decide) (frX3_0 (krX10_5 (by decide +kernel : kdX 0 = 10))) fl10_117 (by decide +kernel) ?_
  refine sm_seg C [(.iconst 0, 0)] (pc' := 38) (L' := [(2, .int z0), (0, .ref 0), (1, .int a1)]) (S' := [.int 0, .ref 197]) (by decide +kernel) rfl ?_
  refine sm_pst 6 0 cls6 C (ltX (krX3_0 (krX10_5 (by decide +kernel : kdX 0 = 10))) (by decide)) (krX3_0 (krX10_5 (by decide +kernel : kdX 0 = 10))) (obX6 (krX3_0 (krX10_5 (by decide +kernel : kdX 0 = 10)))) (by decide) (fiX6_0 (krX3_0 (krX10_5 (by decide +kernel : kdX 0 = 10)))) rfl rfl rfl fl10_131 (by decide +kernel) (fun τ3 => ?_)
  refine sm_seg C [(.iload_n 2, 0), (.iconst (-1), (-1))] (pc' := 43) (L' := [(2, .int z0), (0, .ref 0), (1, .int a1)]) (S' := [.int (-1), .int z0]) (by decide +kernel) rfl ?_
  refine sm_icmpne 48 (off := 5) C (by decide +kernel) (by decide) (fun _ => ?_) (fun _ => ?_)
  · refine sm_seg C [(.iconst (-1), (-1))] (pc' := 47) (L' := [(2, .int z0), (0, .ref 0), (1, .int a1)]) (S' := [.int (-1)]) (by decide +kernel) rfl ?_
    exact sm_iret C hr rfl (by decide +kernel)
  · refine sm_seg C [(.iload_n 1, 0)] (pc' := 49) (L' := [(2, .int z0), (0, .ref 0), (1, .int a1)]) (S' := [.int a1]) (by decide +kernel) rfl ?_
    refine sm_ifne 72 (off := 23) C (by decide +kernel) (by decide) (fun _ => ?_) (fun _ => ?_)
    · refine sm_seg C [(.aload_n 0, 0)] (pc' := 53) (L' := [(2, .int z0), (0, .ref 0), (1, .int a1)]) (S' := [.ref 0]) (by decide +kernel) rfl ?_
      refine sm_getR 10 0 1 cls10 C (ltX (by decide +kernel : kdX 0 = 10) (by decide)) (by decide +kernel : kdX 0 = 10) (obX10 (by decide +kernel : kdX 0 = 10)) (by decide) (frX10_0 (by decide +kernel : kdX 0 = 10)) fl10_12 (by decide +kernel) ?_
      refine sm_getR 9 2 39 cls9 C (ltX (krX10_0 (by decide +kernel : kdX 0 = 10)) (by decide)) (krX10_0 (by decide +kernel : kdX 0 = 10)) (obX9 (krX10_0 (by decide +kernel : kdX 0 = 10))) (by decide) (frX9_2 (krX10_0 (by decide +kernel : kdX 0 = 10))) fl10_142 (by decide +kernel) ?_
      refine sm_seg C [(.aload_n 0, 0)] (pc' := 60) (L' := [(2, .int z0), (0, .ref 0), (1, .int a1)]) (S' := [.ref 0, .ref 39]) (by decide +kernel) rfl ?_
      refine sm_getR 10 5 196 cls10 C (ltX (by decide +kernel : kdX 0 = 10) (by decide)) (by decide +kernel : kdX 0 = 10) (obX10 (by decide +kernel : kdX 0 = 10)) (by decide) (frX10_5 (by decide +kernel : kdX 0 = 10)) fl10_40 (by decide +kernel) ?_
      refine sm_getR 3 1 203 cls3 C (ltX (krX10_5 (by decide +kernel : kdX 0 = 10)) (by decide)) (krX10_5 (by decide +kernel : kdX 0 = 10)) (obX3 (krX10_5 (by decide +kernel : kdX 0 = 10))) (by decide) (frX3_1 (krX10_5 (by decide +kernel : kdX 0 = 10))) fl10_146 (by decide +kernel) ?_
      refine sm_vcalv [.ref 203] [] rfl C mw_X2_copyFrom ml_10_149 rfl (ci := 2) rfl (ltX (krX9_2 (krX10_0 (by decide +kernel : kdX 0 = 10))) (by decide)) (krX9_2 (krX10_0 (by decide +kernel : kdX 0 = 10))) (by decide) ⟨by decide, by decide⟩ (Nat.le_of_ble_eq_true rfl) (by decide +kernel) (c_X2_copyFrom F 39 203 (krX9_2 (krX10_0 (by decide +kernel : kdX 0 = 10))) (krX3_1 (krX10_5 (by decide +kernel : kdX 0 = 10))) τ3) (fun r4 τ5 => ?_)
      refine sm_seg C [(.goto 26, 0), (.iload_n 2, 0)] (pc' := 96) (L' := [(2, .int z0), (0, .ref 0), (1, .int a1)]) (S' := [.int z0]) (by decide +kernel) rfl ?_
      exact sm_iret C hr rfl (by decide +kernel)
    · refine sm_seg C [(.aload_n 0, 0)] (pc' := 73) (L' := [(2, .int z0), (0, .ref 0), (1, .int a1)]) (S' := [.ref 0]) (by decide +kernel) rfl ?_
      refine sm_getR 10 0 1 cls10 C (ltX (by decide +kernel : kdX 0 = 10) (by decide)) (by decide +kernel : kdX 0 = 10) (obX10 (by decide +kernel : kdX 0 = 10)) (by decide) (frX10_0 (by decide +kernel : kdX 0 = 10)) fl10_12 (by decide +kernel) ?_
      refine sm_seg C [(.iload_n 1, 0), (.aload_n 0, 0)] (pc' := 78) (L' := [(2, .int z0), (0, .ref 0), (1, .int a1)]) (S' := [.ref 0, .int a1, .ref 1]) (by decide +kernel) rfl ?_
      refine sm_getR 10 5 196 cls10 C (ltX (by decide +kernel : kdX 0 = 10) (by decide)) (by decide +kernel : kdX 0 = 10) (obX10 (by decide +kernel : kdX 0 = 10)) (by decide) (frX10_5 (by decide +kernel : kdX 0 = 10)) fl10_40 (by decide +kernel) ?_
      refine sm_getR 3 2 210 cls3 C (ltX (krX10_5 (by decide +kernel : kdX 0 = 10)) (by decide)) (krX10_5 (by decide +kernel : kdX 0 = 10)) (obX3 (krX10_5 (by decide +kernel : kdX 0 = 10))) (by decide) (frX3_2 (krX10_5 (by decide +kernel : kdX 0 = 10))) fl10_155 (by decide +kernel) ?_
      refine sm_seg C [(.iload_n 2, 0)] (pc' := 85) (L' := [(2, .int z0), (0, .ref 0), (1, .int a1)]) (S' := [.int z0, .ref 210, .int a1, .ref 1]) (by decide +kernel) rfl ?_
      refine sm_vcalv [.int a1, .ref 210, .int z0] [] rfl C mw_X9_tell ml_10_158 rfl (ci := 9) rfl (ltX (krX10_0 (by decide +kernel : kdX 0 = 10)) (by decide)) (krX10_0 (by decide +kernel : kdX 0 = 10)) (by decide) ⟨by decide, by decide⟩ (Nat.le_of_ble_eq_true rfl) (by decide +kernel) (c_X9_tell F 1 210 (krX10_0 (by decide +kernel : kdX 0 = 10)) (krX3_2 (krX10_5 (by decide +kernel : kdX 0 = 10))) a1 z0 τ3) (fun r6 τ7 => ?_)
      refine sm_seg C [(.aload_n 0, 0)] (pc' := 89) (L' := [(2, .int z0), (0, .ref 0), (1, .int a1)]) (S' := [.ref 0]) (by decide +kernel) rfl ?_
      refine sm_getR 10 4 116 cls10 C (ltX (by decide +kernel : kdX 0 = 10) (by decide)) (by decide +kernel : kdX 0 = 10) (obX10 (by decide +kernel : kdX 0 = 10)) (by decide) (frX10_4 (by decide +kernel : kdX 0 = 10)) fl10_33 (by decide +kernel) ?_
      refine sm_vcalv [] [] rfl C mw_X1_forget ml_10_67 rfl (ci := 1) rfl (ltX (krX10_4 (by decide +kernel : kdX 0 = 10)) (by decide)) (krX10_4 (by decide +kernel : kdX 0 = 10)) (by decide) ⟨by decide, by decide⟩ (Nat.le_of_ble_eq_true rfl) (by decide +kernel) (c_X1_forget F τ7) (fun r8 τ9 => ?_)
      refine sm_seg C [(.iload_n 2, 0)] (pc' := 96) (L' := [(2, .int z0), (0, .ref 0), (1, .int a1)]) (S' := [.int z0]) (by decide +kernel) rfl ?_
      exact sm_iret C hr rfl (by decide +kernel)
def X10_text (F : Nat) (a1 : Int32) (τ : Tau) : Option (Int32 × Tau) :=
  if a1 = 0 then (cal (X3_readLaw F τ) fun r1 τ2 => X10_text_j29 F a1 r1 τ2) else (cal (X3_readRows F 2 a1 τ) fun r10 τ11 => X10_text_j29 F a1 r10 τ11)
set_option maxRecDepth 20000 in
set_option maxHeartbeats 4000000 in
theorem c_X10_text (F : Nat) (a1 : Int32) (τ : Tau) (r : Int32) (τ' : Tau) (h : X10_text F a1 τ = some (r, τ')) : MCi sysX yX10_text cX10_text 3 (some .int) 32 [.ref 0, .int a1] τ r τ' :=
  mci_of (by decide +kernel) (Nat.le_of_ble_eq_true rfl) (fun K C hr => by
    show Sm K sysX 3 (Qi K sysX) (X10_text F a1 τ) 0 [(0, .ref 0), (1, .int a1)] [] τ
    unfold X10_text
    refine sm_seg C [(.iload_n 1, 0)] (pc' := 1) (L' := [(0, .ref 0), (1, .int a1)]) (S' := [.int a1]) (by decide +kernel) rfl ?_
    refine sm_ifne 14 (off := 13) C (by decide +kernel) (by decide) (fun _ => ?_) (fun _ => ?_)
    · refine sm_seg C [(.aload_n 0, 0)] (pc' := 5) (L' := [(0, .ref 0), (1, .int a1)]) (S' := [.ref 0]) (by decide +kernel) rfl ?_
      refine sm_getR 10 5 196 cls10 C (ltX (by decide +kernel : kdX 0 = 10) (by decide)) (by decide +kernel : kdX 0 = 10) (obX10 (by decide +kernel : kdX 0 = 10)) (by decide) (frX10_5 (by decide +kernel : kdX 0 = 10)) fl10_40 (by decide +kernel) ?_
      refine sm_vcal [] [] rfl C mw_X3_readLaw ml_10_134 rfl (ci := 3) rfl (ltX (krX10_5 (by decide +kernel : kdX 0 = 10)) (by decide)) (krX10_5 (by decide +kernel : kdX 0 = 10)) (by decide) ⟨by decide, by decide⟩ (Nat.le_of_ble_eq_true rfl) (by decide +kernel) (c_X3_readLaw F τ) (fun r1 τ2 => ?_)
      refine sm_seg C [(.goto 18, 0)] (pc' := 29) (L' := [(0, .ref 0), (1, .int a1)]) (S' := [.int r1]) (by decide +kernel) rfl ?_
      exact sm_sub [0, 1] rfl (s_X10_text_j29 F C hr a1 r1 τ2)
    · refine sm_seg C [(.aload_n 0, 0)] (pc' := 15) (L' := [(0, .ref 0), (1, .int a1)]) (S' := [.ref 0]) (by decide +kernel) rfl ?_
      refine sm_getR 10 5 196 cls10 C (ltX (by decide +kernel : kdX 0 = 10) (by decide)) (by decide +kernel : kdX 0 = 10) (obX10 (by decide +kernel : kdX 0 = 10)) (by decide) (frX10_5 (by decide +kernel : kdX 0 = 10)) fl10_40 (by decide +kernel) ?_
      refine sm_seg C [(.iload_n 1, 0), (.aload_n 0, 0)] (pc' := 20) (L' := [(0, .ref 0), (1, .int a1)]) (S' := [.ref 0, .int a1, .ref 196]) (by decide +kernel) rfl ?_
      refine sm_getR 10 0 1 cls10 C (ltX (by decide +kernel : kdX 0 = 10) (by decide)) (by decide +kernel : kdX 0 = 10) (obX10 (by decide +kernel : kdX 0 = 10)) (by decide) (frX10_0 (by decide +kernel : kdX 0 = 10)) fl10_12 (by decide +kernel) ?_
      refine sm_getR 9 0 2 cls9 C (ltX (krX10_0 (by decide +kernel : kdX 0 = 10)) (by decide)) (krX10_0 (by decide +kernel : kdX 0 = 10)) (obX9 (krX10_0 (by decide +kernel : kdX 0 = 10))) (by decide) (frX9_0 (krX10_0 (by decide +kernel : kdX 0 = 10))) fl10_60 (by decide +kernel) ?_
      refine sm_vcal [.int a1, .ref 2] [] rfl C mw_X3_readRows ml_10_138 rfl (ci := 3) rfl (ltX (krX10_5 (by decide +kernel : kdX 0 = 10)) (by decide)) (krX10_5 (by decide +kernel : kdX 0 = 10)) (by decide) ⟨by decide, by decide⟩ (Nat.le_of_ble_eq_true rfl) (by decide +kernel) (c_X3_readRows F 2 (krX9_0 (krX10_0 (by decide +kernel : kdX 0 = 10))) a1 τ) (fun r10 τ11 => ?_)
      exact sm_sub [0, 1] rfl (s_X10_text_j29 F C hr a1 r10 τ11)) h
/-! BasketEnvoys_History.giveBack -/
def X1_giveBack (F : Nat) (t1 : Nat) (τ : Tau) : Option (Int32 × Tau) :=
  if 0 < (τ 116 0) then (pst τ 116 0 ((τ 116 0) - 1) fun τ1 => pst τ1 116 1 (rmd (((τ1 116 1) + 6) - 1) 6) fun τ2 => gd (τ2 116 1) 6 (cal (X8_copyFrom F t1 (118 + 13 * ix (τ2 116 1)) τ2) fun r4 τ5 => some (1, τ5))) else (some (0, τ))
set_option maxRecDepth 20000 in
set_option maxHeartbeats 4000000 in
theorem c_X1_giveBack (F : Nat) (t1 : Nat) (h1 : kdX t1 = 8) (τ : Tau) (r : Int32) (τ' : Tau) (h : X1_giveBack F t1 τ = some (r, τ')) : MCi sysX yX1_giveBack cX1_giveBack 3 (some .boolean) 3 [.ref 116, .ref t1] τ r τ' :=
  mci_of (by decide +kernel) (Nat.le_of_ble_eq_true rfl) (fun K C hr => by
    show Sm K sysX 3 (Qi K sysX) (X1_giveBack F t1 τ) 0 [(0, .ref 116), (1, .ref t1)] [] τ
    unfold X1_giveBack
    refine sm_seg C [(.aload_n 0, 0)] (pc' := 1) (L' := [(0, .ref 116), (1, .ref t1)]) (S' := [.ref 116]) (by decide +kernel) rfl ?_
    refine sm_getI 1 0 cls1 C (ltX (by decide +kernel : kdX 116 = 1) (by decide)) (by decide +kernel : kdX 116 = 1) (obX1 (by decide +kernel : kdX 116 = 1)) (by decide) (fiX1_0 (by decide +kernel : kdX 116 = 1)) fl1_9 (by decide +kernel) ?_
    refine sm_ifgt 9 (off := 5) C (by decide +kernel) (by decide) (fun _ => ?_) (fun _ => ?_)
    · refine sm_seg C [(.aload_n 0, 0), (.dup, 0)] (pc' := 11) (L' := [(0, .ref 116), (1, .ref t1)]) (S' := [.ref 116, .ref 116]) (by decide +kernel) rfl ?_
      refine sm_getI 1 0 cls1 C (ltX (by decide +kernel : kdX 116 = 1) (by decide)) (by decide +kernel : kdX 116 = 1) (obX1 (by decide +kernel : kdX 116 = 1)) (by decide) (fiX1_0 (by decide +kernel : kdX 116 = 1)) fl1_9 (by decide +kernel) ?_
      refine sm_seg C [(.iconst 1, 1), (.isub, 0)] (pc' := 16) (L' := [(0, .ref 116), (1, .ref t1)]) (S' := [.int ((τ 116 0) - 1), .ref 116]) (by decide +kernel) rfl ?_
      refine sm_pst 1 0 cls1 C (ltX (by decide +kernel : kdX 116 = 1) (by decide)) (by decide +kernel : kdX 116 = 1) (obX1 (by decide +kernel : kdX 116 = 1)) (by decide) (fiX1_0 (by decide +kernel : kdX 116 = 1)) rfl rfl rfl fl1_9 (by decide +kernel) (fun τ1 => ?_)
      refine sm_seg C [(.aload_n 0, 0), (.aload_n 0, 0)] (pc' := 21) (L' := [(0, .ref 116), (1, .ref t1)]) (S' := [.ref 116, .ref 116]) (by decide +kernel) rfl ?_
      refine sm_getI 1 1 cls1 C (ltX (by decide +kernel : kdX 116 = 1) (by decide)) (by decide +kernel : kdX 116 = 1) (obX1 (by decide +kernel : kdX 116 = 1)) (by decide) (fiX1_1 (by decide +kernel : kdX 116 = 1)) fl1_15 (by decide +kernel) ?_
      refine sm_seg C [(.bipush 6, 6), (.iadd, 0), (.iconst 1, 1), (.isub, 0), (.bipush 6, 6)] (pc' := 31) (L' := [(0, .ref 116), (1, .ref t1)]) (S' := [.int 6, .int (((τ1 116 1) + 6) - 1), .ref 116]) (by decide +kernel) rfl ?_
      refine sm_irem C (by decide +kernel) (by decide) ?_
      refine sm_pst 1 1 cls1 C (ltX (by decide +kernel : kdX 116 = 1) (by decide)) (by decide +kernel : kdX 116 = 1) (obX1 (by decide +kernel : kdX 116 = 1)) (by decide) (fiX1_1 (by decide +kernel : kdX 116 = 1)) rfl rfl rfl fl1_15 (by decide +kernel) (fun τ2 => ?_)
      refine sm_seg C [(.aload_n 0, 0), (.aload_n 0, 0)] (pc' := 37) (L' := [(0, .ref 116), (1, .ref t1)]) (S' := [.ref 116, .ref 116]) (by decide +kernel) rfl ?_
      refine sm_getI 1 1 cls1 C (ltX (by decide +kernel : kdX 116 = 1) (by decide)) (by decide +kernel : kdX 116 = 1) (obX1 (by decide +kernel : kdX 116 = 1)) (by decide) (fiX1_1 (by decide +kernel : kdX 116 = 1)) fl1_15 (by decide +kernel) ?_
      refine sm_townAt [] C ml_1_25 ⟨by decide, by decide⟩ (Nat.le_of_ble_eq_true rfl) (by decide +kernel) (fun g3 => ?_)
      refine sm_seg C [(.astore_n 2, 0), (.aload_n 2, 0)] (pc' := 45) (L' := [(2, .ref (118 + 13 * ix (τ2 116 1))), (0, .ref 116), (1, .ref t1)]) (S' := [.ref (118 + 13 * ix (τ2 116 1))]) (by decide +kernel) rfl ?_
      refine sm_ifnull (off := 8) C (by decide +kernel) ?_
      refine sm_seg C [(.aload_n 1, 0), (.aload_n 2, 0)] (pc' := 50) (L' := [(2, .ref (118 + 13 * ix (τ2 116 1))), (0, .ref 116), (1, .ref t1)]) (S' := [.ref (118 + 13 * ix (τ2 116 1)), .ref t1]) (by decide +kernel) rfl ?_
      refine sm_vcalv [.ref (118 + 13 * ix (τ2 116 1))] [] rfl C mw_X8_copyFrom ml_1_29 rfl (ci := 8) rfl (ltX h1 (by decide)) h1 (by decide) ⟨by decide, by decide⟩ (Nat.le_of_ble_eq_true rfl) (by decide +kernel) (c_X8_copyFrom F t1 (118 + 13 * ix (τ2 116 1)) h1 (tw_kd g3) τ2) (fun r4 τ5 => ?_)
      refine sm_seg C [(.iconst 1, 1)] (pc' := 54) (L' := [(2, .ref (118 + 13 * ix (τ2 116 1))), (0, .ref 116), (1, .ref t1)]) (S' := [.int 1]) (by decide +kernel) rfl ?_
      exact sm_iret C hr rfl (by decide +kernel)
    · refine sm_seg C [(.iconst 0, 0)] (pc' := 8) (L' := [(0, .ref 116), (1, .ref t1)]) (S' := [.int 0]) (by decide +kernel) rfl ?_
      exact sm_iret C hr rfl (by decide +kernel)) h
/-! BasketEnvoys.undo -/
def X10_undo (F : Nat) (τ : Tau) : Option (Int32 × Tau) :=
  cal (X1_giveBack F 2 τ) fun r1 τ2 => some (vp_nar .boolean r1, τ2)
set_option maxRecDepth 20000 in
set_option maxHeartbeats 4000000 in
theorem c_X10_undo (F : Nat) (τ : Tau) (r : Int32) (τ' : Tau) (h : X10_undo F τ = some (r, τ')) : MCi sysX yX10_undo cX10_undo 1 (some .boolean) 4 [.ref 0] τ r τ' :=
  mci_of (by decide +kernel) (Nat.le_of_ble_eq_true rfl) (fun K C hr => by
    show Sm K sysX 1 (Qi K sysX) (X10_undo F τ) 0 [(0, .ref 0)] [] τ
    unfold X10_undo
    refine sm_seg C [(.aload_n 0, 0)] (pc' := 1) (L' := [(0, .ref 0)]) (S' := [.ref 0]) (by decide +kernel) rfl ?_
    refine sm_getR 10 4 116 cls10 C (ltX (by decide +kernel : kdX 0 = 10) (by decide)) (by decide +kernel : kdX 0 = 10) (obX10 (by decide +kernel : kdX 0 = 10)) (by decide) (frX10_4 (by decide +kernel : kdX 0 = 10)) fl10_33 (by decide +kernel) ?_
    refine sm_seg C [(.aload_n 0, 0)] (pc' := 5) (L' := [(0, .ref 0)]) (S' := [.ref 0, .ref 116]) (by decide +kernel) rfl ?_
    refine sm_getR 10 0 1 cls10 C (ltX (by decide +kernel : kdX 0 = 10) (by decide)) (by decide +kernel : kdX 0 = 10) (obX10 (by decide +kernel : kdX 0 = 10)) (by decide) (frX10_0 (by decide +kernel : kdX 0 = 10)) fl10_12 (by decide +kernel) ?_
    refine sm_getR 9 0 2 cls9 C (ltX (krX10_0 (by decide +kernel : kdX 0 = 10)) (by decide)) (krX10_0 (by decide +kernel : kdX 0 = 10)) (obX9 (krX10_0 (by decide +kernel : kdX 0 = 10))) (by decide) (frX9_0 (krX10_0 (by decide +kernel : kdX 0 = 10))) fl10_60 (by decide +kernel) ?_
    refine sm_vcal [.ref 2] [] rfl C mw_X1_giveBack ml_10_403 rfl (ci := 1) rfl (ltX (krX10_4 (by decide +kernel : kdX 0 = 10)) (by decide)) (krX10_4 (by decide +kernel : kdX 0 = 10)) (by decide) ⟨by decide, by decide⟩ (Nat.le_of_ble_eq_true rfl) (by decide +kernel) (c_X1_giveBack F 2 (krX9_0 (krX10_0 (by decide +kernel : kdX 0 = 10))) τ) (fun r1 τ2 => ?_)
    exact sm_iret C hr nar_boolean (by decide +kernel)) h
/-! BasketEnvoys.weighs -/
def X10_weighs (F : Nat) (a1 : Int32) (a2 : Int32) (τ : Tau) : Option (Int32 × Tau) :=
  cal (X10_within F a2 0 99 τ) fun r1 τ2 => cal (X10_put F 34 a1 a2 r1 τ2) fun r3 τ4 => some (vp_nar .boolean r3, τ4)
set_option maxRecDepth 20000 in
set_option maxHeartbeats 4000000 in
theorem c_X10_weighs (F : Nat) (a1 : Int32) (a2 : Int32) (τ : Tau) (r : Int32) (τ' : Tau) (h : X10_weighs F a1 a2 τ = some (r, τ')) : MCi sysX yX10_weighs cX10_weighs 3 (some .boolean) 2 [.ref 0, .int a1, .int a2] τ r τ' :=
  mci_of (by decide +kernel) (Nat.le_of_ble_eq_true rfl) (fun K C hr => by
    show Sm K sysX 3 (Qi K sysX) (X10_weighs F a1 a2 τ) 0 [(0, .ref 0), (1, .int a1), (2, .int a2)] [] τ
    unfold X10_weighs
    refine sm_seg C [(.aload_n 0, 0)] (pc' := 1) (L' := [(0, .ref 0), (1, .int a1), (2, .int a2)]) (S' := [.ref 0]) (by decide +kernel) rfl ?_
    refine sm_getR 10 0 1 cls10 C (ltX (by decide +kernel : kdX 0 = 10) (by decide)) (by decide +kernel : kdX 0 = 10) (obX10 (by decide +kernel : kdX 0 = 10)) (by decide) (frX10_0 (by decide +kernel : kdX 0 = 10)) fl10_12 (by decide +kernel) ?_
    refine sm_getR 9 1 15 cls9 C (ltX (krX10_0 (by decide +kernel : kdX 0 = 10)) (by decide)) (krX10_0 (by decide +kernel : kdX 0 = 10)) (obX9 (krX10_0 (by decide +kernel : kdX 0 = 10))) (by decide) (frX9_1 (krX10_0 (by decide +kernel : kdX 0 = 10))) fl10_243 (by decide +kernel) ?_
    refine sm_getR 7 9 34 cls7 C (ltX (krX9_1 (krX10_0 (by decide +kernel : kdX 0 = 10))) (by decide)) (krX9_1 (krX10_0 (by decide +kernel : kdX 0 = 10))) (obX7 (krX9_1 (krX10_0 (by decide +kernel : kdX 0 = 10)))) (by decide) (frX7_9 (krX9_1 (krX10_0 (by decide +kernel : kdX 0 = 10)))) fl10_261 (by decide +kernel) ?_
    refine sm_seg C [(.iload_n 1, 0), (.iload_n 2, 0), (.iload_n 2, 0), (.iconst 0, 0), (.bipush 99, 99)] (pc' := 16) (L' := [(0, .ref 0), (1, .int a1), (2, .int a2)]) (S' := [.int 99, .int 0, .int a2, .int a2, .int a1, .ref 34]) (by decide +kernel) rfl ?_
    refine sm_scal [.int a2, .int 0, .int 99] [.int a2, .int a1, .ref 34] rfl C mw_X10_within ml_10_70 rfl ⟨by decide, by decide⟩ (Nat.le_of_ble_eq_true rfl) (by decide +kernel) (c_X10_within F a2 0 99 τ) (fun r1 τ2 => ?_)
    refine sm_scal [.ref 34, .int a1, .int a2, .int r1] [] rfl C mw_X10_put ml_10_264 rfl ⟨by decide, by decide⟩ (Nat.le_of_ble_eq_true rfl) (by decide +kernel) (c_X10_put F 34 (krX7_9 (krX9_1 (krX10_0 (by decide +kernel : kdX 0 = 10)))) a1 a2 r1 τ2) (fun r3 τ4 => ?_)
    exact sm_iret C hr nar_boolean (by decide +kernel)) h
/-! BasketEnvoys_Riddles.becomes -/
def X4_becomes_L4 (F : Nat) : Nat → Int32 → Int32 → Tau → Option (Int32 × Tau)
  | 0, _, _, _ => none
  | n + 1, a2, a3, τ =>
    if (τ 32 0) ≤ a3 then (some (a2, τ)) else (cal (X5_get F 32 a3 τ) fun r1 τ2 => cal (X4_madeOf F r1 a2 τ2) fun r3 τ4 => X4_becomes_L4 F n r3 (a3 + 1) τ4)
theorem s_X4_becomes_L4 (F : Nat) {K : Ctx} (C : Cx K sysX RX4 cX4_becomes 4 2) (hr : Rt K (some .int)) : ∀ (n : Nat) (a2 : Int32) (a3 : Int32) (τ : Tau), Sm K sysX 4 (Qi K sysX) (X4_becomes_L4 F n a2 a3 τ) 4 [(0, .ref 213), (2, .int a2), (3, .int a3)] [] τ := by
  intro n
  induction n with
  | zero => intro a2 a3 τ; exact sm_none
  | succ n ih =>
    intro a2 a3 τ
    rw [X4_becomes_L4]
    refine sm_seg C [(.iload_n 3, 0), (.aload_n 0, 0)] (pc' := 6) (L' := [(0, .ref 213), (2, .int a2), (3, .int a3)]) (S' := [.ref 213, .int a3]) (by decide +kernel) rfl ?_
    refine sm_getR 4 1 15 cls4 C (ltX (by decide +kernel : kdX 213 = 4) (by decide)) (by decide +kernel : kdX 213 = 4) (obX4 (by decide +kernel : kdX 213 = 4)) (by decide) (frX4_1 (by decide +kernel : kdX 213 = 4)) fl4_51 (by decide +kernel) ?_
    refine sm_getR 7 8 32 cls7 C (ltX (krX4_1 (by decide +kernel : kdX 213 = 4)) (by decide)) (krX4_1 (by decide +kernel : kdX 213 = 4)) (obX7 (krX4_1 (by decide +kernel : kdX 213 = 4))) (by decide) (frX7_8 (krX4_1 (by decide +kernel : kdX 213 = 4))) fl4_197 (by decide +kernel) ?_
    refine sm_getI 5 0 cls5 C (ltX (krX7_8 (krX4_1 (by decide +kernel : kdX 213 = 4))) (by decide)) (krX7_8 (krX4_1 (by decide +kernel : kdX 213 = 4))) (obX5 (krX7_8 (krX4_1 (by decide +kernel : kdX 213 = 4)))) (by decide) (fiX5_0 (krX7_8 (krX4_1 (by decide +kernel : kdX 213 = 4)))) fl4_68 (by decide +kernel) ?_
    refine sm_icmpge 41 (off := 26) C (by decide +kernel) (by decide) (fun _ => ?_) (fun _ => ?_)
    · refine sm_seg C [(.iload_n 2, 0)] (pc' := 42) (L' := [(0, .ref 213), (2, .int a2), (3, .int a3)]) (S' := [.int a2]) (by decide +kernel) rfl ?_
      exact sm_iret C hr rfl (by decide +kernel)
    · refine sm_seg C [(.aload_n 0, 0), (.aload_n 0, 0)] (pc' := 20) (L' := [(0, .ref 213), (2, .int a2), (3, .int a3)]) (S' := [.ref 213, .ref 213]) (by decide +kernel) rfl ?_
      refine sm_getR 4 1 15 cls4 C (ltX (by decide +kernel : kdX 213 = 4) (by decide)) (by decide +kernel : kdX 213 = 4) (obX4 (by decide +kernel : kdX 213 = 4)) (by decide) (frX4_1 (by decide +kernel : kdX 213 = 4)) fl4_51 (by decide +kernel) ?_
      refine sm_getR 7 8 32 cls7 C (ltX (krX4_1 (by decide +kernel : kdX 213 = 4)) (by decide)) (krX4_1 (by decide +kernel : kdX 213 = 4)) (obX7 (krX4_1 (by decide +kernel : kdX 213 = 4))) (by decide) (frX7_8 (krX4_1 (by decide +kernel : kdX 213 = 4))) fl4_197 (by decide +kernel) ?_
      refine sm_seg C [(.iload_n 3, 0)] (pc' := 27) (L' := [(0, .ref 213), (2, .int a2), (3, .int a3)]) (S' := [.int a3, .ref 32, .ref 213]) (by decide +kernel) rfl ?_
      refine sm_vcal [.int a3] [.ref 213] rfl C mw_X5_get ml_4_73 rfl (ci := 5) rfl (ltX (krX7_8 (krX4_1 (by decide +kernel : kdX 213 = 4))) (by decide)) (krX7_8 (krX4_1 (by decide +kernel : kdX 213 = 4))) (by decide) ⟨by decide, by decide⟩ (Nat.le_of_ble_eq_true rfl) (by decide +kernel) (c_X5_get F 32 (krX7_8 (krX4_1 (by decide +kernel : kdX 213 = 4))) a3 τ) (fun r1 τ2 => ?_)
      refine sm_seg C [(.iload_n 2, 0)] (pc' := 31) (L' := [(0, .ref 213), (2, .int a2), (3, .int a3)]) (S' := [.int a2, .int r1, .ref 213]) (by decide +kernel) rfl ?_
      refine sm_vcal [.int r1, .int a2] [] rfl C mw_X4_madeOf ml_4_194 rfl (ci := 4) rfl (ltX (by decide +kernel : kdX 213 = 4) (by decide)) (by decide +kernel : kdX 213 = 4) (by decide) ⟨by decide, by decide⟩ (Nat.le_of_ble_eq_true rfl) (by decide +kernel) (c_X4_madeOf F r1 a2 τ2) (fun r3 τ4 => ?_)
      refine sm_seg C [(.istore_n 2, 0), (.iinc 3 1, 1), (.goto (-34), 0)] (pc' := 4) (L' := [(3, .int (a3 + 1)), (2, .int r3), (0, .ref 213)]) (S' := []) (by decide +kernel) rfl ?_
      exact sm_sub [2, 1, 0] rfl (ih r3 (a3 + 1) τ4)
def X4_becomes (F : Nat) (a1 : Int32) (τ : Tau) : Option (Int32 × Tau) :=
  X4_becomes_L4 F F a1 0 τ
set_option maxRecDepth 20000 in
set_option maxHeartbeats 4000000 in
theorem c_X4_becomes (F : Nat) (a1 : Int32) (τ : Tau) (r : Int32) (τ' : Tau) (h : X4_becomes F a1 τ = some (r, τ')) : MCi sysX yX4_becomes cX4_becomes 4 (some .int) 2 [.ref 213, .int a1] τ r τ' :=
  mci_of (by decide +kernel) (Nat.le_of_ble_eq_true rfl) (fun K C hr => by
    show Sm K sysX 4 (Qi K sysX) (X4_becomes F a1 τ) 0 [(0, .ref 213), (1, .int a1)] [] τ
    unfold X4_becomes
    refine sm_seg C [(.iload_n 1, 0), (.istore_n 2, 0), (.iconst 0, 0), (.istore_n 3, 0)] (pc' := 4) (L' := [(3, .int 0), (2, .int a1), (0, .ref 213), (1, .int a1)]) (S' := []) (by decide +kernel) rfl ?_
    exact sm_sub [2, 1, 0] rfl (s_X4_becomes_L4 F C hr F a1 0 τ)) h
/-! BasketEnvoys_Riddles.roundsOf -/
def X4_roundsOf_L8 (F : Nat) : Nat → Int32 → Int32 → Int32 → Tau → Option (Int32 × Tau)
  | 0, _, _, _, _ => none
  | n + 1, a1, a2, a3, τ =>
    if a2 = a1 then (some (a3, τ)) else (if 5 ≤ a3 then (some (a3, τ)) else (cal (X4_becomes F a2 τ) fun r3 τ4 => X4_roundsOf_L8 F n a1 r3 (a3 + 1) τ4))
theorem s_X4_roundsOf_L8 (F : Nat) {K : Ctx} (C : Cx K sysX RX4 cX4_roundsOf 4 3) (hr : Rt K (some .int)) : ∀ (n : Nat) (a1 : Int32) (a2 : Int32) (a3 : Int32) (τ : Tau), Sm K sysX 4 (Qi K sysX) (X4_roundsOf_L8 F n a1 a2 a3 τ) 8 [(0, .ref 213), (1, .int a1), (2, .int a2), (3, .int a3)] [] τ := by
  intro n
  induction n with
  | zero => intro a1 a2 a3 τ; exact sm_none
  | succ n ih =>
    intro a1 a2 a3 τ
    rw [X4_roundsOf_L8]
    refine sm_seg C [(.iload_n 2, 0), (.iload_n 1, 0)] (pc' := 10) (L' := [(0, .ref 213), (1, .int a1), (2, .int a2), (3, .int a3)]) (S' := [.int a1, .int a2]) (by decide +kernel) rfl ?_
    refine sm_icmpeq 30 (off := 20) C (by decide +kernel) (by decide) (fun _ => ?_) (fun _ => ?_)
    · refine sm_seg C [(.iload_n 3, 0)] (pc' := 31) (L' := [(0, .ref 213), (1, .int a1), (2, .int a2), (3, .int a3)]) (S' := [.int a3]) (by decide +kernel) rfl ?_
      exact sm_iret C hr rfl (by decide +kernel)
    · refine sm_seg C [(.iload_n 3, 0), (.iconst 5, 5)] (pc' := 15) (L' := [(0, .ref 213), (1, .int a1), (2, .int a2), (3, .int a3)]) (S' := [.int 5, .int a3]) (by decide +kernel) rfl ?_
      refine sm_icmpge 30 (off := 15) C (by decide +kernel) (by decide) (fun _ => ?_) (fun _ => ?_)
      · refine sm_seg C [(.iload_n 3, 0)] (pc' := 31) (L' := [(0, .ref 213), (1, .int a1), (2, .int a2), (3, .int a3)]) (S' := [.int a3]) (by decide +kernel) rfl ?_
        exact sm_iret C hr rfl (by decide +kernel)
      · refine sm_seg C [(.aload_n 0, 0), (.iload_n 2, 0)] (pc' := 20) (L' := [(0, .ref 213), (1, .int a1), (2, .int a2), (3, .int a3)]) (S' := [.int a2, .ref 213]) (by decide +kernel) rfl ?_
        refine sm_vcal [.int a2] [] rfl C mw_X4_becomes ml_4_203 rfl (ci := 4) rfl (ltX (by decide +kernel : kdX 213 = 4) (by decide)) (by decide +kernel : kdX 213 = 4) (by decide) ⟨by decide, by decide⟩ (Nat.le_of_ble_eq_true rfl) (by decide +kernel) (c_X4_becomes F a2 τ) (fun r3 τ4 => ?_)
        refine sm_seg C [(.istore_n 2, 0), (.iinc 3 1, 1), (.goto (-19), 0)] (pc' := 8) (L' := [(3, .int (a3 + 1)), (2, .int r3), (0, .ref 213), (1, .int a1)]) (S' := []) (by decide +kernel) rfl ?_
        exact sm_sub [2, 3, 1, 0] rfl (ih a1 r3 (a3 + 1) τ4)
def X4_roundsOf (F : Nat) (a1 : Int32) (τ : Tau) : Option (Int32 × Tau) :=
  cal (X4_becomes F a1 τ) fun r1 τ2 => X4_roundsOf_L8 F F a1 r1 1 τ2
set_option maxRecDepth 20000 in
set_option maxHeartbeats 4000000 in
theorem c_X4_roundsOf (F : Nat) (a1 : Int32) (τ : Tau) (r : Int32) (τ' : Tau) (h : X4_roundsOf F a1 τ = some (r, τ')) : MCi sysX yX4_roundsOf cX4_roundsOf 4 (some .int) 3 [.ref 213, .int a1] τ r τ' :=
  mci_of (by decide +kernel) (Nat.le_of_ble_eq_true rfl) (fun K C hr => by
    show Sm K sysX 4 (Qi K sysX) (X4_roundsOf F a1 τ) 0 [(0, .ref 213), (1, .int a1)] [] τ
    unfold X4_roundsOf
    refine sm_seg C [(.aload_n 0, 0), (.iload_n 1, 0)] (pc' := 2) (L' := [(0, .ref 213), (1, .int a1)]) (S' := [.int a1, .ref 213]) (by decide +kernel) rfl ?_
    refine sm_vcal [.int a1] [] rfl C mw_X4_becomes ml_4_203 rfl (ci := 4) rfl (ltX (by decide +kernel : kdX 213 = 4) (by decide)) (by decide +kernel : kdX 213 = 4) (by decide) ⟨by decide, by decide⟩ (Nat.le_of_ble_eq_true rfl) (by decide +kernel) (c_X4_becomes F a1 τ) (fun r1 τ2 => ?_)
    refine sm_seg C [(.istore_n 2, 0), (.iconst 1, 1), (.istore_n 3, 0)] (pc' := 8) (L' := [(3, .int 1), (2, .int r1), (0, .ref 213), (1, .int a1)]) (S' := []) (by decide +kernel) rfl ?_
    exact sm_sub [2, 3, 1, 0] rfl (s_X4_roundsOf_L8 F C hr F a1 r1 1 τ2)) h
/-! BasketEnvoys_Riddles.roundsOfWords -/
def X4_roundsOfWords_j40 (F : Nat) (self2 : Int32 → Tau → Option (Int32 × Tau)) (self12 : Int32 → Int32 → Int32 → Tau → Option (Int32 × Tau)) (a1 : Int32) (a3 : Int32) (z0 : Int32) (τ : Tau) : Option (Int32 × Tau) :=
  self12 a1 z0 (a3 + 1) τ
theorem s_X4_roundsOfWords_j40 (F : Nat) {K : Ctx} (C : Cx K sysX RX4 cX4_roundsOfWords 4 4) (hr : Rt K (some .int)) (self2 : Int32 → Tau → Option (Int32 × Tau)) (self12 : Int32 → Int32 → Int32 → Tau → Option (Int32 × Tau)) (ih2 : ∀ (a1 : Int32) (τ : Tau), Sm K sysX 4 (Qi K sysX) (self2 a1 τ) 2 [(0, .ref 213), (1, .int a1)] [] τ) (ih12 : ∀ (a1 : Int32) (a2 : Int32) (a3 : Int32) (τ : Tau), Sm K sysX 4 (Qi K sysX) (self12 a1 a2 a3 τ) 12 [(0, .ref 213), (1, .int a1), (2, .int a2), (3, .int a3)] [] τ) (a1 : Int32) (a3 : Int32) (z0 : Int32) (τ : Tau) : Sm K sysX 4 (Qi K sysX) (X4_roundsOfWords_j40 F self2 self12 a1 a3 z0 τ) 40 [(0, .ref 213), (1, .int a1), (3, .int a3)] [.int z0] τ := by
  unfold X4_roundsOfWords_j40
  refine sm_seg C [(.istore_n 2, 0), (.iinc 3 1, 1), (.goto (-32), 0)] (pc' := 12) (L' := [(3, .int (a3 + 1)), (2, .int z0), (0, .ref 213), (1, .int a1)]) (S' := []) (by decide +kernel) rfl ?_
  exact sm_sub [2, 3, 1, 0] rfl (ih12 a1 z0 (a3 + 1) τ)
def X4_roundsOfWords_j39 (F : Nat) (self2 : Int32 → Tau → Option (Int32 × Tau)) (self12 : Int32 → Int32 → Int32 → Tau → Option (Int32 × Tau)) (a1 : Int32) (a3 : Int32) (τ : Tau) : Option (Int32 × Tau) :=
  X4_roundsOfWords_j40 F self2 self12 a1 a3 0 τ
theorem s_X4_roundsOfWords_j39 (F : Nat) {K : Ctx} (C : Cx K sysX RX4 cX4_roundsOfWords 4 4) (hr : Rt K (some .int)) (self2 : Int32 → Tau → Option (Int32 × Tau)) (self12 : Int32 → Int32 → Int32 → Tau → Option (Int32 × Tau)) (ih2 : ∀ (a1 : Int32) (τ : Tau), Sm K sysX 4 (Qi K sysX) (self2 a1 τ) 2 [(0, .ref 213), (1, .int a1)] [] τ) (ih12 : ∀ (a1 : Int32) (a2 : Int32) (a3 : Int32) (τ : Tau), Sm K sysX 4 (Qi K sysX) (self12 a1 a2 a3 τ) 12 [(0, .ref 213), (1, .int a1), (2, .int a2), (3, .int a3)] [] τ) (a1 : Int32) (a3 : Int32) (τ : Tau) : Sm K sysX 4 (Qi K sysX) (X4_roundsOfWords_j39 F self2 self12 a1 a3 τ) 39 [(0, .ref 213), (1, .int a1), (3, .int a3)] [] τ := by
  unfold X4_roundsOfWords_j39
  refine sm_seg C [(.iconst 0, 0)] (pc' := 40) (L' := [(0, .ref 213), (1, .int a1), (3, .int a3)]) (S' := [.int 0]) (by decide +kernel) rfl ?_
  exact sm_sub [0, 1, 2] rfl (s_X4_roundsOfWords_j40 F C hr self2 self12 ih2 ih12 a1 a3 0 τ)
def X4_roundsOfWords_L12 (F : Nat) (self2 : Int32 → Tau → Option (Int32 × Tau)) : Nat → Int32 → Int32 → Int32 → Tau → Option (Int32 × Tau)
  | 0, _, _, _, _ => none
  | n + 1, a1, a2, a3, τ =>
    if 5 ≤ a3 then (if a2 = 0 then (self2 (a1 + 1) τ) else (some (a1, τ))) else (if a2 = 0 then (X4_roundsOfWords_j39 F self2 (X4_roundsOfWords_L12 F self2 n) a1 a3 τ) else (cal (X4_roundsOf F a3 τ) fun r1 τ2 => if (imax 1 r1) = 0 then none else (if (rmd a1 (imax 1 r1)) = 0 then (X4_roundsOfWords_j40 F self2 (X4_roundsOfWords_L12 F self2 n) a1 a3 1 τ2) else (X4_roundsOfWords_j39 F self2 (X4_roundsOfWords_L12 F self2 n) a1 a3 τ2))))
theorem s_X4_roundsOfWords_L12 (F : Nat) {K : Ctx} (C : Cx K sysX RX4 cX4_roundsOfWords 4 4) (hr : Rt K (some .int)) (self2 : Int32 → Tau → Option (Int32 × Tau)) (ih2 : ∀ (a1 : Int32) (τ : Tau), Sm K sysX 4 (Qi K sysX) (self2 a1 τ) 2 [(0, .ref 213), (1, .int a1)] [] τ) : ∀ (n : Nat) (a1 : Int32) (a2 : Int32) (a3 : Int32) (τ : Tau), Sm K sysX 4 (Qi K sysX) (X4_roundsOfWords_L12 F self2 n a1 a2 a3 τ) 12 [(0, .ref 213), (1, .int a1), (2, .int a2), (3, .int a3)] [] τ := by
  intro n
  induction n with
  | zero => intro a1 a2 a3 τ; exact sm_none
  | succ n ih =>
    intro a1 a2 a3 τ
    rw [X4_roundsOfWords_L12]
    refine sm_seg C [(.iload_n 3, 0), (.iconst 5, 5)] (pc' := 14) (L' := [(0, .ref 213), (1, .int a1), (2, .int a2), (3, .int a3)]) (S' := [.int 5, .int a3]) (by decide +kernel) rfl ?_
    refine sm_icmpge 47 (off := 33) C (by decide +kernel) (by decide) (fun _ => ?_) (fun _ => ?_)
    · refine sm_seg C [(.iload_n 2, 0)] (pc' := 48) (L' := [(0, .ref 213), (1, .int a1), (2, .int a2), (3, .int a3)]) (S' := [.int a2]) (by decide +kernel) rfl ?_
      refine sm_ifeq 53 (off := 5) C (by decide +kernel) (by decide) (fun _ => ?_) (fun _ => ?_)
      · refine sm_seg C [(.iinc 1 1, 1), (.goto (-54), 0)] (pc' := 2) (L' := [(1, .int (a1 + 1)), (0, .ref 213), (2, .int a2), (3, .int a3)]) (S' := []) (by decide +kernel) rfl ?_
        exact sm_sub [1, 0] rfl (ih2 (a1 + 1) τ)
      · refine sm_seg C [(.iload_n 1, 0)] (pc' := 52) (L' := [(0, .ref 213), (1, .int a1), (2, .int a2), (3, .int a3)]) (S' := [.int a1]) (by decide +kernel) rfl ?_
        exact sm_iret C hr rfl (by decide +kernel)
    · refine sm_seg C [(.iload_n 2, 0)] (pc' := 18) (L' := [(0, .ref 213), (1, .int a1), (2, .int a2), (3, .int a3)]) (S' := [.int a2]) (by decide +kernel) rfl ?_
      refine sm_ifeq 39 (off := 21) C (by decide +kernel) (by decide) (fun _ => ?_) (fun _ => ?_)
      · exact sm_sub [0, 1, 3] rfl (s_X4_roundsOfWords_j39 F C hr self2 (X4_roundsOfWords_L12 F self2 n) ih2 ih a1 a3 τ)
      · refine sm_seg C [(.iload_n 1, 0), (.iconst 1, 1), (.aload_n 0, 0), (.iload_n 3, 0)] (pc' := 25) (L' := [(0, .ref 213), (1, .int a1), (2, .int a2), (3, .int a3)]) (S' := [.int a3, .ref 213, .int 1, .int a1]) (by decide +kernel) rfl ?_
        refine sm_vcal [.int a3] [.int 1, .int a1] rfl C mw_X4_roundsOf ml_4_200 rfl (ci := 4) rfl (ltX (by decide +kernel : kdX 213 = 4) (by decide)) (by decide +kernel : kdX 213 = 4) (by decide) ⟨by decide, by decide⟩ (Nat.le_of_ble_eq_true rfl) (by decide +kernel) (c_X4_roundsOf F a3 τ) (fun r1 τ2 => ?_)
        refine sm_max C (by decide) ml_4_125 jw_maxs jw_math jw_maxc (Nat.le_of_ble_eq_true rfl) (by decide +kernel) ?_
        refine sm_ite (fun _ => sm_none) (fun hz => ?_)
        refine sm_irem C (by decide +kernel) hz ?_
        refine sm_ifne 39 (off := 7) C (by decide +kernel) (by decide) (fun _ => ?_) (fun _ => ?_)
        · refine sm_seg C [(.iconst 1, 1), (.goto 4, 0)] (pc' := 40) (L' := [(0, .ref 213), (1, .int a1), (2, .int a2), (3, .int a3)]) (S' := [.int 1]) (by decide +kernel) rfl ?_
          exact sm_sub [0, 1, 3] rfl (s_X4_roundsOfWords_j40 F C hr self2 (X4_roundsOfWords_L12 F self2 n) ih2 ih a1 a3 1 τ2)
        · exact sm_sub [0, 1, 3] rfl (s_X4_roundsOfWords_j39 F C hr self2 (X4_roundsOfWords_L12 F self2 n) ih2 ih a1 a3 τ2)
def X4_roundsOfWords_L2 (F : Nat) : Nat → Int32 → Tau → Option (Int32 × Tau)
  | 0, _, _ => none
  | n + 1, a1, τ =>
    if 60 < a1 then (some ((-1), τ)) else (X4_roundsOfWords_L12 F (X4_roundsOfWords_L2 F n) F a1 1 0 τ)
theorem s_X4_roundsOfWords_L2 (F : Nat) {K : Ctx} (C : Cx K sysX RX4 cX4_roundsOfWords 4 4) (hr : Rt K (some .int)) : ∀ (n : Nat) (a1 : Int32) (τ : Tau), Sm K sysX 4 (Qi K sysX) (X4_roundsOfWords_L2 F n a1 τ) 2 [(0, .ref 213), (1, .int a1)] [] τ := by
  intro n
  induction n with
  | zero => intro a1 τ; exact sm_none
  | succ n ih =>
    intro a1 τ
    rw [X4_roundsOfWords_L2]
    refine sm_seg C [(.iload_n 1, 0), (.bipush 60, 60)] (pc' := 5) (L' := [(0, .ref 213), (1, .int a1)]) (S' := [.int 60, .int a1]) (by decide +kernel) rfl ?_
    refine sm_icmpgt 59 (off := 54) C (by decide +kernel) (by decide) (fun _ => ?_) (fun _ => ?_)
    · refine sm_seg C [(.iconst (-1), (-1))] (pc' := 60) (L' := [(0, .ref 213), (1, .int a1)]) (S' := [.int (-1)]) (by decide +kernel) rfl ?_
      exact sm_iret C hr rfl (by decide +kernel)
    · refine sm_seg C [(.iconst 1, 1), (.istore_n 2, 0), (.iconst 0, 0), (.istore_n 3, 0)] (pc' := 12) (L' := [(3, .int 0), (2, .int 1), (0, .ref 213), (1, .int a1)]) (S' := []) (by decide +kernel) rfl ?_
      exact sm_sub [2, 3, 1, 0] rfl (s_X4_roundsOfWords_L12 F C hr (X4_roundsOfWords_L2 F n) ih F a1 1 0 τ)
def X4_roundsOfWords (F : Nat) (τ : Tau) : Option (Int32 × Tau) :=
  X4_roundsOfWords_L2 F F 1 τ
set_option maxRecDepth 20000 in
set_option maxHeartbeats 4000000 in
theorem c_X4_roundsOfWords (F : Nat) (τ : Tau) (r : Int32) (τ' : Tau) (h : X4_roundsOfWords F τ = some (r, τ')) : MCi sysX yX4_roundsOfWords cX4_roundsOfWords 4 (some .int) 4 [.ref 213] τ r τ' :=
  mci_of (by decide +kernel) (Nat.le_of_ble_eq_true rfl) (fun K C hr => by
    show Sm K sysX 4 (Qi K sysX) (X4_roundsOfWords F τ) 0 [(0, .ref 213)] [] τ
    unfold X4_roundsOfWords
    refine sm_seg C [(.iconst 1, 1), (.istore_n 1, 0)] (pc' := 2) (L' := [(1, .int 1), (0, .ref 213)]) (S' := []) (by decide +kernel) rfl ?_
    exact sm_sub [1, 0] rfl (s_X4_roundsOfWords_L2 F C hr F 1 τ)) h
/-! BasketEnvoys.word -/
def X10_word (F : Nat) (a1 : Int32) (τ : Tau) : Option (Int32 × Tau) :=
  if a1 = (-1) then (cal (X4_roundsOfWords F τ) fun r1 τ2 => some (r1, τ2)) else (cal (X10_within F a1 0 4 τ) fun r3 τ4 => if r3 = 0 then (some ((-1), τ4)) else (cal (X4_becomes F a1 τ4) fun r5 τ6 => some (r5, τ6)))
set_option maxRecDepth 20000 in
set_option maxHeartbeats 4000000 in
theorem c_X10_word (F : Nat) (a1 : Int32) (τ : Tau) (r : Int32) (τ' : Tau) (h : X10_word F a1 τ = some (r, τ')) : MCi sysX yX10_word cX10_word 2 (some .int) 5 [.ref 0, .int a1] τ r τ' :=
  mci_of (by decide +kernel) (Nat.le_of_ble_eq_true rfl) (fun K C hr => by
    show Sm K sysX 2 (Qi K sysX) (X10_word F a1 τ) 0 [(0, .ref 0), (1, .int a1)] [] τ
    unfold X10_word
    refine sm_seg C [(.iload_n 1, 0), (.iconst (-1), (-1))] (pc' := 2) (L' := [(0, .ref 0), (1, .int a1)]) (S' := [.int (-1), .int a1]) (by decide +kernel) rfl ?_
    refine sm_icmpne 13 (off := 11) C (by decide +kernel) (by decide) (fun _ => ?_) (fun _ => ?_)
    · refine sm_seg C [(.aload_n 0, 0)] (pc' := 6) (L' := [(0, .ref 0), (1, .int a1)]) (S' := [.ref 0]) (by decide +kernel) rfl ?_
      refine sm_getR 10 7 213 cls10 C (ltX (by decide +kernel : kdX 0 = 10) (by decide)) (by decide +kernel : kdX 0 = 10) (obX10 (by decide +kernel : kdX 0 = 10)) (by decide) (frX10_7 (by decide +kernel : kdX 0 = 10)) fl10_56 (by decide +kernel) ?_
      refine sm_vcal [] [] rfl C mw_X4_roundsOfWords ml_10_393 rfl (ci := 4) rfl (ltX (krX10_7 (by decide +kernel : kdX 0 = 10)) (by decide)) (krX10_7 (by decide +kernel : kdX 0 = 10)) (by decide) ⟨by decide, by decide⟩ (Nat.le_of_ble_eq_true rfl) (by decide +kernel) (c_X4_roundsOfWords F τ) (fun r1 τ2 => ?_)
      exact sm_iret C hr rfl (by decide +kernel)
    · refine sm_seg C [(.iload_n 1, 0), (.iconst 0, 0), (.iconst 4, 4)] (pc' := 16) (L' := [(0, .ref 0), (1, .int a1)]) (S' := [.int 4, .int 0, .int a1]) (by decide +kernel) rfl ?_
      refine sm_scal [.int a1, .int 0, .int 4] [] rfl C mw_X10_within ml_10_70 rfl ⟨by decide, by decide⟩ (Nat.le_of_ble_eq_true rfl) (by decide +kernel) (c_X10_within F a1 0 4 τ) (fun r3 τ4 => ?_)
      refine sm_ifeq 33 (off := 14) C (by decide +kernel) (by decide) (fun _ => ?_) (fun _ => ?_)
      · refine sm_seg C [(.iconst (-1), (-1))] (pc' := 34) (L' := [(0, .ref 0), (1, .int a1)]) (S' := [.int (-1)]) (by decide +kernel) rfl ?_
        exact sm_iret C hr rfl (by decide +kernel)
      · refine sm_seg C [(.aload_n 0, 0)] (pc' := 23) (L' := [(0, .ref 0), (1, .int a1)]) (S' := [.ref 0]) (by decide +kernel) rfl ?_
        refine sm_getR 10 7 213 cls10 C (ltX (by decide +kernel : kdX 0 = 10) (by decide)) (by decide +kernel : kdX 0 = 10) (obX10 (by decide +kernel : kdX 0 = 10)) (by decide) (frX10_7 (by decide +kernel : kdX 0 = 10)) fl10_56 (by decide +kernel) ?_
        refine sm_seg C [(.iload_n 1, 0)] (pc' := 27) (L' := [(0, .ref 0), (1, .int a1)]) (S' := [.int a1, .ref 213]) (by decide +kernel) rfl ?_
        refine sm_vcal [.int a1] [] rfl C mw_X4_becomes ml_10_396 rfl (ci := 4) rfl (ltX (krX10_7 (by decide +kernel : kdX 0 = 10)) (by decide)) (krX10_7 (by decide +kernel : kdX 0 = 10)) (by decide) ⟨by decide, by decide⟩ (Nat.le_of_ble_eq_true rfl) (by decide +kernel) (c_X4_becomes F a1 τ4) (fun r5 τ6 => ?_)
        refine sm_seg C [(.goto 4, 0)] (pc' := 34) (L' := [(0, .ref 0), (1, .int a1)]) (S' := [.int r5]) (by decide +kernel) rfl ?_
        exact sm_iret C hr rfl (by decide +kernel)) h
/-! BasketEnvoys.worth -/
def X10_worth_j23 (F : Nat) (a1 : Int32) (a2 : Int32) (a3 : Int32) (z0 : Int32) (τ : Tau) : Option (Int32 × Tau) :=
  if z0 = 0 then (some (0, τ)) else (cal (X10_within F a3 0 99 τ) fun r3 τ4 => cal (X10_put F 37 ((6 * a1) + a2) a3 r3 τ4) fun r5 τ6 => if r5 = 0 then (some (0, τ6)) else (some (1, τ6)))
theorem s_X10_worth_j23 (F : Nat) {K : Ctx} (C : Cx K sysX RX10 cX10_worth 5 2) (hr : Rt K (some .boolean)) (a1 : Int32) (a2 : Int32) (a3 : Int32) (z0 : Int32) (τ : Tau) : Sm K sysX 5 (Qi K sysX) (X10_worth_j23 F a1 a2 a3 z0 τ) 23 [(0, .ref 0), (1, .int a1), (2, .int a2), (3, .int a3)] [.int z0] τ := by
  unfold X10_worth_j23
  refine sm_seg C [(.istore 4, 0), (.iload 4, 0)] (pc' := 27) (L' := [(4, .int z0), (0, .ref 0), (1, .int a1), (2, .int a2), (3, .int a3)]) (S' := [.int z0]) (by decide +kernel) rfl ?_
  refine sm_ifeq 64 (off := 37) C (by decide +kernel) (by decide) (fun _ => ?_) (fun _ => ?_)
  · refine sm_seg C [(.iconst 0, 0)] (pc' := 65) (L' := [(4, .int z0), (0, .ref 0), (1, .int a1), (2, .int a2), (3, .int a3)]) (S' := [.int 0]) (by decide +kernel) rfl ?_
    exact sm_iret C hr rfl (by decide +kernel)
  · refine sm_seg C [(.aload_n 0, 0)] (pc' := 31) (L' := [(4, .int z0), (0, .ref 0), (1, .int a1), (2, .int a2), (3, .int a3)]) (S' := [.ref 0]) (by decide +kernel) rfl ?_
    refine sm_getR 10 0 1 cls10 C (ltX (by decide +kernel : kdX 0 = 10) (by decide)) (by decide +kernel : kdX 0 = 10) (obX10 (by decide +kernel : kdX 0 = 10)) (by decide) (frX10_0 (by decide +kernel : kdX 0 = 10)) fl10_12 (by decide +kernel) ?_
    refine sm_getR 9 1 15 cls9 C (ltX (krX10_0 (by decide +kernel : kdX 0 = 10)) (by decide)) (krX10_0 (by decide +kernel : kdX 0 = 10)) (obX9 (krX10_0 (by decide +kernel : kdX 0 = 10))) (by decide) (frX9_1 (krX10_0 (by decide +kernel : kdX 0 = 10))) fl10_243 (by decide +kernel) ?_
    refine sm_getR 7 12 37 cls7 C (ltX (krX9_1 (krX10_0 (by decide +kernel : kdX 0 = 10))) (by decide)) (krX9_1 (krX10_0 (by decide +kernel : kdX 0 = 10))) (obX7 (krX9_1 (krX10_0 (by decide +kernel : kdX 0 = 10)))) (by decide) (frX7_12 (krX9_1 (krX10_0 (by decide +kernel : kdX 0 = 10)))) fl10_321 (by decide +kernel) ?_
    refine sm_seg C [(.bipush 6, 6), (.iload_n 1, 0), (.imul, 0), (.iload_n 2, 0), (.iadd, 0), (.iload_n 3, 0), (.iload_n 3, 0), (.iconst 0, 0), (.bipush 99, 99)] (pc' := 51) (L' := [(4, .int z0), (0, .ref 0), (1, .int a1), (2, .int a2), (3, .int a3)]) (S' := [.int 99, .int 0, .int a3, .int a3, .int ((6 * a1) + a2), .ref 37]) (by decide +kernel) rfl ?_
    refine sm_scal [.int a3, .int 0, .int 99] [.int a3, .int ((6 * a1) + a2), .ref 37] rfl C mw_X10_within ml_10_70 rfl ⟨by decide, by decide⟩ (Nat.le_of_ble_eq_true rfl) (by decide +kernel) (c_X10_within F a3 0 99 τ) (fun r3 τ4 => ?_)
    refine sm_scal [.ref 37, .int ((6 * a1) + a2), .int a3, .int r3] [] rfl C mw_X10_put ml_10_264 rfl ⟨by decide, by decide⟩ (Nat.le_of_ble_eq_true rfl) (by decide +kernel) (c_X10_put F 37 (krX7_12 (krX9_1 (krX10_0 (by decide +kernel : kdX 0 = 10)))) ((6 * a1) + a2) a3 r3 τ4) (fun r5 τ6 => ?_)
    refine sm_ifeq 64 (off := 7) C (by decide +kernel) (by decide) (fun _ => ?_) (fun _ => ?_)
    · refine sm_seg C [(.iconst 0, 0)] (pc' := 65) (L' := [(4, .int z0), (0, .ref 0), (1, .int a1), (2, .int a2), (3, .int a3)]) (S' := [.int 0]) (by decide +kernel) rfl ?_
      exact sm_iret C hr rfl (by decide +kernel)
    · refine sm_seg C [(.iconst 1, 1), (.goto 4, 0)] (pc' := 65) (L' := [(4, .int z0), (0, .ref 0), (1, .int a1), (2, .int a2), (3, .int a3)]) (S' := [.int 1]) (by decide +kernel) rfl ?_
      exact sm_iret C hr rfl (by decide +kernel)
def X10_worth_j22 (F : Nat) (a1 : Int32) (a2 : Int32) (a3 : Int32) (τ : Tau) : Option (Int32 × Tau) :=
  X10_worth_j23 F a1 a2 a3 0 τ
theorem s_X10_worth_j22 (F : Nat) {K : Ctx} (C : Cx K sysX RX10 cX10_worth 5 2) (hr : Rt K (some .boolean)) (a1 : Int32) (a2 : Int32) (a3 : Int32) (τ : Tau) : Sm K sysX 5 (Qi K sysX) (X10_worth_j22 F a1 a2 a3 τ) 22 [(0, .ref 0), (1, .int a1), (2, .int a2), (3, .int a3)] [] τ := by
  unfold X10_worth_j22
  refine sm_seg C [(.iconst 0, 0)] (pc' := 23) (L' := [(0, .ref 0), (1, .int a1), (2, .int a2), (3, .int a3)]) (S' := [.int 0]) (by decide +kernel) rfl ?_
  exact sm_sub [0, 1, 2, 3] rfl (s_X10_worth_j23 F C hr a1 a2 a3 0 τ)
def X10_worth (F : Nat) (a1 : Int32) (a2 : Int32) (a3 : Int32) (τ : Tau) : Option (Int32 × Tau) :=
  cal (X10_within F a1 0 5 τ) fun r1 τ2 => if r1 = 0 then (X10_worth_j22 F a1 a2 a3 τ2) else (cal (X10_within F a2 0 5 τ2) fun r7 τ8 => if r7 = 0 then (X10_worth_j22 F a1 a2 a3 τ8) else (X10_worth_j23 F a1 a2 a3 1 τ8))
set_option maxRecDepth 20000 in
set_option maxHeartbeats 4000000 in
theorem c_X10_worth (F : Nat) (a1 : Int32) (a2 : Int32) (a3 : Int32) (τ : Tau) (r : Int32) (τ' : Tau) (h : X10_worth F a1 a2 a3 τ = some (r, τ')) : MCi sysX yX10_worth cX10_worth 5 (some .boolean) 2 [.ref 0, .int a1, .int a2, .int a3] τ r τ' :=
  mci_of (by decide +kernel) (Nat.le_of_ble_eq_true rfl) (fun K C hr => by
    show Sm K sysX 5 (Qi K sysX) (X10_worth F a1 a2 a3 τ) 0 [(0, .ref 0), (1, .int a1), (2, .int a2), (3, .int a3)] [] τ
    unfold X10_worth
    refine sm_seg C [(.iload_n 1, 0), (.iconst 0, 0), (.iconst 5, 5)] (pc' := 3) (L' := [(0, .ref 0), (1, .int a1), (2, .int a2), (3, .int a3)]) (S' := [.int 5, .int 0, .int a1]) (by decide +kernel) rfl ?_
    refine sm_scal [.int a1, .int 0, .int 5] [] rfl C mw_X10_within ml_10_70 rfl ⟨by decide, by decide⟩ (Nat.le_of_ble_eq_true rfl) (by decide +kernel) (c_X10_within F a1 0 5 τ) (fun r1 τ2 => ?_)
    refine sm_ifeq 22 (off := 16) C (by decide +kernel) (by decide) (fun _ => ?_) (fun _ => ?_)
    · exact sm_sub [0, 1, 2, 3] rfl (s_X10_worth_j22 F C hr a1 a2 a3 τ2)
    · refine sm_seg C [(.iload_n 2, 0), (.iconst 0, 0), (.iconst 5, 5)] (pc' := 12) (L' := [(0, .ref 0), (1, .int a1), (2, .int a2), (3, .int a3)]) (S' := [.int 5, .int 0, .int a2]) (by decide +kernel) rfl ?_
      refine sm_scal [.int a2, .int 0, .int 5] [] rfl C mw_X10_within ml_10_70 rfl ⟨by decide, by decide⟩ (Nat.le_of_ble_eq_true rfl) (by decide +kernel) (c_X10_within F a2 0 5 τ2) (fun r7 τ8 => ?_)
      refine sm_ifeq 22 (off := 7) C (by decide +kernel) (by decide) (fun _ => ?_) (fun _ => ?_)
      · exact sm_sub [0, 1, 2, 3] rfl (s_X10_worth_j22 F C hr a1 a2 a3 τ8)
      · refine sm_seg C [(.iconst 1, 1), (.goto 4, 0)] (pc' := 23) (L' := [(0, .ref 0), (1, .int a1), (2, .int a2), (3, .int a3)]) (S' := [.int 1]) (by decide +kernel) rfl ?_
        exact sm_sub [0, 1, 2, 3] rfl (s_X10_worth_j23 F C hr a1 a2 a3 1 τ8)) h
