/-! BasketEnvoysModel.bad -/
def X11_bad (F : Nat) (a1 : Int32) (τ : Tau) : Option (Int32 × Tau) :=
  pst τ 0 21 a1 fun τ1 => pst τ1 0 22 (τ1 0 19) fun τ2 => some (0, τ2)
set_option maxRecDepth 20000 in
set_option maxHeartbeats 4000000 in
theorem c_X11_bad (F : Nat) (a1 : Int32) (τ : Tau) (r : Int32) (τ' : Tau) (h : X11_bad F a1 τ = some (r, τ')) : MCi sysM yX11_bad cX11_bad 2 (some .boolean) 1 [.ref 0, .int a1] τ r τ' :=
  mci_of (by decide +kernel) (Nat.le_of_ble_eq_true rfl) (fun K C hr => by
    show Sm K sysM 2 (Qi K sysM) (X11_bad F a1 τ) 0 [(0, .ref 0), (1, .int a1)] [] τ
    unfold X11_bad
    refine sm_seg C [(.aload_n 0, 0), (.iload_n 1, 0)] (pc' := 2) (L' := [(0, .ref 0), (1, .int a1)]) (S' := [.int a1, .ref 0]) (by decide +kernel) rfl ?_
    refine sm_pst 11 21 cls11 C (ltM (by decide +kernel : kdM 0 = 11) (by decide)) (by decide +kernel : kdM 0 = 11) (obM11 (by decide +kernel : kdM 0 = 11)) (by decide) (fiM11_21 (by decide +kernel : kdM 0 = 11)) rfl rfl rfl fl11_199 (by decide +kernel) (fun τ1 => ?_)
    refine sm_seg C [(.aload_n 0, 0), (.aload_n 0, 0)] (pc' := 7) (L' := [(0, .ref 0), (1, .int a1)]) (S' := [.ref 0, .ref 0]) (by decide +kernel) rfl ?_
    refine sm_getI 11 19 cls11 C (ltM (by decide +kernel : kdM 0 = 11) (by decide)) (by decide +kernel : kdM 0 = 11) (obM11 (by decide +kernel : kdM 0 = 11)) (by decide) (fiM11_19 (by decide +kernel : kdM 0 = 11)) fl11_103 (by decide +kernel) ?_
    refine sm_pst 11 22 cls11 C (ltM (by decide +kernel : kdM 0 = 11) (by decide)) (by decide +kernel : kdM 0 = 11) (obM11 (by decide +kernel : kdM 0 = 11)) (by decide) (fiM11_22 (by decide +kernel : kdM 0 = 11)) rfl rfl rfl fl11_202 (by decide +kernel) (fun τ2 => ?_)
    refine sm_seg C [(.iconst 0, 0)] (pc' := 14) (L' := [(0, .ref 0), (1, .int a1)]) (S' := [.int 0]) (by decide +kernel) rfl ?_
    exact sm_iret C hr rfl (by decide +kernel)) h
/-! BasketEnvoysModel.see -/
def X11_see (F : Nat) (a1 : Int32) (τ : Tau) : Option (Int32 × Tau) :=
  if (τ 0 16) ≤ a1 then (some ((-1), τ)) else (ald τ 8 400 a1 fun v1 => some (v1, τ))
set_option maxRecDepth 20000 in
set_option maxHeartbeats 4000000 in
theorem c_X11_see (F : Nat) (a1 : Int32) (τ : Tau) (r : Int32) (τ' : Tau) (h : X11_see F a1 τ = some (r, τ')) : MCi sysM yX11_see cX11_see 2 (some .int) 1 [.ref 0, .int a1] τ r τ' :=
  mci_of (by decide +kernel) (Nat.le_of_ble_eq_true rfl) (fun K C hr => by
    show Sm K sysM 2 (Qi K sysM) (X11_see F a1 τ) 0 [(0, .ref 0), (1, .int a1)] [] τ
    unfold X11_see
    refine sm_seg C [(.iload_n 1, 0), (.aload_n 0, 0)] (pc' := 2) (L' := [(0, .ref 0), (1, .int a1)]) (S' := [.ref 0, .int a1]) (by decide +kernel) rfl ?_
    refine sm_getI 11 16 cls11 C (ltM (by decide +kernel : kdM 0 = 11) (by decide)) (by decide +kernel : kdM 0 = 11) (obM11 (by decide +kernel : kdM 0 = 11)) (by decide) (fiM11_16 (by decide +kernel : kdM 0 = 11)) fl11_97 (by decide +kernel) ?_
    refine sm_icmpge 17 (off := 12) C (by decide +kernel) (by decide) (fun _ => ?_) (fun _ => ?_)
    · refine sm_seg C [(.iconst (-1), (-1))] (pc' := 18) (L' := [(0, .ref 0), (1, .int a1)]) (S' := [.int (-1)]) (by decide +kernel) rfl ?_
      exact sm_iret C hr rfl (by decide +kernel)
    · refine sm_seg C [(.aload_n 0, 0)] (pc' := 9) (L' := [(0, .ref 0), (1, .int a1)]) (S' := [.ref 0]) (by decide +kernel) rfl ?_
      refine sm_getR 11 9 8 cls11 C (ltM (by decide +kernel : kdM 0 = 11) (by decide)) (by decide +kernel : kdM 0 = 11) (obM11 (by decide +kernel : kdM 0 = 11)) (by decide) (frM11_9 (by decide +kernel : kdM 0 = 11)) fl11_31 (by decide +kernel) ?_
      refine sm_seg C [(.iload_n 1, 0)] (pc' := 13) (L' := [(0, .ref 0), (1, .int a1)]) (S' := [.int a1, .ref 8]) (by decide +kernel) rfl ?_
      refine sm_ald 400 C (ltM (krM11_9 (by decide +kernel : kdM 0 = 11)) (by decide)) (krM11_9 (by decide +kernel : kdM 0 = 11)) (nrM11_9 (by decide +kernel : kdM 0 = 11)) (by decide +kernel) (fun v1 => ?_)
      refine sm_seg C [(.goto 4, 0)] (pc' := 18) (L' := [(0, .ref 0), (1, .int a1)]) (S' := [.int v1]) (by decide +kernel) rfl ?_
      exact sm_iret C hr rfl (by decide +kernel)) h
/-! BasketEnvoysModel.isIn -/
def X11_isIn (F : Nat) (a0 : Int32) (a1 : Int32) (a2 : Int32) (τ : Tau) : Option (Int32 × Tau) :=
  if a0 < a1 then (some (0, τ)) else (if a2 < a0 then (some (0, τ)) else (some (1, τ)))
set_option maxRecDepth 20000 in
set_option maxHeartbeats 4000000 in
theorem c_X11_isIn (F : Nat) (a0 : Int32) (a1 : Int32) (a2 : Int32) (τ : Tau) (r : Int32) (τ' : Tau) (h : X11_isIn F a0 a1 a2 τ = some (r, τ')) : MCi sysM yX11_isIn cX11_isIn 3 (some .boolean) 1 [.int a0, .int a1, .int a2] τ r τ' :=
  mci_of (by decide +kernel) (Nat.le_of_ble_eq_true rfl) (fun K C hr => by
    show Sm K sysM 3 (Qi K sysM) (X11_isIn F a0 a1 a2 τ) 0 [(0, .int a0), (1, .int a1), (2, .int a2)] [] τ
    unfold X11_isIn
    refine sm_seg C [(.iload_n 0, 0), (.iload_n 1, 0)] (pc' := 2) (L' := [(0, .int a0), (1, .int a1), (2, .int a2)]) (S' := [.int a1, .int a0]) (by decide +kernel) rfl ?_
    refine sm_icmplt 14 (off := 12) C (by decide +kernel) (by decide) (fun _ => ?_) (fun _ => ?_)
    · refine sm_seg C [(.iconst 0, 0)] (pc' := 15) (L' := [(0, .int a0), (1, .int a1), (2, .int a2)]) (S' := [.int 0]) (by decide +kernel) rfl ?_
      exact sm_iret C hr rfl (by decide +kernel)
    · refine sm_seg C [(.iload_n 0, 0), (.iload_n 2, 0)] (pc' := 7) (L' := [(0, .int a0), (1, .int a1), (2, .int a2)]) (S' := [.int a2, .int a0]) (by decide +kernel) rfl ?_
      refine sm_icmpgt 14 (off := 7) C (by decide +kernel) (by decide) (fun _ => ?_) (fun _ => ?_)
      · refine sm_seg C [(.iconst 0, 0)] (pc' := 15) (L' := [(0, .int a0), (1, .int a1), (2, .int a2)]) (S' := [.int 0]) (by decide +kernel) rfl ?_
        exact sm_iret C hr rfl (by decide +kernel)
      · refine sm_seg C [(.iconst 1, 1), (.goto 4, 0)] (pc' := 15) (L' := [(0, .int a0), (1, .int a1), (2, .int a2)]) (S' := [.int 1]) (by decide +kernel) rfl ?_
        exact sm_iret C hr rfl (by decide +kernel)) h
/-! BasketEnvoysModel.isLetter -/
def X11_isLetter (F : Nat) (a0 : Int32) (τ : Tau) : Option (Int32 × Tau) :=
  cal (X11_isIn F a0 97 122 τ) fun r1 τ2 => if r1 = 0 then (cal (X11_isIn F a0 65 90 τ2) fun r3 τ4 => if r3 = 0 then (some (0, τ4)) else (some (1, τ4))) else (some (1, τ2))
set_option maxRecDepth 20000 in
set_option maxHeartbeats 4000000 in
theorem c_X11_isLetter (F : Nat) (a0 : Int32) (τ : Tau) (r : Int32) (τ' : Tau) (h : X11_isLetter F a0 τ = some (r, τ')) : MCi sysM yX11_isLetter cX11_isLetter 1 (some .boolean) 2 [.int a0] τ r τ' :=
  mci_of (by decide +kernel) (Nat.le_of_ble_eq_true rfl) (fun K C hr => by
    show Sm K sysM 1 (Qi K sysM) (X11_isLetter F a0 τ) 0 [(0, .int a0)] [] τ
    unfold X11_isLetter
    refine sm_seg C [(.iload_n 0, 0), (.bipush 97, 97), (.bipush 122, 122)] (pc' := 5) (L' := [(0, .int a0)]) (S' := [.int 122, .int 97, .int a0]) (by decide +kernel) rfl ?_
    refine sm_scal [.int a0, .int 97, .int 122] [] rfl C mw_X11_isIn ml_11_78 rfl ⟨by decide, by decide⟩ (Nat.le_of_ble_eq_true rfl) (by decide +kernel) (c_X11_isIn F a0 97 122 τ) (fun r1 τ2 => ?_)
    refine sm_ifne 22 (off := 14) C (by decide +kernel) (by decide) (fun _ => ?_) (fun _ => ?_)
    · refine sm_seg C [(.iload_n 0, 0), (.bipush 65, 65), (.bipush 90, 90)] (pc' := 16) (L' := [(0, .int a0)]) (S' := [.int 90, .int 65, .int a0]) (by decide +kernel) rfl ?_
      refine sm_scal [.int a0, .int 65, .int 90] [] rfl C mw_X11_isIn ml_11_78 rfl ⟨by decide, by decide⟩ (Nat.le_of_ble_eq_true rfl) (by decide +kernel) (c_X11_isIn F a0 65 90 τ2) (fun r3 τ4 => ?_)
      refine sm_ifeq 26 (off := 7) C (by decide +kernel) (by decide) (fun _ => ?_) (fun _ => ?_)
      · refine sm_seg C [(.iconst 0, 0)] (pc' := 27) (L' := [(0, .int a0)]) (S' := [.int 0]) (by decide +kernel) rfl ?_
        exact sm_iret C hr rfl (by decide +kernel)
      · refine sm_seg C [(.iconst 1, 1), (.goto 4, 0)] (pc' := 27) (L' := [(0, .int a0)]) (S' := [.int 1]) (by decide +kernel) rfl ?_
        exact sm_iret C hr rfl (by decide +kernel)
    · refine sm_seg C [(.iconst 1, 1), (.goto 4, 0)] (pc' := 27) (L' := [(0, .int a0)]) (S' := [.int 1]) (by decide +kernel) rfl ?_
      exact sm_iret C hr rfl (by decide +kernel)) h
/-! java/lang/String.coder -/
def M_String_coder___B (F : Nat) (s0 : Nat) (τ : Tau) : Option (Int32 × Tau) :=
  if (1 : Int32) = 0 then (some (1, τ)) else (some ((0 : Int32), τ))
set_option maxRecDepth 20000 in
set_option maxHeartbeats 4000000 in
theorem c_M_String_coder___B (F : Nat) (s0 : Nat) (h0 : s0 < 30) (τ : Tau) (r : Int32) (τ' : Tau) (h : M_String_coder___B F s0 τ = some (r, τ')) : MCi sysM ⟨"java/lang/String", "coder", "()B"⟩ prog_17_method_152_code 1 (some .byte) 1 [.ref (100000 + s0)] τ r τ' :=
  mci_of (by decide +kernel) (Nat.le_of_ble_eq_true rfl) (fun K C hr => by
    show Sm K sysM 1 (Qi K sysM) (M_String_coder___B F s0 τ) 0 [(0, .ref (100000 + s0))] [] τ
    unfold M_String_coder___B
    refine sm_compact C fs_38 (by decide +kernel) ?_
    refine sm_ifeq 13 (off := 10) C (by decide +kernel) (by decide) (fun _ => ?_) (fun _ => ?_)
    · refine sm_seg C [(.iconst 1, 1)] (pc' := 14) (L' := [(0, .ref (100000 + s0))]) (S' := [.int 1]) (by decide +kernel) rfl ?_
      exact sm_iret C hr rfl (by decide +kernel)
    · refine sm_seg C [(.aload_n 0, 0)] (pc' := 7) (L' := [(0, .ref (100000 + s0))]) (S' := [.ref (100000 + s0)]) (by decide +kernel) rfl ?_
      refine sm_strC C h0 fs_15 (by decide +kernel) ?_
      refine sm_seg C [(.goto 4, 0)] (pc' := 14) (L' := [(0, .ref (100000 + s0))]) (S' := [.int (0 : Int32)]) (by decide +kernel) rfl ?_
      exact sm_iret C hr rfl (by decide +kernel)) h
/-! java/lang/String.length -/
def M_String_length___I (F : Nat) (s0 : Nat) (τ : Tau) : Option (Int32 × Tau) :=
  cal (M_String_coder___B F s0 τ) fun r1 τ2 => some ((shr (Int32.ofNat (sL s0)) r1), τ2)
set_option maxRecDepth 20000 in
set_option maxHeartbeats 4000000 in
theorem c_M_String_length___I (F : Nat) (s0 : Nat) (h0 : s0 < 30) (τ : Tau) (r : Int32) (τ' : Tau) (h : M_String_length___I F s0 τ = some (r, τ')) : MCi sysM ⟨"java/lang/String", "length", "()I"⟩ prog_17_method_54_code 1 (some .int) 2 [.ref (100000 + s0)] τ r τ' :=
  mci_of (by decide +kernel) (Nat.le_of_ble_eq_true rfl) (fun K C hr => by
    show Sm K sysM 1 (Qi K sysM) (M_String_length___I F s0 τ) 0 [(0, .ref (100000 + s0))] [] τ
    unfold M_String_length___I
    refine sm_seg C [(.aload_n 0, 0)] (pc' := 1) (L' := [(0, .ref (100000 + s0))]) (S' := [.ref (100000 + s0)]) (by decide +kernel) rfl ?_
    refine sm_strV C h0 fs_9 (by decide +kernel) ?_
    refine sm_blen C h0 (by decide +kernel) ?_
    refine sm_seg C [(.aload_n 0, 0)] (pc' := 6) (L' := [(0, .ref (100000 + s0))]) (S' := [.ref (100000 + s0), .int (Int32.ofNat (sL s0))]) (by decide +kernel) rfl ?_
    refine sm_vstr [] [.int (Int32.ofNat (sL s0))] rfl C h0 mw_String_coder___B rfl ml_String_335 rfl ⟨by decide, by decide⟩ (Nat.le_of_ble_eq_true rfl) (by decide +kernel) (c_M_String_coder___B F s0 h0 τ) (fun r1 τ2 => ?_)
    refine sm_seg C [(.ishr, 0)] (pc' := 10) (L' := [(0, .ref (100000 + s0))]) (S' := [.int (shr (Int32.ofNat (sL s0)) r1)]) (by decide +kernel) rfl ?_
    exact sm_iret C hr rfl (by decide +kernel)) h
/-! java/lang/String.isLatin1 -/
def M_String_isLatin1___Z (F : Nat) (s0 : Nat) (τ : Tau) : Option (Int32 × Tau) :=
  if (1 : Int32) = 0 then (some (0, τ)) else (if (0 : Int32) = 0 then (some (1, τ)) else (some (0, τ)))
set_option maxRecDepth 20000 in
set_option maxHeartbeats 4000000 in
theorem c_M_String_isLatin1___Z (F : Nat) (s0 : Nat) (h0 : s0 < 30) (τ : Tau) (r : Int32) (τ' : Tau) (h : M_String_isLatin1___Z F s0 τ = some (r, τ')) : MCi sysM ⟨"java/lang/String", "isLatin1", "()Z"⟩ prog_17_method_154_code 1 (some .boolean) 1 [.ref (100000 + s0)] τ r τ' :=
  mci_of (by decide +kernel) (Nat.le_of_ble_eq_true rfl) (fun K C hr => by
    show Sm K sysM 1 (Qi K sysM) (M_String_isLatin1___Z F s0 τ) 0 [(0, .ref (100000 + s0))] [] τ
    unfold M_String_isLatin1___Z
    refine sm_compact C fs_38 (by decide +kernel) ?_
    refine sm_ifeq 17 (off := 14) C (by decide +kernel) (by decide) (fun _ => ?_) (fun _ => ?_)
    · refine sm_seg C [(.iconst 0, 0)] (pc' := 18) (L' := [(0, .ref (100000 + s0))]) (S' := [.int 0]) (by decide +kernel) rfl ?_
      exact sm_iret C hr rfl (by decide +kernel)
    · refine sm_seg C [(.aload_n 0, 0)] (pc' := 7) (L' := [(0, .ref (100000 + s0))]) (S' := [.ref (100000 + s0)]) (by decide +kernel) rfl ?_
      refine sm_strC C h0 fs_15 (by decide +kernel) ?_
      refine sm_ifne 17 (off := 7) C (by decide +kernel) (by decide) (fun _ => ?_) (fun _ => ?_)
      · refine sm_seg C [(.iconst 1, 1), (.goto 4, 0)] (pc' := 18) (L' := [(0, .ref (100000 + s0))]) (S' := [.int 1]) (by decide +kernel) rfl ?_
        exact sm_iret C hr rfl (by decide +kernel)
      · refine sm_seg C [(.iconst 0, 0)] (pc' := 18) (L' := [(0, .ref (100000 + s0))]) (S' := [.int 0]) (by decide +kernel) rfl ?_
        exact sm_iret C hr rfl (by decide +kernel)) h
/-! java/lang/StringLatin1.charAt -/
def M_StringLatin1_charAt___BI_C (F : Nat) (s0 : Nat) (a1 : Int32) (τ : Tau) : Option (Int32 × Tau) :=
  cal (sCheck a1 (Int32.ofNat (sL s0)) τ) fun r1 τ2 => gd a1 (sL s0) (some (vp_nar .char (chr ((sC s0 (ix a1)) &&& 255)), τ2))
set_option maxRecDepth 20000 in
set_option maxHeartbeats 4000000 in
theorem c_M_StringLatin1_charAt___BI_C (F : Nat) (s0 : Nat) (h0 : s0 < 30) (a1 : Int32) (τ : Tau) (r : Int32) (τ' : Tau) (h : M_StringLatin1_charAt___BI_C F s0 a1 τ = some (r, τ')) : MCi sysM ⟨"java/lang/StringLatin1", "charAt", "([BI)C"⟩ prog_18_method_2_code 2 (some .char) 3 [.ref (200000 + s0), .int a1] τ r τ' :=
  mci_of (by decide +kernel) (Nat.le_of_ble_eq_true rfl) (fun K C hr => by
    show Sm K sysM 2 (Qi K sysM) (M_StringLatin1_charAt___BI_C F s0 a1 τ) 0 [(0, .ref (200000 + s0)), (1, .int a1)] [] τ
    unfold M_StringLatin1_charAt___BI_C
    refine sm_seg C [(.iload_n 1, 0), (.aload_n 0, 0)] (pc' := 2) (L' := [(0, .ref (200000 + s0)), (1, .int a1)]) (S' := [.ref (200000 + s0), .int a1]) (by decide +kernel) rfl ?_
    refine sm_blen C h0 (by decide +kernel) ?_
    refine sm_scalv [.int a1, .int (Int32.ofNat (sL s0))] [] rfl C mw_String_checkIndex__II_V ml_StringLatin1_9 rfl ⟨by decide, by decide⟩ (Nat.le_of_ble_eq_true rfl) (by decide +kernel) (c_sCheck a1 (Int32.ofNat (sL s0)) τ) (fun r1 τ2 => ?_)
    refine sm_seg C [(.aload_n 0, 0), (.iload_n 1, 0)] (pc' := 8) (L' := [(0, .ref (200000 + s0)), (1, .int a1)]) (S' := [.int a1, .ref (200000 + s0)]) (by decide +kernel) rfl ?_
    refine sm_bald C h0 (by decide +kernel) ?_
    refine sm_seg C [(.sipush 255, 255), (.iand, 0), (.i2c, 0)] (pc' := 14) (L' := [(0, .ref (200000 + s0)), (1, .int a1)]) (S' := [.int (chr ((sC s0 (ix a1)) &&& 255))]) (by decide +kernel) rfl ?_
    exact sm_iret C hr nar_char (by decide +kernel)) h
/-! java/lang/String.charAt -/
def M_String_charAt__I_C (F : Nat) (s0 : Nat) (a1 : Int32) (τ : Tau) : Option (Int32 × Tau) :=
  cal (M_String_isLatin1___Z F s0 τ) fun r1 τ2 => if r1 = 0 then (none) else (cal (M_StringLatin1_charAt___BI_C F s0 a1 τ2) fun r5 τ6 => some (vp_nar .char r5, τ6))
set_option maxRecDepth 20000 in
set_option maxHeartbeats 4000000 in
theorem c_M_String_charAt__I_C (F : Nat) (s0 : Nat) (h0 : s0 < 30) (a1 : Int32) (τ : Tau) (r : Int32) (τ' : Tau) (h : M_String_charAt__I_C F s0 a1 τ = some (r, τ')) : MCi sysM ⟨"java/lang/String", "charAt", "(I)C"⟩ prog_17_method_56_code 2 (some .char) 4 [.ref (100000 + s0), .int a1] τ r τ' :=
  mci_of (by decide +kernel) (Nat.le_of_ble_eq_true rfl) (fun K C hr => by
    show Sm K sysM 2 (Qi K sysM) (M_String_charAt__I_C F s0 a1 τ) 0 [(0, .ref (100000 + s0)), (1, .int a1)] [] τ
    unfold M_String_charAt__I_C
    refine sm_seg C [(.aload_n 0, 0)] (pc' := 1) (L' := [(0, .ref (100000 + s0)), (1, .int a1)]) (S' := [.ref (100000 + s0)]) (by decide +kernel) rfl ?_
    refine sm_vstr [] [] rfl C h0 mw_String_isLatin1___Z rfl ml_String_492 rfl ⟨by decide, by decide⟩ (Nat.le_of_ble_eq_true rfl) (by decide +kernel) (c_M_String_isLatin1___Z F s0 h0 τ) (fun r1 τ2 => ?_)
    refine sm_ifeq 16 (off := 12) C (by decide +kernel) (by decide) (fun _ => ?_) (fun _ => ?_)
    · refine sm_seg C [(.aload_n 0, 0)] (pc' := 17) (L' := [(0, .ref (100000 + s0)), (1, .int a1)]) (S' := [.ref (100000 + s0)]) (by decide +kernel) rfl ?_
      refine sm_strV C h0 fs_9 (by decide +kernel) ?_
      refine sm_seg C [(.iload_n 1, 0)] (pc' := 21) (L' := [(0, .ref (100000 + s0)), (1, .int a1)]) (S' := [.int a1, .ref (200000 + s0)]) (by decide +kernel) rfl ?_
      exact sm_none
    · refine sm_seg C [(.aload_n 0, 0)] (pc' := 8) (L' := [(0, .ref (100000 + s0)), (1, .int a1)]) (S' := [.ref (100000 + s0)]) (by decide +kernel) rfl ?_
      refine sm_strV C h0 fs_9 (by decide +kernel) ?_
      refine sm_seg C [(.iload_n 1, 0)] (pc' := 12) (L' := [(0, .ref (100000 + s0)), (1, .int a1)]) (S' := [.int a1, .ref (200000 + s0)]) (by decide +kernel) rfl ?_
      refine sm_scal [.ref (200000 + s0), .int a1] [] rfl C mw_StringLatin1_charAt___BI_C ml_String_495 rfl ⟨by decide, by decide⟩ (Nat.le_of_ble_eq_true rfl) (by decide +kernel) (c_M_StringLatin1_charAt___BI_C F s0 h0 a1 τ2) (fun r5 τ6 => ?_)
      exact sm_iret C hr nar_char (by decide +kernel)) h
/-! BasketEnvoysModel.is -/
def X11_is_j60 (F : Nat) (self24 : Int32 → Int32 → Tau → Option (Int32 × Tau)) (s1 : Nat) (a3 : Int32) (z0 : Int32) (τ : Tau) : Option (Int32 × Tau) :=
  self24 z0 (a3 + 1) τ
theorem s_X11_is_j60 (F : Nat) (s1 : Nat) {K : Ctx} (C : Cx K sysM RX11 cX11_is 4 5) (hr : Rt K (some .boolean)) (h1 : s1 < 30) (self24 : Int32 → Int32 → Tau → Option (Int32 × Tau)) (ih24 : ∀ (a2 : Int32) (a3 : Int32) (τ : Tau), Sm K sysM 4 (Qi K sysM) (self24 a2 a3 τ) 24 [(0, .ref 0), (1, .ref (100000 + s1)), (2, .int a2), (3, .int a3)] [] τ) (a3 : Int32) (z0 : Int32) (τ : Tau) : Sm K sysM 4 (Qi K sysM) (X11_is_j60 F self24 s1 a3 z0 τ) 60 [(0, .ref 0), (1, .ref (100000 + s1)), (3, .int a3)] [.int z0] τ := by
  unfold X11_is_j60
  refine sm_seg C [(.istore_n 2, 0), (.iinc 3 1, 1), (.goto (-40), 0)] (pc' := 24) (L' := [(3, .int (a3 + 1)), (2, .int z0), (0, .ref 0), (1, .ref (100000 + s1))]) (S' := []) (by decide +kernel) rfl ?_
  exact sm_sub [2, 3, 1, 0] rfl (ih24 z0 (a3 + 1) τ)
def X11_is_L24 (F : Nat) (s1 : Nat) : Nat → Int32 → Int32 → Tau → Option (Int32 × Tau)
  | 0, _, _, _ => none
  | n + 1, a2, a3, τ =>
    cal (M_String_length___I F s1 τ) fun r3 τ4 => if r3 ≤ a3 then (some (vp_nar .boolean a2, τ4)) else (if a2 = 0 then (some (vp_nar .boolean a2, τ4)) else (ald τ4 8 400 ((τ4 0 19) + a3) fun v5 => cal (M_String_charAt__I_C F s1 a3 τ4) fun r6 τ7 => if v5 = r6 then (X11_is_j60 F (X11_is_L24 F s1 n) s1 a3 1 τ7) else (X11_is_j60 F (X11_is_L24 F s1 n) s1 a3 0 τ7)))
theorem s_X11_is_L24 (F : Nat) (s1 : Nat) {K : Ctx} (C : Cx K sysM RX11 cX11_is 4 5) (hr : Rt K (some .boolean)) (h1 : s1 < 30) : ∀ (n : Nat) (a2 : Int32) (a3 : Int32) (τ : Tau), Sm K sysM 4 (Qi K sysM) (X11_is_L24 F s1 n a2 a3 τ) 24 [(0, .ref 0), (1, .ref (100000 + s1)), (2, .int a2), (3, .int a3)] [] τ := by
  intro n
  induction n with
  | zero => intro a2 a3 τ; exact sm_none
  | succ n ih =>
    intro a2 a3 τ
    rw [X11_is_L24]
    refine sm_seg C [(.iload_n 3, 0), (.aload_n 1, 0)] (pc' := 26) (L' := [(0, .ref 0), (1, .ref (100000 + s1)), (2, .int a2), (3, .int a3)]) (S' := [.ref (100000 + s1), .int a3]) (by decide +kernel) rfl ?_
    refine sm_vstr [] [.int a3] rfl C h1 mw_String_length___I rfl ml_11_106 rfl ⟨by decide, by decide⟩ (Nat.le_of_ble_eq_true rfl) (by decide +kernel) (c_M_String_length___I F s1 h1 τ) (fun r3 τ4 => ?_)
    refine sm_icmpge 67 (off := 38) C (by decide +kernel) (by decide) (fun _ => ?_) (fun _ => ?_)
    · refine sm_seg C [(.iload_n 2, 0)] (pc' := 68) (L' := [(0, .ref 0), (1, .ref (100000 + s1)), (2, .int a2), (3, .int a3)]) (S' := [.int a2]) (by decide +kernel) rfl ?_
      exact sm_iret C hr nar_boolean (by decide +kernel)
    · refine sm_seg C [(.iload_n 2, 0)] (pc' := 33) (L' := [(0, .ref 0), (1, .ref (100000 + s1)), (2, .int a2), (3, .int a3)]) (S' := [.int a2]) (by decide +kernel) rfl ?_
      refine sm_ifeq 67 (off := 34) C (by decide +kernel) (by decide) (fun _ => ?_) (fun _ => ?_)
      · refine sm_seg C [(.iload_n 2, 0)] (pc' := 68) (L' := [(0, .ref 0), (1, .ref (100000 + s1)), (2, .int a2), (3, .int a3)]) (S' := [.int a2]) (by decide +kernel) rfl ?_
        exact sm_iret C hr nar_boolean (by decide +kernel)
      · refine sm_seg C [(.aload_n 0, 0)] (pc' := 37) (L' := [(0, .ref 0), (1, .ref (100000 + s1)), (2, .int a2), (3, .int a3)]) (S' := [.ref 0]) (by decide +kernel) rfl ?_
        refine sm_getR 11 9 8 cls11 C (ltM (by decide +kernel : kdM 0 = 11) (by decide)) (by decide +kernel : kdM 0 = 11) (obM11 (by decide +kernel : kdM 0 = 11)) (by decide) (frM11_9 (by decide +kernel : kdM 0 = 11)) fl11_31 (by decide +kernel) ?_
        refine sm_seg C [(.aload_n 0, 0)] (pc' := 41) (L' := [(0, .ref 0), (1, .ref (100000 + s1)), (2, .int a2), (3, .int a3)]) (S' := [.ref 0, .ref 8]) (by decide +kernel) rfl ?_
        refine sm_getI 11 19 cls11 C (ltM (by decide +kernel : kdM 0 = 11) (by decide)) (by decide +kernel : kdM 0 = 11) (obM11 (by decide +kernel : kdM 0 = 11)) (by decide) (fiM11_19 (by decide +kernel : kdM 0 = 11)) fl11_103 (by decide +kernel) ?_
        refine sm_seg C [(.iload_n 3, 0), (.iadd, 0)] (pc' := 46) (L' := [(0, .ref 0), (1, .ref (100000 + s1)), (2, .int a2), (3, .int a3)]) (S' := [.int ((τ4 0 19) + a3), .ref 8]) (by decide +kernel) rfl ?_
        refine sm_ald 400 C (ltM (krM11_9 (by decide +kernel : kdM 0 = 11)) (by decide)) (krM11_9 (by decide +kernel : kdM 0 = 11)) (nrM11_9 (by decide +kernel : kdM 0 = 11)) (by decide +kernel) (fun v5 => ?_)
        refine sm_seg C [(.aload_n 1, 0), (.iload_n 3, 0)] (pc' := 49) (L' := [(0, .ref 0), (1, .ref (100000 + s1)), (2, .int a2), (3, .int a3)]) (S' := [.int a3, .ref (100000 + s1), .int v5]) (by decide +kernel) rfl ?_
        refine sm_vstr [.int a3] [.int v5] rfl C h1 mw_String_charAt__I_C rfl ml_11_112 rfl ⟨by decide, by decide⟩ (Nat.le_of_ble_eq_true rfl) (by decide +kernel) (c_M_String_charAt__I_C F s1 h1 a3 τ4) (fun r6 τ7 => ?_)
        refine sm_icmpne 59 (off := 7) C (by decide +kernel) (by decide) (fun _ => ?_) (fun _ => ?_)
        · refine sm_seg C [(.iconst 1, 1), (.goto 4, 0)] (pc' := 60) (L' := [(0, .ref 0), (1, .ref (100000 + s1)), (2, .int a2), (3, .int a3)]) (S' := [.int 1]) (by decide +kernel) rfl ?_
          exact sm_sub [0, 1, 3] rfl (s_X11_is_j60 F s1 C hr h1 (X11_is_L24 F s1 n) ih a3 1 τ7)
        · refine sm_seg C [(.iconst 0, 0)] (pc' := 60) (L' := [(0, .ref 0), (1, .ref (100000 + s1)), (2, .int a2), (3, .int a3)]) (S' := [.int 0]) (by decide +kernel) rfl ?_
          exact sm_sub [0, 1, 3] rfl (s_X11_is_j60 F s1 C hr h1 (X11_is_L24 F s1 n) ih a3 0 τ7)
def X11_is_j21 (F : Nat) (s1 : Nat) (z0 : Int32) (τ : Tau) : Option (Int32 × Tau) :=
  X11_is_L24 F s1 F z0 0 τ
theorem s_X11_is_j21 (F : Nat) (s1 : Nat) {K : Ctx} (C : Cx K sysM RX11 cX11_is 4 5) (hr : Rt K (some .boolean)) (h1 : s1 < 30) (z0 : Int32) (τ : Tau) : Sm K sysM 4 (Qi K sysM) (X11_is_j21 F s1 z0 τ) 21 [(0, .ref 0), (1, .ref (100000 + s1))] [.int z0] τ := by
  unfold X11_is_j21
  refine sm_seg C [(.istore_n 2, 0), (.iconst 0, 0), (.istore_n 3, 0)] (pc' := 24) (L' := [(3, .int 0), (2, .int z0), (0, .ref 0), (1, .ref (100000 + s1))]) (S' := []) (by decide +kernel) rfl ?_
  exact sm_sub [2, 3, 1, 0] rfl (s_X11_is_L24 F s1 C hr h1 F z0 0 τ)
def X11_is (F : Nat) (s1 : Nat) (τ : Tau) : Option (Int32 × Tau) :=
  cal (M_String_length___I F s1 τ) fun r1 τ2 => if ((τ 0 17) - (τ 0 19)) = r1 then (X11_is_j21 F s1 1 τ2) else (X11_is_j21 F s1 0 τ2)
set_option maxRecDepth 20000 in
set_option maxHeartbeats 4000000 in
theorem c_X11_is (F : Nat) (s1 : Nat) (h1 : s1 < 30) (τ : Tau) (r : Int32) (τ' : Tau) (h : X11_is F s1 τ = some (r, τ')) : MCi sysM yX11_is cX11_is 4 (some .boolean) 5 [.ref 0, .ref (100000 + s1)] τ r τ' :=
  mci_of (by decide +kernel) (Nat.le_of_ble_eq_true rfl) (fun K C hr => by
    show Sm K sysM 4 (Qi K sysM) (X11_is F s1 τ) 0 [(0, .ref 0), (1, .ref (100000 + s1))] [] τ
    unfold X11_is
    refine sm_seg C [(.aload_n 0, 0)] (pc' := 1) (L' := [(0, .ref 0), (1, .ref (100000 + s1))]) (S' := [.ref 0]) (by decide +kernel) rfl ?_
    refine sm_getI 11 17 cls11 C (ltM (by decide +kernel : kdM 0 = 11) (by decide)) (by decide +kernel : kdM 0 = 11) (obM11 (by decide +kernel : kdM 0 = 11)) (by decide) (fiM11_17 (by decide +kernel : kdM 0 = 11)) fl11_100 (by decide +kernel) ?_
    refine sm_seg C [(.aload_n 0, 0)] (pc' := 5) (L' := [(0, .ref 0), (1, .ref (100000 + s1))]) (S' := [.ref 0, .int (τ 0 17)]) (by decide +kernel) rfl ?_
    refine sm_getI 11 19 cls11 C (ltM (by decide +kernel : kdM 0 = 11) (by decide)) (by decide +kernel : kdM 0 = 11) (obM11 (by decide +kernel : kdM 0 = 11)) (by decide) (fiM11_19 (by decide +kernel : kdM 0 = 11)) fl11_103 (by decide +kernel) ?_
    refine sm_seg C [(.isub, 0), (.aload_n 1, 0)] (pc' := 10) (L' := [(0, .ref 0), (1, .ref (100000 + s1))]) (S' := [.ref (100000 + s1), .int ((τ 0 17) - (τ 0 19))]) (by decide +kernel) rfl ?_
    refine sm_vstr [] [.int ((τ 0 17) - (τ 0 19))] rfl C h1 mw_String_length___I rfl ml_11_106 rfl ⟨by decide, by decide⟩ (Nat.le_of_ble_eq_true rfl) (by decide +kernel) (c_M_String_length___I F s1 h1 τ) (fun r1 τ2 => ?_)
    refine sm_icmpne 20 (off := 7) C (by decide +kernel) (by decide) (fun _ => ?_) (fun _ => ?_)
    · refine sm_seg C [(.iconst 1, 1), (.goto 4, 0)] (pc' := 21) (L' := [(0, .ref 0), (1, .ref (100000 + s1))]) (S' := [.int 1]) (by decide +kernel) rfl ?_
      exact sm_sub [0, 1] rfl (s_X11_is_j21 F s1 C hr h1 1 τ2)
    · refine sm_seg C [(.iconst 0, 0)] (pc' := 21) (L' := [(0, .ref 0), (1, .ref (100000 + s1))]) (S' := [.int 0]) (by decide +kernel) rfl ?_
      exact sm_sub [0, 1] rfl (s_X11_is_j21 F s1 C hr h1 0 τ2)) h
/-! BasketEnvoysModel.asked -/
def X11_asked (F : Nat) (τ : Tau) : Option (Int32 × Tau) :=
  cal (X11_is F 13 τ) fun r1 τ2 => if r1 = 0 then (cal (X11_is F 14 τ2) fun r3 τ4 => if r3 = 0 then (cal (X11_is F 15 τ4) fun r5 τ6 => if r5 = 0 then (cal (X11_is F 16 τ6) fun r7 τ8 => if r7 = 0 then (cal (X11_is F 17 τ8) fun r9 τ10 => if r9 = 0 then (cal (X11_is F 18 τ10) fun r11 τ12 => if r11 = 0 then (cal (X11_is F 19 τ12) fun r13 τ14 => if r13 = 0 then (cal (X11_is F 20 τ14) fun r15 τ16 => if r15 = 0 then (cal (X11_is F 21 τ16) fun r17 τ18 => if r17 = 0 then (cal (X11_is F 22 τ18) fun r19 τ20 => if r19 = 0 then (some (1, τ20)) else (some (50, τ20))) else (some (49, τ18))) else (some (48, τ16))) else (some (47, τ14))) else (some (46, τ12))) else (some (45, τ10))) else (some (44, τ8))) else (some (43, τ6))) else (some (42, τ4))) else (some (41, τ2))
set_option maxRecDepth 20000 in
set_option maxHeartbeats 4000000 in
theorem c_X11_asked (F : Nat) (τ : Tau) (r : Int32) (τ' : Tau) (h : X11_asked F τ = some (r, τ')) : MCi sysM yX11_asked cX11_asked 1 (some .int) 6 [.ref 0] τ r τ' :=
  mci_of (by decide +kernel) (Nat.le_of_ble_eq_true rfl) (fun K C hr => by
    show Sm K sysM 1 (Qi K sysM) (X11_asked F τ) 0 [(0, .ref 0)] [] τ
    unfold X11_asked
    refine sm_seg C [(.aload_n 0, 0)] (pc' := 1) (L' := [(0, .ref 0)]) (S' := [.ref 0]) (by decide +kernel) rfl ?_
    refine sm_ldcS C st_13 (by decide +kernel) ?_
    refine sm_vcal [.ref (100000 + 13)] [] rfl C mw_X11_is ml_11_118 rfl (ci := 11) rfl (ltM (by decide +kernel : kdM 0 = 11) (by decide)) (by decide +kernel : kdM 0 = 11) (by decide) ⟨by decide, by decide⟩ (Nat.le_of_ble_eq_true rfl) (by decide +kernel) (c_X11_is F 13 (by decide : 13 < 30) τ) (fun r1 τ2 => ?_)
    refine sm_ifeq 12 (off := 6) C (by decide +kernel) (by decide) (fun _ => ?_) (fun _ => ?_)
    · refine sm_seg C [(.aload_n 0, 0)] (pc' := 13) (L' := [(0, .ref 0)]) (S' := [.ref 0]) (by decide +kernel) rfl ?_
      refine sm_ldcS C st_14 (by decide +kernel) ?_
      refine sm_vcal [.ref (100000 + 14)] [] rfl C mw_X11_is ml_11_118 rfl (ci := 11) rfl (ltM (by decide +kernel : kdM 0 = 11) (by decide)) (by decide +kernel : kdM 0 = 11) (by decide) ⟨by decide, by decide⟩ (Nat.le_of_ble_eq_true rfl) (by decide +kernel) (c_X11_is F 14 (by decide : 14 < 30) τ2) (fun r3 τ4 => ?_)
      refine sm_ifeq 24 (off := 6) C (by decide +kernel) (by decide) (fun _ => ?_) (fun _ => ?_)
      · refine sm_seg C [(.aload_n 0, 0)] (pc' := 25) (L' := [(0, .ref 0)]) (S' := [.ref 0]) (by decide +kernel) rfl ?_
        refine sm_ldcS C st_15 (by decide +kernel) ?_
        refine sm_vcal [.ref (100000 + 15)] [] rfl C mw_X11_is ml_11_118 rfl (ci := 11) rfl (ltM (by decide +kernel : kdM 0 = 11) (by decide)) (by decide +kernel : kdM 0 = 11) (by decide) ⟨by decide, by decide⟩ (Nat.le_of_ble_eq_true rfl) (by decide +kernel) (c_X11_is F 15 (by decide : 15 < 30) τ4) (fun r5 τ6 => ?_)
        refine sm_ifeq 36 (off := 6) C (by decide +kernel) (by decide) (fun _ => ?_) (fun _ => ?_)
        · refine sm_seg C [(.aload_n 0, 0)] (pc' := 37) (L' := [(0, .ref 0)]) (S' := [.ref 0]) (by decide +kernel) rfl ?_
          refine sm_ldcS C st_16 (by decide +kernel) ?_
          refine sm_vcal [.ref (100000 + 16)] [] rfl C mw_X11_is ml_11_118 rfl (ci := 11) rfl (ltM (by decide +kernel : kdM 0 = 11) (by decide)) (by decide +kernel : kdM 0 = 11) (by decide) ⟨by decide, by decide⟩ (Nat.le_of_ble_eq_true rfl) (by decide +kernel) (c_X11_is F 16 (by decide : 16 < 30) τ6) (fun r7 τ8 => ?_)
          refine sm_ifeq 48 (off := 6) C (by decide +kernel) (by decide) (fun _ => ?_) (fun _ => ?_)
          · refine sm_seg C [(.aload_n 0, 0)] (pc' := 49) (L' := [(0, .ref 0)]) (S' := [.ref 0]) (by decide +kernel) rfl ?_
            refine sm_ldcS C st_17 (by decide +kernel) ?_
            refine sm_vcal [.ref (100000 + 17)] [] rfl C mw_X11_is ml_11_118 rfl (ci := 11) rfl (ltM (by decide +kernel : kdM 0 = 11) (by decide)) (by decide +kernel : kdM 0 = 11) (by decide) ⟨by decide, by decide⟩ (Nat.le_of_ble_eq_true rfl) (by decide +kernel) (c_X11_is F 17 (by decide : 17 < 30) τ8) (fun r9 τ10 => ?_)
            refine sm_ifeq 60 (off := 6) C (by decide +kernel) (by decide) (fun _ => ?_) (fun _ => ?_)
            · refine sm_seg C [(.aload_n 0, 0)] (pc' := 61) (L' := [(0, .ref 0)]) (S' := [.ref 0]) (by decide +kernel) rfl ?_
              refine sm_ldcS C st_18 (by decide +kernel) ?_
              refine sm_vcal [.ref (100000 + 18)] [] rfl C mw_X11_is ml_11_118 rfl (ci := 11) rfl (ltM (by decide +kernel : kdM 0 = 11) (by decide)) (by decide +kernel : kdM 0 = 11) (by decide) ⟨by decide, by decide⟩ (Nat.le_of_ble_eq_true rfl) (by decide +kernel) (c_X11_is F 18 (by decide : 18 < 30) τ10) (fun r11 τ12 => ?_)
              refine sm_ifeq 72 (off := 6) C (by decide +kernel) (by decide) (fun _ => ?_) (fun _ => ?_)
              · refine sm_seg C [(.aload_n 0, 0)] (pc' := 73) (L' := [(0, .ref 0)]) (S' := [.ref 0]) (by decide +kernel) rfl ?_
                refine sm_ldcS C st_19 (by decide +kernel) ?_
                refine sm_vcal [.ref (100000 + 19)] [] rfl C mw_X11_is ml_11_118 rfl (ci := 11) rfl (ltM (by decide +kernel : kdM 0 = 11) (by decide)) (by decide +kernel : kdM 0 = 11) (by decide) ⟨by decide, by decide⟩ (Nat.le_of_ble_eq_true rfl) (by decide +kernel) (c_X11_is F 19 (by decide : 19 < 30) τ12) (fun r13 τ14 => ?_)
                refine sm_ifeq 84 (off := 6) C (by decide +kernel) (by decide) (fun _ => ?_) (fun _ => ?_)
                · refine sm_seg C [(.aload_n 0, 0)] (pc' := 85) (L' := [(0, .ref 0)]) (S' := [.ref 0]) (by decide +kernel) rfl ?_
                  refine sm_ldcS C st_20 (by decide +kernel) ?_
                  refine sm_vcal [.ref (100000 + 20)] [] rfl C mw_X11_is ml_11_118 rfl (ci := 11) rfl (ltM (by decide +kernel : kdM 0 = 11) (by decide)) (by decide +kernel : kdM 0 = 11) (by decide) ⟨by decide, by decide⟩ (Nat.le_of_ble_eq_true rfl) (by decide +kernel) (c_X11_is F 20 (by decide : 20 < 30) τ14) (fun r15 τ16 => ?_)
                  refine sm_ifeq 96 (off := 6) C (by decide +kernel) (by decide) (fun _ => ?_) (fun _ => ?_)
                  · refine sm_seg C [(.aload_n 0, 0)] (pc' := 97) (L' := [(0, .ref 0)]) (S' := [.ref 0]) (by decide +kernel) rfl ?_
                    refine sm_ldcS C st_21 (by decide +kernel) ?_
                    refine sm_vcal [.ref (100000 + 21)] [] rfl C mw_X11_is ml_11_118 rfl (ci := 11) rfl (ltM (by decide +kernel : kdM 0 = 11) (by decide)) (by decide +kernel : kdM 0 = 11) (by decide) ⟨by decide, by decide⟩ (Nat.le_of_ble_eq_true rfl) (by decide +kernel) (c_X11_is F 21 (by decide : 21 < 30) τ16) (fun r17 τ18 => ?_)
                    refine sm_ifeq 108 (off := 6) C (by decide +kernel) (by decide) (fun _ => ?_) (fun _ => ?_)
                    · refine sm_seg C [(.aload_n 0, 0)] (pc' := 109) (L' := [(0, .ref 0)]) (S' := [.ref 0]) (by decide +kernel) rfl ?_
                      refine sm_ldcS C st_22 (by decide +kernel) ?_
                      refine sm_vcal [.ref (100000 + 22)] [] rfl C mw_X11_is ml_11_118 rfl (ci := 11) rfl (ltM (by decide +kernel : kdM 0 = 11) (by decide)) (by decide +kernel : kdM 0 = 11) (by decide) ⟨by decide, by decide⟩ (Nat.le_of_ble_eq_true rfl) (by decide +kernel) (c_X11_is F 22 (by decide : 22 < 30) τ18) (fun r19 τ20 => ?_)
                      refine sm_ifeq 122 (off := 8) C (by decide +kernel) (by decide) (fun _ => ?_) (fun _ => ?_)
                      · refine sm_seg C [(.iconst 1, 1)] (pc' := 123) (L' := [(0, .ref 0)]) (S' := [.int 1]) (by decide +kernel) rfl ?_
                        exact sm_iret C hr rfl (by decide +kernel)
                      · refine sm_seg C [(.bipush 50, 50), (.goto 4, 0)] (pc' := 123) (L' := [(0, .ref 0)]) (S' := [.int 50]) (by decide +kernel) rfl ?_
                        exact sm_iret C hr rfl (by decide +kernel)
                    · refine sm_seg C [(.bipush 49, 49)] (pc' := 107) (L' := [(0, .ref 0)]) (S' := [.int 49]) (by decide +kernel) rfl ?_
                      exact sm_iret C hr rfl (by decide +kernel)
                  · refine sm_seg C [(.bipush 48, 48)] (pc' := 95) (L' := [(0, .ref 0)]) (S' := [.int 48]) (by decide +kernel) rfl ?_
                    exact sm_iret C hr rfl (by decide +kernel)
                · refine sm_seg C [(.bipush 47, 47)] (pc' := 83) (L' := [(0, .ref 0)]) (S' := [.int 47]) (by decide +kernel) rfl ?_
                  exact sm_iret C hr rfl (by decide +kernel)
              · refine sm_seg C [(.bipush 46, 46)] (pc' := 71) (L' := [(0, .ref 0)]) (S' := [.int 46]) (by decide +kernel) rfl ?_
                exact sm_iret C hr rfl (by decide +kernel)
            · refine sm_seg C [(.bipush 45, 45)] (pc' := 59) (L' := [(0, .ref 0)]) (S' := [.int 45]) (by decide +kernel) rfl ?_
              exact sm_iret C hr rfl (by decide +kernel)
          · refine sm_seg C [(.bipush 44, 44)] (pc' := 47) (L' := [(0, .ref 0)]) (S' := [.int 44]) (by decide +kernel) rfl ?_
            exact sm_iret C hr rfl (by decide +kernel)
        · refine sm_seg C [(.bipush 43, 43)] (pc' := 35) (L' := [(0, .ref 0)]) (S' := [.int 43]) (by decide +kernel) rfl ?_
          exact sm_iret C hr rfl (by decide +kernel)
      · refine sm_seg C [(.bipush 42, 42)] (pc' := 23) (L' := [(0, .ref 0)]) (S' := [.int 42]) (by decide +kernel) rfl ?_
        exact sm_iret C hr rfl (by decide +kernel)
    · refine sm_seg C [(.bipush 41, 41)] (pc' := 11) (L' := [(0, .ref 0)]) (S' := [.int 41]) (by decide +kernel) rfl ?_
      exact sm_iret C hr rfl (by decide +kernel)) h
/-! BasketEnvoysModel.lawWord -/
def X11_lawWord (F : Nat) (τ : Tau) : Option (Int32 × Tau) :=
  cal (X11_is F 6 τ) fun r1 τ2 => if r1 = 0 then (cal (X11_is F 7 τ2) fun r3 τ4 => if r3 = 0 then (cal (X11_is F 8 τ4) fun r5 τ6 => if r5 = 0 then (cal (X11_is F 9 τ6) fun r7 τ8 => if r7 = 0 then (cal (X11_is F 10 τ8) fun r9 τ10 => if r9 = 0 then (cal (X11_is F 11 τ10) fun r11 τ12 => if r11 = 0 then (cal (X11_is F 12 τ12) fun r13 τ14 => if r13 = 0 then (cal (X11_asked F τ14) fun r15 τ16 => some (r15, τ16)) else (some (22, τ14))) else (some (21, τ12))) else (some (20, τ10))) else (some (6, τ8))) else (some (5, τ6))) else (some (4, τ4))) else (some (3, τ2))
set_option maxRecDepth 20000 in
set_option maxHeartbeats 4000000 in
theorem c_X11_lawWord (F : Nat) (τ : Tau) (r : Int32) (τ' : Tau) (h : X11_lawWord F τ = some (r, τ')) : MCi sysM yX11_lawWord cX11_lawWord 1 (some .int) 7 [.ref 0] τ r τ' :=
  mci_of (by decide +kernel) (Nat.le_of_ble_eq_true rfl) (fun K C hr => by
    show Sm K sysM 1 (Qi K sysM) (X11_lawWord F τ) 0 [(0, .ref 0)] [] τ
    unfold X11_lawWord
    refine sm_seg C [(.aload_n 0, 0)] (pc' := 1) (L' := [(0, .ref 0)]) (S' := [.ref 0]) (by decide +kernel) rfl ?_
    refine sm_ldcS C st_6 (by decide +kernel) ?_
    refine sm_vcal [.ref (100000 + 6)] [] rfl C mw_X11_is ml_11_118 rfl (ci := 11) rfl (ltM (by decide +kernel : kdM 0 = 11) (by decide)) (by decide +kernel : kdM 0 = 11) (by decide) ⟨by decide, by decide⟩ (Nat.le_of_ble_eq_true rfl) (by decide +kernel) (c_X11_is F 6 (by decide : 6 < 30) τ) (fun r1 τ2 => ?_)
    refine sm_ifeq 11 (off := 5) C (by decide +kernel) (by decide) (fun _ => ?_) (fun _ => ?_)
    · refine sm_seg C [(.aload_n 0, 0)] (pc' := 12) (L' := [(0, .ref 0)]) (S' := [.ref 0]) (by decide +kernel) rfl ?_
      refine sm_ldcS C st_7 (by decide +kernel) ?_
      refine sm_vcal [.ref (100000 + 7)] [] rfl C mw_X11_is ml_11_118 rfl (ci := 11) rfl (ltM (by decide +kernel : kdM 0 = 11) (by decide)) (by decide +kernel : kdM 0 = 11) (by decide) ⟨by decide, by decide⟩ (Nat.le_of_ble_eq_true rfl) (by decide +kernel) (c_X11_is F 7 (by decide : 7 < 30) τ2) (fun r3 τ4 => ?_)
      refine sm_ifeq 22 (off := 5) C (by decide +kernel) (by decide) (fun _ => ?_) (fun _ => ?_)
      · refine sm_seg C [(.aload_n 0, 0)] (pc' := 23) (L' := [(0, .ref 0)]) (S' := [.ref 0]) (by decide +kernel) rfl ?_
        refine sm_ldcS C st_8 (by decide +kernel) ?_
        refine sm_vcal [.ref (100000 + 8)] [] rfl C mw_X11_is ml_11_118 rfl (ci := 11) rfl (ltM (by decide +kernel : kdM 0 = 11) (by decide)) (by decide +kernel : kdM 0 = 11) (by decide) ⟨by decide, by decide⟩ (Nat.le_of_ble_eq_true rfl) (by decide +kernel) (c_X11_is F 8 (by decide : 8 < 30) τ4) (fun r5 τ6 => ?_)
        refine sm_ifeq 33 (off := 5) C (by decide +kernel) (by decide) (fun _ => ?_) (fun _ => ?_)
        · refine sm_seg C [(.aload_n 0, 0)] (pc' := 34) (L' := [(0, .ref 0)]) (S' := [.ref 0]) (by decide +kernel) rfl ?_
          refine sm_ldcS C st_9 (by decide +kernel) ?_
          refine sm_vcal [.ref (100000 + 9)] [] rfl C mw_X11_is ml_11_118 rfl (ci := 11) rfl (ltM (by decide +kernel : kdM 0 = 11) (by decide)) (by decide +kernel : kdM 0 = 11) (by decide) ⟨by decide, by decide⟩ (Nat.le_of_ble_eq_true rfl) (by decide +kernel) (c_X11_is F 9 (by decide : 9 < 30) τ6) (fun r7 τ8 => ?_)
          refine sm_ifeq 45 (off := 6) C (by decide +kernel) (by decide) (fun _ => ?_) (fun _ => ?_)
          · refine sm_seg C [(.aload_n 0, 0)] (pc' := 46) (L' := [(0, .ref 0)]) (S' := [.ref 0]) (by decide +kernel) rfl ?_
            refine sm_ldcS C st_10 (by decide +kernel) ?_
            refine sm_vcal [.ref (100000 + 10)] [] rfl C mw_X11_is ml_11_118 rfl (ci := 11) rfl (ltM (by decide +kernel : kdM 0 = 11) (by decide)) (by decide +kernel : kdM 0 = 11) (by decide) ⟨by decide, by decide⟩ (Nat.le_of_ble_eq_true rfl) (by decide +kernel) (c_X11_is F 10 (by decide : 10 < 30) τ8) (fun r9 τ10 => ?_)
            refine sm_ifeq 57 (off := 6) C (by decide +kernel) (by decide) (fun _ => ?_) (fun _ => ?_)
            · refine sm_seg C [(.aload_n 0, 0)] (pc' := 58) (L' := [(0, .ref 0)]) (S' := [.ref 0]) (by decide +kernel) rfl ?_
              refine sm_ldcS C st_11 (by decide +kernel) ?_
              refine sm_vcal [.ref (100000 + 11)] [] rfl C mw_X11_is ml_11_118 rfl (ci := 11) rfl (ltM (by decide +kernel : kdM 0 = 11) (by decide)) (by decide +kernel : kdM 0 = 11) (by decide) ⟨by decide, by decide⟩ (Nat.le_of_ble_eq_true rfl) (by decide +kernel) (c_X11_is F 11 (by decide : 11 < 30) τ10) (fun r11 τ12 => ?_)
              refine sm_ifeq 69 (off := 6) C (by decide +kernel) (by decide) (fun _ => ?_) (fun _ => ?_)
              · refine sm_seg C [(.aload_n 0, 0)] (pc' := 70) (L' := [(0, .ref 0)]) (S' := [.ref 0]) (by decide +kernel) rfl ?_
                refine sm_ldcS C st_12 (by decide +kernel) ?_
                refine sm_vcal [.ref (100000 + 12)] [] rfl C mw_X11_is ml_11_118 rfl (ci := 11) rfl (ltM (by decide +kernel : kdM 0 = 11) (by decide)) (by decide +kernel : kdM 0 = 11) (by decide) ⟨by decide, by decide⟩ (Nat.le_of_ble_eq_true rfl) (by decide +kernel) (c_X11_is F 12 (by decide : 12 < 30) τ12) (fun r13 τ14 => ?_)
                refine sm_ifeq 83 (off := 8) C (by decide +kernel) (by decide) (fun _ => ?_) (fun _ => ?_)
                · refine sm_seg C [(.aload_n 0, 0)] (pc' := 84) (L' := [(0, .ref 0)]) (S' := [.ref 0]) (by decide +kernel) rfl ?_
                  refine sm_vcal [] [] rfl C mw_X11_asked ml_11_154 rfl (ci := 11) rfl (ltM (by decide +kernel : kdM 0 = 11) (by decide)) (by decide +kernel : kdM 0 = 11) (by decide) ⟨by decide, by decide⟩ (Nat.le_of_ble_eq_true rfl) (by decide +kernel) (c_X11_asked F τ14) (fun r15 τ16 => ?_)
                  exact sm_iret C hr rfl (by decide +kernel)
                · refine sm_seg C [(.bipush 22, 22), (.goto 7, 0)] (pc' := 87) (L' := [(0, .ref 0)]) (S' := [.int 22]) (by decide +kernel) rfl ?_
                  exact sm_iret C hr rfl (by decide +kernel)
              · refine sm_seg C [(.bipush 21, 21)] (pc' := 68) (L' := [(0, .ref 0)]) (S' := [.int 21]) (by decide +kernel) rfl ?_
                exact sm_iret C hr rfl (by decide +kernel)
            · refine sm_seg C [(.bipush 20, 20)] (pc' := 56) (L' := [(0, .ref 0)]) (S' := [.int 20]) (by decide +kernel) rfl ?_
              exact sm_iret C hr rfl (by decide +kernel)
          · refine sm_seg C [(.bipush 6, 6)] (pc' := 44) (L' := [(0, .ref 0)]) (S' := [.int 6]) (by decide +kernel) rfl ?_
            exact sm_iret C hr rfl (by decide +kernel)
        · refine sm_seg C [(.iconst 5, 5)] (pc' := 32) (L' := [(0, .ref 0)]) (S' := [.int 5]) (by decide +kernel) rfl ?_
          exact sm_iret C hr rfl (by decide +kernel)
      · refine sm_seg C [(.iconst 4, 4)] (pc' := 21) (L' := [(0, .ref 0)]) (S' := [.int 4]) (by decide +kernel) rfl ?_
        exact sm_iret C hr rfl (by decide +kernel)
    · refine sm_seg C [(.iconst 3, 3)] (pc' := 10) (L' := [(0, .ref 0)]) (S' := [.int 3]) (by decide +kernel) rfl ?_
      exact sm_iret C hr rfl (by decide +kernel)) h
/-! BasketEnvoysModel.courtWord -/
def X11_courtWord (F : Nat) (τ : Tau) : Option (Int32 × Tau) :=
  cal (X11_is F 24 τ) fun r1 τ2 => if r1 = 0 then (cal (X11_is F 25 τ2) fun r3 τ4 => if r3 = 0 then (cal (X11_is F 26 τ4) fun r5 τ6 => if r5 = 0 then (cal (X11_is F 27 τ6) fun r7 τ8 => if r7 = 0 then (cal (X11_is F 28 τ8) fun r9 τ10 => if r9 = 0 then (some (1, τ10)) else (some (14, τ10))) else (some (13, τ8))) else (some (12, τ6))) else (some (11, τ4))) else (some (7, τ2))
set_option maxRecDepth 20000 in
set_option maxHeartbeats 4000000 in
theorem c_X11_courtWord (F : Nat) (τ : Tau) (r : Int32) (τ' : Tau) (h : X11_courtWord F τ = some (r, τ')) : MCi sysM yX11_courtWord cX11_courtWord 1 (some .int) 6 [.ref 0] τ r τ' :=
  mci_of (by decide +kernel) (Nat.le_of_ble_eq_true rfl) (fun K C hr => by
    show Sm K sysM 1 (Qi K sysM) (X11_courtWord F τ) 0 [(0, .ref 0)] [] τ
    unfold X11_courtWord
    refine sm_seg C [(.aload_n 0, 0)] (pc' := 1) (L' := [(0, .ref 0)]) (S' := [.ref 0]) (by decide +kernel) rfl ?_
    refine sm_ldcS C st_24 (by decide +kernel) ?_
    refine sm_vcal [.ref (100000 + 24)] [] rfl C mw_X11_is ml_11_118 rfl (ci := 11) rfl (ltM (by decide +kernel : kdM 0 = 11) (by decide)) (by decide +kernel : kdM 0 = 11) (by decide) ⟨by decide, by decide⟩ (Nat.le_of_ble_eq_true rfl) (by decide +kernel) (c_X11_is F 24 (by decide : 24 < 30) τ) (fun r1 τ2 => ?_)
    refine sm_ifeq 12 (off := 6) C (by decide +kernel) (by decide) (fun _ => ?_) (fun _ => ?_)
    · refine sm_seg C [(.aload_n 0, 0)] (pc' := 13) (L' := [(0, .ref 0)]) (S' := [.ref 0]) (by decide +kernel) rfl ?_
      refine sm_ldcS C st_25 (by decide +kernel) ?_
      refine sm_vcal [.ref (100000 + 25)] [] rfl C mw_X11_is ml_11_118 rfl (ci := 11) rfl (ltM (by decide +kernel : kdM 0 = 11) (by decide)) (by decide +kernel : kdM 0 = 11) (by decide) ⟨by decide, by decide⟩ (Nat.le_of_ble_eq_true rfl) (by decide +kernel) (c_X11_is F 25 (by decide : 25 < 30) τ2) (fun r3 τ4 => ?_)
      refine sm_ifeq 24 (off := 6) C (by decide +kernel) (by decide) (fun _ => ?_) (fun _ => ?_)
      · refine sm_seg C [(.aload_n 0, 0)] (pc' := 25) (L' := [(0, .ref 0)]) (S' := [.ref 0]) (by decide +kernel) rfl ?_
        refine sm_ldcS C st_26 (by decide +kernel) ?_
        refine sm_vcal [.ref (100000 + 26)] [] rfl C mw_X11_is ml_11_118 rfl (ci := 11) rfl (ltM (by decide +kernel : kdM 0 = 11) (by decide)) (by decide +kernel : kdM 0 = 11) (by decide) ⟨by decide, by decide⟩ (Nat.le_of_ble_eq_true rfl) (by decide +kernel) (c_X11_is F 26 (by decide : 26 < 30) τ4) (fun r5 τ6 => ?_)
        refine sm_ifeq 36 (off := 6) C (by decide +kernel) (by decide) (fun _ => ?_) (fun _ => ?_)
        · refine sm_seg C [(.aload_n 0, 0)] (pc' := 37) (L' := [(0, .ref 0)]) (S' := [.ref 0]) (by decide +kernel) rfl ?_
          refine sm_ldcS C st_27 (by decide +kernel) ?_
          refine sm_vcal [.ref (100000 + 27)] [] rfl C mw_X11_is ml_11_118 rfl (ci := 11) rfl (ltM (by decide +kernel : kdM 0 = 11) (by decide)) (by decide +kernel : kdM 0 = 11) (by decide) ⟨by decide, by decide⟩ (Nat.le_of_ble_eq_true rfl) (by decide +kernel) (c_X11_is F 27 (by decide : 27 < 30) τ6) (fun r7 τ8 => ?_)
          refine sm_ifeq 48 (off := 6) C (by decide +kernel) (by decide) (fun _ => ?_) (fun _ => ?_)
          · refine sm_seg C [(.aload_n 0, 0)] (pc' := 49) (L' := [(0, .ref 0)]) (S' := [.ref 0]) (by decide +kernel) rfl ?_
            refine sm_ldcS C st_28 (by decide +kernel) ?_
            refine sm_vcal [.ref (100000 + 28)] [] rfl C mw_X11_is ml_11_118 rfl (ci := 11) rfl (ltM (by decide +kernel : kdM 0 = 11) (by decide)) (by decide +kernel : kdM 0 = 11) (by decide) ⟨by decide, by decide⟩ (Nat.le_of_ble_eq_true rfl) (by decide +kernel) (c_X11_is F 28 (by decide : 28 < 30) τ8) (fun r9 τ10 => ?_)
            refine sm_ifeq 62 (off := 8) C (by decide +kernel) (by decide) (fun _ => ?_) (fun _ => ?_)
            · refine sm_seg C [(.iconst 1, 1)] (pc' := 63) (L' := [(0, .ref 0)]) (S' := [.int 1]) (by decide +kernel) rfl ?_
              exact sm_iret C hr rfl (by decide +kernel)
            · refine sm_seg C [(.bipush 14, 14), (.goto 4, 0)] (pc' := 63) (L' := [(0, .ref 0)]) (S' := [.int 14]) (by decide +kernel) rfl ?_
              exact sm_iret C hr rfl (by decide +kernel)
          · refine sm_seg C [(.bipush 13, 13)] (pc' := 47) (L' := [(0, .ref 0)]) (S' := [.int 13]) (by decide +kernel) rfl ?_
            exact sm_iret C hr rfl (by decide +kernel)
        · refine sm_seg C [(.bipush 12, 12)] (pc' := 35) (L' := [(0, .ref 0)]) (S' := [.int 12]) (by decide +kernel) rfl ?_
          exact sm_iret C hr rfl (by decide +kernel)
      · refine sm_seg C [(.bipush 11, 11)] (pc' := 23) (L' := [(0, .ref 0)]) (S' := [.int 11]) (by decide +kernel) rfl ?_
        exact sm_iret C hr rfl (by decide +kernel)
    · refine sm_seg C [(.bipush 7, 7)] (pc' := 11) (L' := [(0, .ref 0)]) (S' := [.int 7]) (by decide +kernel) rfl ?_
      exact sm_iret C hr rfl (by decide +kernel)) h
/-! BasketEnvoysModel.wordOf -/
def X11_wordOf (F : Nat) (τ : Tau) : Option (Int32 × Tau) :=
  if (τ 0 12) = 0 then (cal (X11_lawWord F τ) fun r1 τ2 => some (r1, τ2)) else if (τ 0 12) = 1 then (cal (X11_is F 23 τ) fun r3 τ4 => if r3 = 0 then (cal (X11_is F 17 τ4) fun r5 τ6 => if r5 = 0 then (cal (X11_is F 18 τ6) fun r7 τ8 => if r7 = 0 then (some (1, τ8)) else (some (10, τ8))) else (some (9, τ6))) else (some (8, τ4))) else if (τ 0 12) = 2 then (cal (X11_courtWord F τ) fun r9 τ10 => some (r9, τ10)) else (cal (X11_is F 23 τ) fun r11 τ12 => if r11 = 0 then (cal (X11_is F 29 τ12) fun r13 τ14 => if r13 = 0 then (some (1, τ14)) else (some (15, τ14))) else (some (8, τ12)))
set_option maxRecDepth 20000 in
set_option maxHeartbeats 4000000 in
theorem c_X11_wordOf (F : Nat) (τ : Tau) (r : Int32) (τ' : Tau) (h : X11_wordOf F τ = some (r, τ')) : MCi sysM yX11_wordOf cX11_wordOf 1 (some .int) 8 [.ref 0] τ r τ' :=
  mci_of (by decide +kernel) (Nat.le_of_ble_eq_true rfl) (fun K C hr => by
    show Sm K sysM 1 (Qi K sysM) (X11_wordOf F τ) 0 [(0, .ref 0)] [] τ
    unfold X11_wordOf
    refine sm_seg C [(.aload_n 0, 0)] (pc' := 1) (L' := [(0, .ref 0)]) (S' := [.ref 0]) (by decide +kernel) rfl ?_
    refine sm_getI 11 12 cls11 C (ltM (by decide +kernel : kdM 0 = 11) (by decide)) (by decide +kernel : kdM 0 = 11) (obM11 (by decide +kernel : kdM 0 = 11)) (by decide) (fiM11_12 (by decide +kernel : kdM 0 = 11)) fl11_167 (by decide +kernel) ?_
    have hd4 : decode cX11_wordOf 4 = .ok (.tableswitch 82 0 2 #[28, 33, 77], 28) := by decide +kernel
    refine sm_ite (fun e => ?_) (fun n4_0 => ?_)
    · refine sm_tabIn (off := 28) 32 C hd4 (by rw [e]; decide) (by rw [e]; decide) (by rw [e]; decide) (by decide) ?_
      refine sm_seg C [(.aload_n 0, 0)] (pc' := 33) (L' := [(0, .ref 0)]) (S' := [.ref 0]) (by decide +kernel) rfl ?_
      refine sm_vcal [] [] rfl C mw_X11_lawWord ml_11_170 rfl (ci := 11) rfl (ltM (by decide +kernel : kdM 0 = 11) (by decide)) (by decide +kernel : kdM 0 = 11) (by decide) ⟨by decide, by decide⟩ (Nat.le_of_ble_eq_true rfl) (by decide +kernel) (c_X11_lawWord F τ) (fun r1 τ2 => ?_)
      exact sm_iret C hr rfl (by decide +kernel)
    refine sm_ite (fun e => ?_) (fun n4_1 => ?_)
    · refine sm_tabIn (off := 33) 37 C hd4 (by rw [e]; decide) (by rw [e]; decide) (by rw [e]; decide) (by decide) ?_
      refine sm_seg C [(.aload_n 0, 0)] (pc' := 38) (L' := [(0, .ref 0)]) (S' := [.ref 0]) (by decide +kernel) rfl ?_
      refine sm_ldcS C st_23 (by decide +kernel) ?_
      refine sm_vcal [.ref (100000 + 23)] [] rfl C mw_X11_is ml_11_118 rfl (ci := 11) rfl (ltM (by decide +kernel : kdM 0 = 11) (by decide)) (by decide +kernel : kdM 0 = 11) (by decide) ⟨by decide, by decide⟩ (Nat.le_of_ble_eq_true rfl) (by decide +kernel) (c_X11_is F 23 (by decide : 23 < 30) τ) (fun r3 τ4 => ?_)
      refine sm_ifeq 51 (off := 8) C (by decide +kernel) (by decide) (fun _ => ?_) (fun _ => ?_)
      · refine sm_seg C [(.aload_n 0, 0)] (pc' := 52) (L' := [(0, .ref 0)]) (S' := [.ref 0]) (by decide +kernel) rfl ?_
        refine sm_ldcS C st_17 (by decide +kernel) ?_
        refine sm_vcal [.ref (100000 + 17)] [] rfl C mw_X11_is ml_11_118 rfl (ci := 11) rfl (ltM (by decide +kernel : kdM 0 = 11) (by decide)) (by decide +kernel : kdM 0 = 11) (by decide) ⟨by decide, by decide⟩ (Nat.le_of_ble_eq_true rfl) (by decide +kernel) (c_X11_is F 17 (by decide : 17 < 30) τ4) (fun r5 τ6 => ?_)
        refine sm_ifeq 65 (off := 8) C (by decide +kernel) (by decide) (fun _ => ?_) (fun _ => ?_)
        · refine sm_seg C [(.aload_n 0, 0)] (pc' := 66) (L' := [(0, .ref 0)]) (S' := [.ref 0]) (by decide +kernel) rfl ?_
          refine sm_ldcS C st_18 (by decide +kernel) ?_
          refine sm_vcal [.ref (100000 + 18)] [] rfl C mw_X11_is ml_11_118 rfl (ci := 11) rfl (ltM (by decide +kernel : kdM 0 = 11) (by decide)) (by decide +kernel : kdM 0 = 11) (by decide) ⟨by decide, by decide⟩ (Nat.le_of_ble_eq_true rfl) (by decide +kernel) (c_X11_is F 18 (by decide : 18 < 30) τ6) (fun r7 τ8 => ?_)
          refine sm_ifeq 79 (off := 8) C (by decide +kernel) (by decide) (fun _ => ?_) (fun _ => ?_)
          · refine sm_seg C [(.iconst 1, 1)] (pc' := 80) (L' := [(0, .ref 0)]) (S' := [.int 1]) (by decide +kernel) rfl ?_
            exact sm_iret C hr rfl (by decide +kernel)
          · refine sm_seg C [(.bipush 10, 10), (.goto 4, 0)] (pc' := 80) (L' := [(0, .ref 0)]) (S' := [.int 10]) (by decide +kernel) rfl ?_
            exact sm_iret C hr rfl (by decide +kernel)
        · refine sm_seg C [(.bipush 9, 9), (.goto 18, 0)] (pc' := 80) (L' := [(0, .ref 0)]) (S' := [.int 9]) (by decide +kernel) rfl ?_
          exact sm_iret C hr rfl (by decide +kernel)
      · refine sm_seg C [(.bipush 8, 8), (.goto 32, 0)] (pc' := 80) (L' := [(0, .ref 0)]) (S' := [.int 8]) (by decide +kernel) rfl ?_
        exact sm_iret C hr rfl (by decide +kernel)
    refine sm_ite (fun e => ?_) (fun n4_2 => ?_)
    · refine sm_tabIn (off := 77) 81 C hd4 (by rw [e]; decide) (by rw [e]; decide) (by rw [e]; decide) (by decide) ?_
      refine sm_seg C [(.aload_n 0, 0)] (pc' := 82) (L' := [(0, .ref 0)]) (S' := [.ref 0]) (by decide +kernel) rfl ?_
      refine sm_vcal [] [] rfl C mw_X11_courtWord ml_11_175 rfl (ci := 11) rfl (ltM (by decide +kernel : kdM 0 = 11) (by decide)) (by decide +kernel : kdM 0 = 11) (by decide) ⟨by decide, by decide⟩ (Nat.le_of_ble_eq_true rfl) (by decide +kernel) (c_X11_courtWord F τ) (fun r9 τ10 => ?_)
      exact sm_iret C hr rfl (by decide +kernel)
    refine sm_tabOut 86 C hd4 (by have q0 := toInt_neZ (z := 0) n4_0 (by decide); have q1 := toInt_neZ (z := 1) n4_1 (by decide); have q2 := toInt_neZ (z := 2) n4_2 (by decide); omega) (by decide) ?_
    refine sm_seg C [(.aload_n 0, 0)] (pc' := 87) (L' := [(0, .ref 0)]) (S' := [.ref 0]) (by decide +kernel) rfl ?_
    refine sm_ldcS C st_23 (by decide +kernel) ?_
    refine sm_vcal [.ref (100000 + 23)] [] rfl C mw_X11_is ml_11_118 rfl (ci := 11) rfl (ltM (by decide +kernel : kdM 0 = 11) (by decide)) (by decide +kernel : kdM 0 = 11) (by decide) ⟨by decide, by decide⟩ (Nat.le_of_ble_eq_true rfl) (by decide +kernel) (c_X11_is F 23 (by decide : 23 < 30) τ) (fun r11 τ12 => ?_)
    refine sm_ifeq 100 (off := 8) C (by decide +kernel) (by decide) (fun _ => ?_) (fun _ => ?_)
    · refine sm_seg C [(.aload_n 0, 0)] (pc' := 101) (L' := [(0, .ref 0)]) (S' := [.ref 0]) (by decide +kernel) rfl ?_
      refine sm_ldcS C st_29 (by decide +kernel) ?_
      refine sm_vcal [.ref (100000 + 29)] [] rfl C mw_X11_is ml_11_118 rfl (ci := 11) rfl (ltM (by decide +kernel : kdM 0 = 11) (by decide)) (by decide +kernel : kdM 0 = 11) (by decide) ⟨by decide, by decide⟩ (Nat.le_of_ble_eq_true rfl) (by decide +kernel) (c_X11_is F 29 (by decide : 29 < 30) τ12) (fun r13 τ14 => ?_)
      refine sm_ifeq 114 (off := 8) C (by decide +kernel) (by decide) (fun _ => ?_) (fun _ => ?_)
      · refine sm_seg C [(.iconst 1, 1)] (pc' := 115) (L' := [(0, .ref 0)]) (S' := [.int 1]) (by decide +kernel) rfl ?_
        exact sm_iret C hr rfl (by decide +kernel)
      · refine sm_seg C [(.bipush 15, 15), (.goto 4, 0)] (pc' := 115) (L' := [(0, .ref 0)]) (S' := [.int 15]) (by decide +kernel) rfl ?_
        exact sm_iret C hr rfl (by decide +kernel)
    · refine sm_seg C [(.bipush 8, 8), (.goto 18, 0)] (pc' := 115) (L' := [(0, .ref 0)]) (S' := [.int 8]) (by decide +kernel) rfl ?_
      exact sm_iret C hr rfl (by decide +kernel)) h
/-! BasketEnvoysModel.isDigit -/
def X11_isDigit (F : Nat) (a0 : Int32) (τ : Tau) : Option (Int32 × Tau) :=
  cal (X11_isIn F a0 48 57 τ) fun r1 τ2 => some (vp_nar .boolean r1, τ2)
set_option maxRecDepth 20000 in
set_option maxHeartbeats 4000000 in
theorem c_X11_isDigit (F : Nat) (a0 : Int32) (τ : Tau) (r : Int32) (τ' : Tau) (h : X11_isDigit F a0 τ = some (r, τ')) : MCi sysM yX11_isDigit cX11_isDigit 1 (some .boolean) 2 [.int a0] τ r τ' :=
  mci_of (by decide +kernel) (Nat.le_of_ble_eq_true rfl) (fun K C hr => by
    show Sm K sysM 1 (Qi K sysM) (X11_isDigit F a0 τ) 0 [(0, .int a0)] [] τ
    unfold X11_isDigit
    refine sm_seg C [(.iload_n 0, 0), (.bipush 48, 48), (.bipush 57, 57)] (pc' := 5) (L' := [(0, .int a0)]) (S' := [.int 57, .int 48, .int a0]) (by decide +kernel) rfl ?_
    refine sm_scal [.int a0, .int 48, .int 57] [] rfl C mw_X11_isIn ml_11_78 rfl ⟨by decide, by decide⟩ (Nat.le_of_ble_eq_true rfl) (by decide +kernel) (c_X11_isIn F a0 48 57 τ) (fun r1 τ2 => ?_)
    exact sm_iret C hr nar_boolean (by decide +kernel)) h
/-! BasketEnvoysModel.next0 -/
def X11_next0_j26 (F : Nat) (self0 : Tau → Option (Int32 × Tau)) (τ : Tau) : Option (Int32 × Tau) :=
  pst τ 0 17 ((τ 0 17) + 1) fun τ3 => self0 τ3
theorem s_X11_next0_j26 (F : Nat) {K : Ctx} (C : Cx K sysM RX11 cX11_next0 3 9) (hr : Rt K none) (self0 : Tau → Option (Int32 × Tau)) (ih0 : ∀ (τ : Tau), Sm K sysM 3 (Qv K sysM) (self0 τ) 0 [(0, .ref 0)] [] τ) (τ : Tau) : Sm K sysM 3 (Qv K sysM) (X11_next0_j26 F self0 τ) 26 [(0, .ref 0)] [] τ := by
  unfold X11_next0_j26
  refine sm_seg C [(.aload_n 0, 0), (.dup, 0)] (pc' := 28) (L' := [(0, .ref 0)]) (S' := [.ref 0, .ref 0]) (by decide +kernel) rfl ?_
  refine sm_getI 11 17 cls11 C (ltM (by decide +kernel : kdM 0 = 11) (by decide)) (by decide +kernel : kdM 0 = 11) (obM11 (by decide +kernel : kdM 0 = 11)) (by decide) (fiM11_17 (by decide +kernel : kdM 0 = 11)) fl11_100 (by decide +kernel) ?_
  refine sm_seg C [(.iconst 1, 1), (.iadd, 0)] (pc' := 33) (L' := [(0, .ref 0)]) (S' := [.int ((τ 0 17) + 1), .ref 0]) (by decide +kernel) rfl ?_
  refine sm_pst 11 17 cls11 C (ltM (by decide +kernel : kdM 0 = 11) (by decide)) (by decide +kernel : kdM 0 = 11) (obM11 (by decide +kernel : kdM 0 = 11)) (by decide) (fiM11_17 (by decide +kernel : kdM 0 = 11)) rfl rfl rfl fl11_100 (by decide +kernel) (fun τ3 => ?_)
  refine sm_seg C [(.goto (-36), 0)] (pc' := 0) (L' := [(0, .ref 0)]) (S' := []) (by decide +kernel) rfl ?_
  exact sm_sub [0] rfl (ih0 τ3)
def X11_next0_j303 (F : Nat) (z0 : Int32) (τ : Tau) : Option (Int32 × Tau) :=
  pst τ 0 18 z0 fun τ15 => some (0, τ15)
theorem s_X11_next0_j303 (F : Nat) {K : Ctx} (C : Cx K sysM RX11 cX11_next0 3 9) (hr : Rt K none) (z0 : Int32) (τ : Tau) : Sm K sysM 3 (Qv K sysM) (X11_next0_j303 F z0 τ) 303 [] [.int z0, .ref 0] τ := by
  unfold X11_next0_j303
  refine sm_pst 11 18 cls11 C (ltM (by decide +kernel : kdM 0 = 11) (by decide)) (by decide +kernel : kdM 0 = 11) (obM11 (by decide +kernel : kdM 0 = 11)) (by decide) (fiM11_18 (by decide +kernel : kdM 0 = 11)) rfl rfl rfl fl11_184 (by decide +kernel) (fun τ15 => ?_)
  exact sm_vret C hr (by decide +kernel)
def X11_next0_j289 (F : Nat) (a1 : Int32) (z0 : Int32) (τ : Tau) : Option (Int32 × Tau) :=
  if z0 = 0 then (X11_next0_j303 F 1 τ) else (X11_next0_j303 F (100 + a1) τ)
theorem s_X11_next0_j289 (F : Nat) {K : Ctx} (C : Cx K sysM RX11 cX11_next0 3 9) (hr : Rt K none) (a1 : Int32) (z0 : Int32) (τ : Tau) : Sm K sysM 3 (Qv K sysM) (X11_next0_j289 F a1 z0 τ) 289 [(0, .ref 0), (1, .int a1)] [.int z0] τ := by
  unfold X11_next0_j289
  refine sm_seg C [(.istore_n 2, 0), (.aload_n 0, 0), (.iload_n 2, 0)] (pc' := 292) (L' := [(2, .int z0), (0, .ref 0), (1, .int a1)]) (S' := [.int z0, .ref 0]) (by decide +kernel) rfl ?_
  refine sm_ifeq 302 (off := 10) C (by decide +kernel) (by decide) (fun _ => ?_) (fun _ => ?_)
  · refine sm_seg C [(.iconst 1, 1)] (pc' := 303) (L' := [(2, .int z0), (0, .ref 0), (1, .int a1)]) (S' := [.int 1, .ref 0]) (by decide +kernel) rfl ?_
    exact sm_sub [] rfl (s_X11_next0_j303 F C hr 1 τ)
  · refine sm_seg C [(.bipush 100, 100), (.iload_n 1, 0), (.iadd, 0), (.goto 4, 0)] (pc' := 303) (L' := [(2, .int z0), (0, .ref 0), (1, .int a1)]) (S' := [.int (100 + a1), .ref 0]) (by decide +kernel) rfl ?_
    exact sm_sub [] rfl (s_X11_next0_j303 F C hr (100 + a1) τ)
def X11_next0_j284 (F : Nat) (a1 : Int32) (τ : Tau) : Option (Int32 × Tau) :=
  X11_next0_j289 F a1 1 τ
theorem s_X11_next0_j284 (F : Nat) {K : Ctx} (C : Cx K sysM RX11 cX11_next0 3 9) (hr : Rt K none) (a1 : Int32) (τ : Tau) : Sm K sysM 3 (Qv K sysM) (X11_next0_j284 F a1 τ) 284 [(0, .ref 0), (1, .int a1)] [] τ := by
  unfold X11_next0_j284
  refine sm_seg C [(.iconst 1, 1), (.goto 4, 0)] (pc' := 289) (L' := [(0, .ref 0), (1, .int a1)]) (S' := [.int 1]) (by decide +kernel) rfl ?_
  exact sm_sub [0, 1] rfl (s_X11_next0_j289 F C hr a1 1 τ)
def X11_next0_j208 (F : Nat) (z0 : Int32) (τ : Tau) : Option (Int32 × Tau) :=
  pst τ 0 18 z0 fun τ21 => some (0, τ21)
theorem s_X11_next0_j208 (F : Nat) {K : Ctx} (C : Cx K sysM RX11 cX11_next0 3 9) (hr : Rt K none) (z0 : Int32) (τ : Tau) : Sm K sysM 3 (Qv K sysM) (X11_next0_j208 F z0 τ) 208 [] [.int z0, .ref 0] τ := by
  unfold X11_next0_j208
  refine sm_pst 11 18 cls11 C (ltM (by decide +kernel : kdM 0 = 11) (by decide)) (by decide +kernel : kdM 0 = 11) (obM11 (by decide +kernel : kdM 0 = 11)) (by decide) (fiM11_18 (by decide +kernel : kdM 0 = 11)) rfl rfl rfl fl11_184 (by decide +kernel) (fun τ21 => ?_)
  refine sm_seg C [(.goto 95, 0)] (pc' := 306) (L' := []) (S' := []) (by decide +kernel) rfl ?_
  exact sm_vret C hr (by decide +kernel)
def X11_next0_j176 (F : Nat) (self126 : Tau → Option (Int32 × Tau)) (τ : Tau) : Option (Int32 × Tau) :=
  pst τ 0 17 ((τ 0 17) + 1) fun τ22 => self126 τ22
theorem s_X11_next0_j176 (F : Nat) {K : Ctx} (C : Cx K sysM RX11 cX11_next0 3 9) (hr : Rt K none) (self126 : Tau → Option (Int32 × Tau)) (ih126 : ∀ (τ : Tau), Sm K sysM 3 (Qv K sysM) (self126 τ) 126 [(0, .ref 0)] [] τ) (τ : Tau) : Sm K sysM 3 (Qv K sysM) (X11_next0_j176 F self126 τ) 176 [(0, .ref 0)] [] τ := by
  unfold X11_next0_j176
  refine sm_seg C [(.aload_n 0, 0), (.dup, 0)] (pc' := 178) (L' := [(0, .ref 0)]) (S' := [.ref 0, .ref 0]) (by decide +kernel) rfl ?_
  refine sm_getI 11 17 cls11 C (ltM (by decide +kernel : kdM 0 = 11) (by decide)) (by decide +kernel : kdM 0 = 11) (obM11 (by decide +kernel : kdM 0 = 11)) (by decide) (fiM11_17 (by decide +kernel : kdM 0 = 11)) fl11_100 (by decide +kernel) ?_
  refine sm_seg C [(.iconst 1, 1), (.iadd, 0)] (pc' := 183) (L' := [(0, .ref 0)]) (S' := [.int ((τ 0 17) + 1), .ref 0]) (by decide +kernel) rfl ?_
  refine sm_pst 11 17 cls11 C (ltM (by decide +kernel : kdM 0 = 11) (by decide)) (by decide +kernel : kdM 0 = 11) (obM11 (by decide +kernel : kdM 0 = 11)) (by decide) (fiM11_17 (by decide +kernel : kdM 0 = 11)) rfl rfl rfl fl11_100 (by decide +kernel) (fun τ22 => ?_)
  refine sm_seg C [(.goto (-60), 0)] (pc' := 126) (L' := [(0, .ref 0)]) (S' := []) (by decide +kernel) rfl ?_
  exact sm_sub [0] rfl (ih126 τ22)
def X11_next0_L126 (F : Nat) : Nat → Tau → Option (Int32 × Tau)
  | 0, _ => none
  | n + 1, τ =>
    cal (X11_see F (τ 0 17) τ) fun r17 τ18 => cal (X11_isDigit F r17 τ18) fun r19 τ20 => if r19 = 0 then (if 5 ≤ ((τ20 0 17) - (τ20 0 19)) then (X11_next0_j208 F 1 τ20) else (X11_next0_j208 F 2 τ20)) else (if ((τ20 0 19) + 4) ≤ (τ20 0 17) then (X11_next0_j176 F (X11_next0_L126 F n) τ20) else (cal (X11_see F (τ20 0 17) τ20) fun r23 τ24 => pst τ24 0 20 (((10 * (τ20 0 20)) + r23) - 48) fun τ25 => X11_next0_j176 F (X11_next0_L126 F n) τ25))
theorem s_X11_next0_L126 (F : Nat) {K : Ctx} (C : Cx K sysM RX11 cX11_next0 3 9) (hr : Rt K none) : ∀ (n : Nat) (τ : Tau), Sm K sysM 3 (Qv K sysM) (X11_next0_L126 F n τ) 126 [(0, .ref 0)] [] τ := by
  intro n
  induction n with
  | zero => intro  τ; exact sm_none
  | succ n ih =>
    intro  τ
    rw [X11_next0_L126]
    refine sm_seg C [(.aload_n 0, 0), (.aload_n 0, 0)] (pc' := 128) (L' := [(0, .ref 0)]) (S' := [.ref 0, .ref 0]) (by decide +kernel) rfl ?_
    refine sm_getI 11 17 cls11 C (ltM (by decide +kernel : kdM 0 = 11) (by decide)) (by decide +kernel : kdM 0 = 11) (obM11 (by decide +kernel : kdM 0 = 11)) (by decide) (fiM11_17 (by decide +kernel : kdM 0 = 11)) fl11_100 (by decide +kernel) ?_
    refine sm_vcal [.int (τ 0 17)] [] rfl C mw_X11_see ml_11_180 rfl (ci := 11) rfl (ltM (by decide +kernel : kdM 0 = 11) (by decide)) (by decide +kernel : kdM 0 = 11) (by decide) ⟨by decide, by decide⟩ (Nat.le_of_ble_eq_true rfl) (by decide +kernel) (c_X11_see F (τ 0 17) τ) (fun r17 τ18 => ?_)
    refine sm_scal [.int r17] [] rfl C mw_X11_isDigit ml_11_193 rfl ⟨by decide, by decide⟩ (Nat.le_of_ble_eq_true rfl) (by decide +kernel) (c_X11_isDigit F r17 τ18) (fun r19 τ20 => ?_)
    refine sm_ifeq 189 (off := 52) C (by decide +kernel) (by decide) (fun _ => ?_) (fun _ => ?_)
    · refine sm_seg C [(.aload_n 0, 0), (.aload_n 0, 0)] (pc' := 191) (L' := [(0, .ref 0)]) (S' := [.ref 0, .ref 0]) (by decide +kernel) rfl ?_
      refine sm_getI 11 17 cls11 C (ltM (by decide +kernel : kdM 0 = 11) (by decide)) (by decide +kernel : kdM 0 = 11) (obM11 (by decide +kernel : kdM 0 = 11)) (by decide) (fiM11_17 (by decide +kernel : kdM 0 = 11)) fl11_100 (by decide +kernel) ?_
      refine sm_seg C [(.aload_n 0, 0)] (pc' := 195) (L' := [(0, .ref 0)]) (S' := [.ref 0, .int (τ20 0 17), .ref 0]) (by decide +kernel) rfl ?_
      refine sm_getI 11 19 cls11 C (ltM (by decide +kernel : kdM 0 = 11) (by decide)) (by decide +kernel : kdM 0 = 11) (obM11 (by decide +kernel : kdM 0 = 11)) (by decide) (fiM11_19 (by decide +kernel : kdM 0 = 11)) fl11_103 (by decide +kernel) ?_
      refine sm_seg C [(.isub, 0), (.iconst 5, 5)] (pc' := 200) (L' := [(0, .ref 0)]) (S' := [.int 5, .int ((τ20 0 17) - (τ20 0 19)), .ref 0]) (by decide +kernel) rfl ?_
      refine sm_icmpge 207 (off := 7) C (by decide +kernel) (by decide) (fun _ => ?_) (fun _ => ?_)
      · refine sm_seg C [(.iconst 1, 1)] (pc' := 208) (L' := [(0, .ref 0)]) (S' := [.int 1, .ref 0]) (by decide +kernel) rfl ?_
        exact sm_sub [] rfl (s_X11_next0_j208 F C hr 1 τ20)
      · refine sm_seg C [(.iconst 2, 2), (.goto 4, 0)] (pc' := 208) (L' := [(0, .ref 0)]) (S' := [.int 2, .ref 0]) (by decide +kernel) rfl ?_
        exact sm_sub [] rfl (s_X11_next0_j208 F C hr 2 τ20)
    · refine sm_seg C [(.aload_n 0, 0)] (pc' := 141) (L' := [(0, .ref 0)]) (S' := [.ref 0]) (by decide +kernel) rfl ?_
      refine sm_getI 11 17 cls11 C (ltM (by decide +kernel : kdM 0 = 11) (by decide)) (by decide +kernel : kdM 0 = 11) (obM11 (by decide +kernel : kdM 0 = 11)) (by decide) (fiM11_17 (by decide +kernel : kdM 0 = 11)) fl11_100 (by decide +kernel) ?_
      refine sm_seg C [(.aload_n 0, 0)] (pc' := 145) (L' := [(0, .ref 0)]) (S' := [.ref 0, .int (τ20 0 17)]) (by decide +kernel) rfl ?_
      refine sm_getI 11 19 cls11 C (ltM (by decide +kernel : kdM 0 = 11) (by decide)) (by decide +kernel : kdM 0 = 11) (obM11 (by decide +kernel : kdM 0 = 11)) (by decide) (fiM11_19 (by decide +kernel : kdM 0 = 11)) fl11_103 (by decide +kernel) ?_
      refine sm_seg C [(.iconst 4, 4), (.iadd, 0)] (pc' := 150) (L' := [(0, .ref 0)]) (S' := [.int ((τ20 0 19) + 4), .int (τ20 0 17)]) (by decide +kernel) rfl ?_
      refine sm_icmpge 176 (off := 26) C (by decide +kernel) (by decide) (fun _ => ?_) (fun _ => ?_)
      · exact sm_sub [0] rfl (s_X11_next0_j176 F C hr (X11_next0_L126 F n) ih τ20)
      · refine sm_seg C [(.aload_n 0, 0), (.bipush 10, 10), (.aload_n 0, 0)] (pc' := 157) (L' := [(0, .ref 0)]) (S' := [.ref 0, .int 10, .ref 0]) (by decide +kernel) rfl ?_
        refine sm_getI 11 20 cls11 C (ltM (by decide +kernel : kdM 0 = 11) (by decide)) (by decide +kernel : kdM 0 = 11) (obM11 (by decide +kernel : kdM 0 = 11)) (by decide) (fiM11_20 (by decide +kernel : kdM 0 = 11)) fl11_196 (by decide +kernel) ?_
        refine sm_seg C [(.imul, 0), (.aload_n 0, 0), (.aload_n 0, 0)] (pc' := 163) (L' := [(0, .ref 0)]) (S' := [.ref 0, .ref 0, .int (10 * (τ20 0 20)), .ref 0]) (by decide +kernel) rfl ?_
        refine sm_getI 11 17 cls11 C (ltM (by decide +kernel : kdM 0 = 11) (by decide)) (by decide +kernel : kdM 0 = 11) (obM11 (by decide +kernel : kdM 0 = 11)) (by decide) (fiM11_17 (by decide +kernel : kdM 0 = 11)) fl11_100 (by decide +kernel) ?_
        refine sm_vcal [.int (τ20 0 17)] [.int (10 * (τ20 0 20)), .ref 0] rfl C mw_X11_see ml_11_180 rfl (ci := 11) rfl (ltM (by decide +kernel : kdM 0 = 11) (by decide)) (by decide +kernel : kdM 0 = 11) (by decide) ⟨by decide, by decide⟩ (Nat.le_of_ble_eq_true rfl) (by decide +kernel) (c_X11_see F (τ20 0 17) τ20) (fun r23 τ24 => ?_)
        refine sm_seg C [(.iadd, 0), (.bipush 48, 48), (.isub, 0)] (pc' := 173) (L' := [(0, .ref 0)]) (S' := [.int (((10 * (τ20 0 20)) + r23) - 48), .ref 0]) (by decide +kernel) rfl ?_
        refine sm_pst 11 20 cls11 C (ltM (by decide +kernel : kdM 0 = 11) (by decide)) (by decide +kernel : kdM 0 = 11) (obM11 (by decide +kernel : kdM 0 = 11)) (by decide) (fiM11_20 (by decide +kernel : kdM 0 = 11)) rfl rfl rfl fl11_196 (by decide +kernel) (fun τ25 => ?_)
        exact sm_sub [0] rfl (s_X11_next0_j176 F C hr (X11_next0_L126 F n) ih τ25)
def X11_next0_L76 (F : Nat) : Nat → Tau → Option (Int32 × Tau)
  | 0, _ => none
  | n + 1, τ =>
    cal (X11_see F (τ 0 17) τ) fun r26 τ27 => cal (X11_isLetter F r26 τ27) fun r28 τ29 => if r28 = 0 then (cal (X11_wordOf F τ29) fun r30 τ31 => pst τ31 0 18 r30 fun τ32 => some (0, τ32)) else (pst τ29 0 17 ((τ29 0 17) + 1) fun τ33 => X11_next0_L76 F n τ33)
theorem s_X11_next0_L76 (F : Nat) {K : Ctx} (C : Cx K sysM RX11 cX11_next0 3 9) (hr : Rt K none) : ∀ (n : Nat) (τ : Tau), Sm K sysM 3 (Qv K sysM) (X11_next0_L76 F n τ) 76 [(0, .ref 0)] [] τ := by
  intro n
  induction n with
  | zero => intro  τ; exact sm_none
  | succ n ih =>
    intro  τ
    rw [X11_next0_L76]
    refine sm_seg C [(.aload_n 0, 0), (.aload_n 0, 0)] (pc' := 78) (L' := [(0, .ref 0)]) (S' := [.ref 0, .ref 0]) (by decide +kernel) rfl ?_
    refine sm_getI 11 17 cls11 C (ltM (by decide +kernel : kdM 0 = 11) (by decide)) (by decide +kernel : kdM 0 = 11) (obM11 (by decide +kernel : kdM 0 = 11)) (by decide) (fiM11_17 (by decide +kernel : kdM 0 = 11)) fl11_100 (by decide +kernel) ?_
    refine sm_vcal [.int (τ 0 17)] [] rfl C mw_X11_see ml_11_180 rfl (ci := 11) rfl (ltM (by decide +kernel : kdM 0 = 11) (by decide)) (by decide +kernel : kdM 0 = 11) (by decide) ⟨by decide, by decide⟩ (Nat.le_of_ble_eq_true rfl) (by decide +kernel) (c_X11_see F (τ 0 17) τ) (fun r26 τ27 => ?_)
    refine sm_scal [.int r26] [] rfl C mw_X11_isLetter ml_11_187 rfl ⟨by decide, by decide⟩ (Nat.le_of_ble_eq_true rfl) (by decide +kernel) (c_X11_isLetter F r26 τ27) (fun r28 τ29 => ?_)
    refine sm_ifeq 103 (off := 16) C (by decide +kernel) (by decide) (fun _ => ?_) (fun _ => ?_)
    · refine sm_seg C [(.aload_n 0, 0), (.aload_n 0, 0)] (pc' := 105) (L' := [(0, .ref 0)]) (S' := [.ref 0, .ref 0]) (by decide +kernel) rfl ?_
      refine sm_vcal [] [.ref 0] rfl C mw_X11_wordOf ml_11_190 rfl (ci := 11) rfl (ltM (by decide +kernel : kdM 0 = 11) (by decide)) (by decide +kernel : kdM 0 = 11) (by decide) ⟨by decide, by decide⟩ (Nat.le_of_ble_eq_true rfl) (by decide +kernel) (c_X11_wordOf F τ29) (fun r30 τ31 => ?_)
      refine sm_pst 11 18 cls11 C (ltM (by decide +kernel : kdM 0 = 11) (by decide)) (by decide +kernel : kdM 0 = 11) (obM11 (by decide +kernel : kdM 0 = 11)) (by decide) (fiM11_18 (by decide +kernel : kdM 0 = 11)) rfl rfl rfl fl11_184 (by decide +kernel) (fun τ32 => ?_)
      refine sm_seg C [(.goto 195, 0)] (pc' := 306) (L' := [(0, .ref 0)]) (S' := []) (by decide +kernel) rfl ?_
      exact sm_vret C hr (by decide +kernel)
    · refine sm_seg C [(.aload_n 0, 0), (.dup, 0)] (pc' := 92) (L' := [(0, .ref 0)]) (S' := [.ref 0, .ref 0]) (by decide +kernel) rfl ?_
      refine sm_getI 11 17 cls11 C (ltM (by decide +kernel : kdM 0 = 11) (by decide)) (by decide +kernel : kdM 0 = 11) (obM11 (by decide +kernel : kdM 0 = 11)) (by decide) (fiM11_17 (by decide +kernel : kdM 0 = 11)) fl11_100 (by decide +kernel) ?_
      refine sm_seg C [(.iconst 1, 1), (.iadd, 0)] (pc' := 97) (L' := [(0, .ref 0)]) (S' := [.int ((τ29 0 17) + 1), .ref 0]) (by decide +kernel) rfl ?_
      refine sm_pst 11 17 cls11 C (ltM (by decide +kernel : kdM 0 = 11) (by decide)) (by decide +kernel : kdM 0 = 11) (obM11 (by decide +kernel : kdM 0 = 11)) (by decide) (fiM11_17 (by decide +kernel : kdM 0 = 11)) rfl rfl rfl fl11_100 (by decide +kernel) (fun τ33 => ?_)
      refine sm_seg C [(.goto (-24), 0)] (pc' := 76) (L' := [(0, .ref 0)]) (S' := []) (by decide +kernel) rfl ?_
      exact sm_sub [0] rfl (ih τ33)
def X11_next0_L0 (F : Nat) : Nat → Tau → Option (Int32 × Tau)
  | 0, _ => none
  | n + 1, τ =>
    cal (X11_see F (τ 0 17) τ) fun r1 τ2 => if r1 = 32 then (X11_next0_j26 F (X11_next0_L0 F n) τ2) else (cal (X11_see F (τ2 0 17) τ2) fun r4 τ5 => if r4 = 10 then (X11_next0_j26 F (X11_next0_L0 F n) τ5) else (pst τ5 0 19 (τ5 0 17) fun τ6 => cal (X11_see F (τ6 0 17) τ6) fun r7 τ8 => if r7 = (-1) then (pst τ8 0 18 0 fun τ9 => some (0, τ9)) else (cal (X11_isLetter F r7 τ8) fun r10 τ11 => if r10 = 0 then (cal (X11_isDigit F r7 τ11) fun r12 τ13 => if r12 = 0 then (pst τ13 0 17 ((τ13 0 17) + 1) fun τ14 => if r7 = 59 then (X11_next0_j284 F r7 τ14) else (if r7 = 43 then (X11_next0_j284 F r7 τ14) else (if r7 = 45 then (X11_next0_j284 F r7 τ14) else (if r7 = 42 then (X11_next0_j284 F r7 τ14) else (if r7 = 47 then (X11_next0_j284 F r7 τ14) else (if r7 = 40 then (X11_next0_j284 F r7 τ14) else (if r7 = 41 then (X11_next0_j284 F r7 τ14) else (if r7 = 60 then (X11_next0_j284 F r7 τ14) else (if r7 = 61 then (X11_next0_j284 F r7 τ14) else (if r7 = 62 then (X11_next0_j284 F r7 τ14) else (X11_next0_j289 F r7 0 τ14))))))))))) else (pst τ13 0 20 0 fun τ16 => X11_next0_L126 F F τ16)) else (X11_next0_L76 F F τ11))))
theorem s_X11_next0_L0 (F : Nat) {K : Ctx} (C : Cx K sysM RX11 cX11_next0 3 9) (hr : Rt K none) : ∀ (n : Nat) (τ : Tau), Sm K sysM 3 (Qv K sysM) (X11_next0_L0 F n τ) 0 [(0, .ref 0)] [] τ := by
  intro n
  induction n with
  | zero => intro  τ; exact sm_none
  | succ n ih =>
    intro  τ
    rw [X11_next0_L0]
    refine sm_seg C [(.aload_n 0, 0), (.aload_n 0, 0)] (pc' := 2) (L' := [(0, .ref 0)]) (S' := [.ref 0, .ref 0]) (by decide +kernel) rfl ?_
    refine sm_getI 11 17 cls11 C (ltM (by decide +kernel : kdM 0 = 11) (by decide)) (by decide +kernel : kdM 0 = 11) (obM11 (by decide +kernel : kdM 0 = 11)) (by decide) (fiM11_17 (by decide +kernel : kdM 0 = 11)) fl11_100 (by decide +kernel) ?_
    refine sm_vcal [.int (τ 0 17)] [] rfl C mw_X11_see ml_11_180 rfl (ci := 11) rfl (ltM (by decide +kernel : kdM 0 = 11) (by decide)) (by decide +kernel : kdM 0 = 11) (by decide) ⟨by decide, by decide⟩ (Nat.le_of_ble_eq_true rfl) (by decide +kernel) (c_X11_see F (τ 0 17) τ) (fun r1 τ2 => ?_)
    refine sm_seg C [(.bipush 32, 32)] (pc' := 10) (L' := [(0, .ref 0)]) (S' := [.int 32, .int r1]) (by decide +kernel) rfl ?_
    refine sm_icmpeq 26 (off := 16) C (by decide +kernel) (by decide) (fun _ => ?_) (fun _ => ?_)
    · exact sm_sub [0] rfl (s_X11_next0_j26 F C hr (X11_next0_L0 F n) ih τ2)
    · refine sm_seg C [(.aload_n 0, 0), (.aload_n 0, 0)] (pc' := 15) (L' := [(0, .ref 0)]) (S' := [.ref 0, .ref 0]) (by decide +kernel) rfl ?_
      refine sm_getI 11 17 cls11 C (ltM (by decide +kernel : kdM 0 = 11) (by decide)) (by decide +kernel : kdM 0 = 11) (obM11 (by decide +kernel : kdM 0 = 11)) (by decide) (fiM11_17 (by decide +kernel : kdM 0 = 11)) fl11_100 (by decide +kernel) ?_
      refine sm_vcal [.int (τ2 0 17)] [] rfl C mw_X11_see ml_11_180 rfl (ci := 11) rfl (ltM (by decide +kernel : kdM 0 = 11) (by decide)) (by decide +kernel : kdM 0 = 11) (by decide) ⟨by decide, by decide⟩ (Nat.le_of_ble_eq_true rfl) (by decide +kernel) (c_X11_see F (τ2 0 17) τ2) (fun r4 τ5 => ?_)
      refine sm_seg C [(.bipush 10, 10)] (pc' := 23) (L' := [(0, .ref 0)]) (S' := [.int 10, .int r4]) (by decide +kernel) rfl ?_
      refine sm_icmpne 39 (off := 16) C (by decide +kernel) (by decide) (fun _ => ?_) (fun _ => ?_)
      · exact sm_sub [0] rfl (s_X11_next0_j26 F C hr (X11_next0_L0 F n) ih τ5)
      · refine sm_seg C [(.aload_n 0, 0), (.aload_n 0, 0)] (pc' := 41) (L' := [(0, .ref 0)]) (S' := [.ref 0, .ref 0]) (by decide +kernel) rfl ?_
        refine sm_getI 11 17 cls11 C (ltM (by decide +kernel : kdM 0 = 11) (by decide)) (by decide +kernel : kdM 0 = 11) (obM11 (by decide +kernel : kdM 0 = 11)) (by decide) (fiM11_17 (by decide +kernel : kdM 0 = 11)) fl11_100 (by decide +kernel) ?_
        refine sm_pst 11 19 cls11 C (ltM (by decide +kernel : kdM 0 = 11) (by decide)) (by decide +kernel : kdM 0 = 11) (obM11 (by decide +kernel : kdM 0 = 11)) (by decide) (fiM11_19 (by decide +kernel : kdM 0 = 11)) rfl rfl rfl fl11_103 (by decide +kernel) (fun τ6 => ?_)
        refine sm_seg C [(.aload_n 0, 0), (.aload_n 0, 0)] (pc' := 49) (L' := [(0, .ref 0)]) (S' := [.ref 0, .ref 0]) (by decide +kernel) rfl ?_
        refine sm_getI 11 17 cls11 C (ltM (by decide +kernel : kdM 0 = 11) (by decide)) (by decide +kernel : kdM 0 = 11) (obM11 (by decide +kernel : kdM 0 = 11)) (by decide) (fiM11_17 (by decide +kernel : kdM 0 = 11)) fl11_100 (by decide +kernel) ?_
        refine sm_vcal [.int (τ6 0 17)] [] rfl C mw_X11_see ml_11_180 rfl (ci := 11) rfl (ltM (by decide +kernel : kdM 0 = 11) (by decide)) (by decide +kernel : kdM 0 = 11) (by decide) ⟨by decide, by decide⟩ (Nat.le_of_ble_eq_true rfl) (by decide +kernel) (c_X11_see F (τ6 0 17) τ6) (fun r7 τ8 => ?_)
        refine sm_seg C [(.istore_n 1, 0), (.iload_n 1, 0), (.iconst (-1), (-1))] (pc' := 58) (L' := [(1, .int r7), (0, .ref 0)]) (S' := [.int (-1), .int r7]) (by decide +kernel) rfl ?_
        refine sm_icmpne 69 (off := 11) C (by decide +kernel) (by decide) (fun _ => ?_) (fun _ => ?_)
        · refine sm_seg C [(.aload_n 0, 0), (.iconst 0, 0)] (pc' := 63) (L' := [(1, .int r7), (0, .ref 0)]) (S' := [.int 0, .ref 0]) (by decide +kernel) rfl ?_
          refine sm_pst 11 18 cls11 C (ltM (by decide +kernel : kdM 0 = 11) (by decide)) (by decide +kernel : kdM 0 = 11) (obM11 (by decide +kernel : kdM 0 = 11)) (by decide) (fiM11_18 (by decide +kernel : kdM 0 = 11)) rfl rfl rfl fl11_184 (by decide +kernel) (fun τ9 => ?_)
          refine sm_seg C [(.goto 240, 0)] (pc' := 306) (L' := [(1, .int r7), (0, .ref 0)]) (S' := []) (by decide +kernel) rfl ?_
          exact sm_vret C hr (by decide +kernel)
        · refine sm_seg C [(.iload_n 1, 0)] (pc' := 70) (L' := [(1, .int r7), (0, .ref 0)]) (S' := [.int r7]) (by decide +kernel) rfl ?_
          refine sm_scal [.int r7] [] rfl C mw_X11_isLetter ml_11_187 rfl ⟨by decide, by decide⟩ (Nat.le_of_ble_eq_true rfl) (by decide +kernel) (c_X11_isLetter F r7 τ8) (fun r10 τ11 => ?_)
          refine sm_ifeq 114 (off := 41) C (by decide +kernel) (by decide) (fun _ => ?_) (fun _ => ?_)
          · refine sm_seg C [(.iload_n 1, 0)] (pc' := 115) (L' := [(1, .int r7), (0, .ref 0)]) (S' := [.int r7]) (by decide +kernel) rfl ?_
            refine sm_scal [.int r7] [] rfl C mw_X11_isDigit ml_11_193 rfl ⟨by decide, by decide⟩ (Nat.le_of_ble_eq_true rfl) (by decide +kernel) (c_X11_isDigit F r7 τ11) (fun r12 τ13 => ?_)
            refine sm_ifeq 214 (off := 96) C (by decide +kernel) (by decide) (fun _ => ?_) (fun _ => ?_)
            · refine sm_seg C [(.aload_n 0, 0), (.dup, 0)] (pc' := 216) (L' := [(1, .int r7), (0, .ref 0)]) (S' := [.ref 0, .ref 0]) (by decide +kernel) rfl ?_
              refine sm_getI 11 17 cls11 C (ltM (by decide +kernel : kdM 0 = 11) (by decide)) (by decide +kernel : kdM 0 = 11) (obM11 (by decide +kernel : kdM 0 = 11)) (by decide) (fiM11_17 (by decide +kernel : kdM 0 = 11)) fl11_100 (by decide +kernel) ?_
              refine sm_seg C [(.iconst 1, 1), (.iadd, 0)] (pc' := 221) (L' := [(1, .int r7), (0, .ref 0)]) (S' := [.int ((τ13 0 17) + 1), .ref 0]) (by decide +kernel) rfl ?_
              refine sm_pst 11 17 cls11 C (ltM (by decide +kernel : kdM 0 = 11) (by decide)) (by decide +kernel : kdM 0 = 11) (obM11 (by decide +kernel : kdM 0 = 11)) (by decide) (fiM11_17 (by decide +kernel : kdM 0 = 11)) rfl rfl rfl fl11_100 (by decide +kernel) (fun τ14 => ?_)
              refine sm_seg C [(.iload_n 1, 0), (.bipush 59, 59)] (pc' := 227) (L' := [(1, .int r7), (0, .ref 0)]) (S' := [.int 59, .int r7]) (by decide +kernel) rfl ?_
              refine sm_icmpeq 284 (off := 57) C (by decide +kernel) (by decide) (fun _ => ?_) (fun _ => ?_)
              · exact sm_sub [1, 0] rfl (s_X11_next0_j284 F C hr r7 τ14)
              · refine sm_seg C [(.iload_n 1, 0), (.bipush 43, 43)] (pc' := 233) (L' := [(1, .int r7), (0, .ref 0)]) (S' := [.int 43, .int r7]) (by decide +kernel) rfl ?_
                refine sm_icmpeq 284 (off := 51) C (by decide +kernel) (by decide) (fun _ => ?_) (fun _ => ?_)
                · exact sm_sub [1, 0] rfl (s_X11_next0_j284 F C hr r7 τ14)
                · refine sm_seg C [(.iload_n 1, 0), (.bipush 45, 45)] (pc' := 239) (L' := [(1, .int r7), (0, .ref 0)]) (S' := [.int 45, .int r7]) (by decide +kernel) rfl ?_
                  refine sm_icmpeq 284 (off := 45) C (by decide +kernel) (by decide) (fun _ => ?_) (fun _ => ?_)
                  · exact sm_sub [1, 0] rfl (s_X11_next0_j284 F C hr r7 τ14)
                  · refine sm_seg C [(.iload_n 1, 0), (.bipush 42, 42)] (pc' := 245) (L' := [(1, .int r7), (0, .ref 0)]) (S' := [.int 42, .int r7]) (by decide +kernel) rfl ?_
                    refine sm_icmpeq 284 (off := 39) C (by decide +kernel) (by decide) (fun _ => ?_) (fun _ => ?_)
                    · exact sm_sub [1, 0] rfl (s_X11_next0_j284 F C hr r7 τ14)
                    · refine sm_seg C [(.iload_n 1, 0), (.bipush 47, 47)] (pc' := 251) (L' := [(1, .int r7), (0, .ref 0)]) (S' := [.int 47, .int r7]) (by decide +kernel) rfl ?_
                      refine sm_icmpeq 284 (off := 33) C (by decide +kernel) (by decide) (fun _ => ?_) (fun _ => ?_)
                      · exact sm_sub [1, 0] rfl (s_X11_next0_j284 F C hr r7 τ14)
                      · refine sm_seg C [(.iload_n 1, 0), (.bipush 40, 40)] (pc' := 257) (L' := [(1, .int r7), (0, .ref 0)]) (S' := [.int 40, .int r7]) (by decide +kernel) rfl ?_
                        refine sm_icmpeq 284 (off := 27) C (by decide +kernel) (by decide) (fun _ => ?_) (fun _ => ?_)
                        · exact sm_sub [1, 0] rfl (s_X11_next0_j284 F C hr r7 τ14)
                        · refine sm_seg C [(.iload_n 1, 0), (.bipush 41, 41)] (pc' := 263) (L' := [(1, .int r7), (0, .ref 0)]) (S' := [.int 41, .int r7]) (by decide +kernel) rfl ?_
                          refine sm_icmpeq 284 (off := 21) C (by decide +kernel) (by decide) (fun _ => ?_) (fun _ => ?_)
                          · exact sm_sub [1, 0] rfl (s_X11_next0_j284 F C hr r7 τ14)
                          · refine sm_seg C [(.iload_n 1, 0), (.bipush 60, 60)] (pc' := 269) (L' := [(1, .int r7), (0, .ref 0)]) (S' := [.int 60, .int r7]) (by decide +kernel) rfl ?_
                            refine sm_icmpeq 284 (off := 15) C (by decide +kernel) (by decide) (fun _ => ?_) (fun _ => ?_)
                            · exact sm_sub [1, 0] rfl (s_X11_next0_j284 F C hr r7 τ14)
                            · refine sm_seg C [(.iload_n 1, 0), (.bipush 61, 61)] (pc' := 275) (L' := [(1, .int r7), (0, .ref 0)]) (S' := [.int 61, .int r7]) (by decide +kernel) rfl ?_
                              refine sm_icmpeq 284 (off := 9) C (by decide +kernel) (by decide) (fun _ => ?_) (fun _ => ?_)
                              · exact sm_sub [1, 0] rfl (s_X11_next0_j284 F C hr r7 τ14)
                              · refine sm_seg C [(.iload_n 1, 0), (.bipush 62, 62)] (pc' := 281) (L' := [(1, .int r7), (0, .ref 0)]) (S' := [.int 62, .int r7]) (by decide +kernel) rfl ?_
                                refine sm_icmpne 288 (off := 7) C (by decide +kernel) (by decide) (fun _ => ?_) (fun _ => ?_)
                                · exact sm_sub [1, 0] rfl (s_X11_next0_j284 F C hr r7 τ14)
                                · refine sm_seg C [(.iconst 0, 0)] (pc' := 289) (L' := [(1, .int r7), (0, .ref 0)]) (S' := [.int 0]) (by decide +kernel) rfl ?_
                                  exact sm_sub [1, 0] rfl (s_X11_next0_j289 F C hr r7 0 τ14)
            · refine sm_seg C [(.aload_n 0, 0), (.iconst 0, 0)] (pc' := 123) (L' := [(1, .int r7), (0, .ref 0)]) (S' := [.int 0, .ref 0]) (by decide +kernel) rfl ?_
              refine sm_pst 11 20 cls11 C (ltM (by decide +kernel : kdM 0 = 11) (by decide)) (by decide +kernel : kdM 0 = 11) (obM11 (by decide +kernel : kdM 0 = 11)) (by decide) (fiM11_20 (by decide +kernel : kdM 0 = 11)) rfl rfl rfl fl11_196 (by decide +kernel) (fun τ16 => ?_)
              exact sm_sub [1] rfl (s_X11_next0_L126 F C hr F τ16)
          · exact sm_sub [1] rfl (s_X11_next0_L76 F C hr F τ11)
def X11_next0 (F : Nat) (τ : Tau) : Option (Int32 × Tau) :=
  X11_next0_L0 F F τ
set_option maxRecDepth 20000 in
set_option maxHeartbeats 4000000 in
theorem c_X11_next0 (F : Nat) (τ : Tau) (r : Int32) (τ' : Tau) (h : X11_next0 F τ = some (r, τ')) : MCv sysM yX11_next0 cX11_next0 3 9 [.ref 0] τ τ' :=
  mcv_of (by decide +kernel) (Nat.le_of_ble_eq_true rfl) (fun K C hr => by
    show Sm K sysM 3 (Qv K sysM) (X11_next0 F τ) 0 [(0, .ref 0)] [] τ
    unfold X11_next0
    exact sm_sub [0] rfl (s_X11_next0_L0 F C hr F τ)) h
/-! BasketEnvoysModel.need -/
def X11_need (F : Nat) (a1 : Int32) (τ : Tau) : Option (Int32 × Tau) :=
  if (τ 0 18) = a1 then (cal (X11_next0 F τ) fun r1 τ2 => some (1, τ2)) else (cal (X11_bad F 1 τ) fun r3 τ4 => some (vp_nar .boolean r3, τ4))
set_option maxRecDepth 20000 in
set_option maxHeartbeats 4000000 in
theorem c_X11_need (F : Nat) (a1 : Int32) (τ : Tau) (r : Int32) (τ' : Tau) (h : X11_need F a1 τ = some (r, τ')) : MCi sysM yX11_need cX11_need 2 (some .boolean) 10 [.ref 0, .int a1] τ r τ' :=
  mci_of (by decide +kernel) (Nat.le_of_ble_eq_true rfl) (fun K C hr => by
    show Sm K sysM 2 (Qi K sysM) (X11_need F a1 τ) 0 [(0, .ref 0), (1, .int a1)] [] τ
    unfold X11_need
    refine sm_seg C [(.aload_n 0, 0)] (pc' := 1) (L' := [(0, .ref 0), (1, .int a1)]) (S' := [.ref 0]) (by decide +kernel) rfl ?_
    refine sm_getI 11 18 cls11 C (ltM (by decide +kernel : kdM 0 = 11) (by decide)) (by decide +kernel : kdM 0 = 11) (obM11 (by decide +kernel : kdM 0 = 11)) (by decide) (fiM11_18 (by decide +kernel : kdM 0 = 11)) fl11_184 (by decide +kernel) ?_
    refine sm_seg C [(.iload_n 1, 0)] (pc' := 5) (L' := [(0, .ref 0), (1, .int a1)]) (S' := [.int a1, .int (τ 0 18)]) (by decide +kernel) rfl ?_
    refine sm_icmpeq 14 (off := 9) C (by decide +kernel) (by decide) (fun _ => ?_) (fun _ => ?_)
    · refine sm_seg C [(.aload_n 0, 0)] (pc' := 15) (L' := [(0, .ref 0), (1, .int a1)]) (S' := [.ref 0]) (by decide +kernel) rfl ?_
      refine sm_vcalv [] [] rfl C mw_X11_next0 ml_11_208 rfl (ci := 11) rfl (ltM (by decide +kernel : kdM 0 = 11) (by decide)) (by decide +kernel : kdM 0 = 11) (by decide) ⟨by decide, by decide⟩ (Nat.le_of_ble_eq_true rfl) (by decide +kernel) (c_X11_next0 F τ) (fun r1 τ2 => ?_)
      refine sm_seg C [(.iconst 1, 1)] (pc' := 19) (L' := [(0, .ref 0), (1, .int a1)]) (S' := [.int 1]) (by decide +kernel) rfl ?_
      exact sm_iret C hr rfl (by decide +kernel)
    · refine sm_seg C [(.aload_n 0, 0), (.iconst 1, 1)] (pc' := 10) (L' := [(0, .ref 0), (1, .int a1)]) (S' := [.int 1, .ref 0]) (by decide +kernel) rfl ?_
      refine sm_vcal [.int 1] [] rfl C mw_X11_bad ml_11_205 rfl (ci := 11) rfl (ltM (by decide +kernel : kdM 0 = 11) (by decide)) (by decide +kernel : kdM 0 = 11) (by decide) ⟨by decide, by decide⟩ (Nat.le_of_ble_eq_true rfl) (by decide +kernel) (c_X11_bad F 1 τ) (fun r3 τ4 => ?_)
      exact sm_iret C hr nar_boolean (by decide +kernel)) h
/-! BasketEnvoysModel.number -/
def X11_number (F : Nat) (a1 : Int32) (a2 : Int32) (a3 : Int32) (τ : Tau) : Option (Int32 × Tau) :=
  if (τ 0 18) = 2 then (cal (X11_isIn F (τ 0 20) a2 a3 τ) fun r1 τ2 => if r1 = 0 then (cal (X11_bad F 2 τ2) fun r3 τ4 => some (vp_nar .boolean r3, τ4)) else (ast τ2 7 140 a1 (τ2 0 20) fun τ5 => cal (X11_next0 F τ5) fun r6 τ7 => some (1, τ7))) else (cal (X11_bad F 1 τ) fun r8 τ9 => some (vp_nar .boolean r8, τ9))
set_option maxRecDepth 20000 in
set_option maxHeartbeats 4000000 in
theorem c_X11_number (F : Nat) (a1 : Int32) (a2 : Int32) (a3 : Int32) (τ : Tau) (r : Int32) (τ' : Tau) (h : X11_number F a1 a2 a3 τ = some (r, τ')) : MCi sysM yX11_number cX11_number 4 (some .boolean) 10 [.ref 0, .int a1, .int a2, .int a3] τ r τ' :=
  mci_of (by decide +kernel) (Nat.le_of_ble_eq_true rfl) (fun K C hr => by
    show Sm K sysM 4 (Qi K sysM) (X11_number F a1 a2 a3 τ) 0 [(0, .ref 0), (1, .int a1), (2, .int a2), (3, .int a3)] [] τ
    unfold X11_number
    refine sm_seg C [(.aload_n 0, 0)] (pc' := 1) (L' := [(0, .ref 0), (1, .int a1), (2, .int a2), (3, .int a3)]) (S' := [.ref 0]) (by decide +kernel) rfl ?_
    refine sm_getI 11 18 cls11 C (ltM (by decide +kernel : kdM 0 = 11) (by decide)) (by decide +kernel : kdM 0 = 11) (obM11 (by decide +kernel : kdM 0 = 11)) (by decide) (fiM11_18 (by decide +kernel : kdM 0 = 11)) fl11_184 (by decide +kernel) ?_
    refine sm_seg C [(.iconst 2, 2)] (pc' := 5) (L' := [(0, .ref 0), (1, .int a1), (2, .int a2), (3, .int a3)]) (S' := [.int 2, .int (τ 0 18)]) (by decide +kernel) rfl ?_
    refine sm_icmpeq 14 (off := 9) C (by decide +kernel) (by decide) (fun _ => ?_) (fun _ => ?_)
    · refine sm_seg C [(.aload_n 0, 0)] (pc' := 15) (L' := [(0, .ref 0), (1, .int a1), (2, .int a2), (3, .int a3)]) (S' := [.ref 0]) (by decide +kernel) rfl ?_
      refine sm_getI 11 20 cls11 C (ltM (by decide +kernel : kdM 0 = 11) (by decide)) (by decide +kernel : kdM 0 = 11) (obM11 (by decide +kernel : kdM 0 = 11)) (by decide) (fiM11_20 (by decide +kernel : kdM 0 = 11)) fl11_196 (by decide +kernel) ?_
      refine sm_seg C [(.iload_n 2, 0), (.iload_n 3, 0)] (pc' := 20) (L' := [(0, .ref 0), (1, .int a1), (2, .int a2), (3, .int a3)]) (S' := [.int a3, .int a2, .int (τ 0 20)]) (by decide +kernel) rfl ?_
      refine sm_scal [.int (τ 0 20), .int a2, .int a3] [] rfl C mw_X11_isIn ml_11_78 rfl ⟨by decide, by decide⟩ (Nat.le_of_ble_eq_true rfl) (by decide +kernel) (c_X11_isIn F (τ 0 20) a2 a3 τ) (fun r1 τ2 => ?_)
      refine sm_ifne 32 (off := 9) C (by decide +kernel) (by decide) (fun _ => ?_) (fun _ => ?_)
      · refine sm_seg C [(.aload_n 0, 0), (.iconst 2, 2)] (pc' := 28) (L' := [(0, .ref 0), (1, .int a1), (2, .int a2), (3, .int a3)]) (S' := [.int 2, .ref 0]) (by decide +kernel) rfl ?_
        refine sm_vcal [.int 2] [] rfl C mw_X11_bad ml_11_205 rfl (ci := 11) rfl (ltM (by decide +kernel : kdM 0 = 11) (by decide)) (by decide +kernel : kdM 0 = 11) (by decide) ⟨by decide, by decide⟩ (Nat.le_of_ble_eq_true rfl) (by decide +kernel) (c_X11_bad F 2 τ2) (fun r3 τ4 => ?_)
        exact sm_iret C hr nar_boolean (by decide +kernel)
      · refine sm_seg C [(.aload_n 0, 0)] (pc' := 33) (L' := [(0, .ref 0), (1, .int a1), (2, .int a2), (3, .int a3)]) (S' := [.ref 0]) (by decide +kernel) rfl ?_
        refine sm_getR 11 8 7 cls11 C (ltM (by decide +kernel : kdM 0 = 11) (by decide)) (by decide +kernel : kdM 0 = 11) (obM11 (by decide +kernel : kdM 0 = 11)) (by decide) (frM11_8 (by decide +kernel : kdM 0 = 11)) fl11_28 (by decide +kernel) ?_
        refine sm_seg C [(.iload_n 1, 0), (.aload_n 0, 0)] (pc' := 38) (L' := [(0, .ref 0), (1, .int a1), (2, .int a2), (3, .int a3)]) (S' := [.ref 0, .int a1, .ref 7]) (by decide +kernel) rfl ?_
        refine sm_getI 11 20 cls11 C (ltM (by decide +kernel : kdM 0 = 11) (by decide)) (by decide +kernel : kdM 0 = 11) (obM11 (by decide +kernel : kdM 0 = 11)) (by decide) (fiM11_20 (by decide +kernel : kdM 0 = 11)) fl11_196 (by decide +kernel) ?_
        refine sm_ast 140 C (ltM (krM11_8 (by decide +kernel : kdM 0 = 11)) (by decide)) (krM11_8 (by decide +kernel : kdM 0 = 11)) (nrM11_8 (by decide +kernel : kdM 0 = 11)) (by decide +kernel) (fun τ5 => ?_)
        refine sm_seg C [(.aload_n 0, 0)] (pc' := 43) (L' := [(0, .ref 0), (1, .int a1), (2, .int a2), (3, .int a3)]) (S' := [.ref 0]) (by decide +kernel) rfl ?_
        refine sm_vcalv [] [] rfl C mw_X11_next0 ml_11_208 rfl (ci := 11) rfl (ltM (by decide +kernel : kdM 0 = 11) (by decide)) (by decide +kernel : kdM 0 = 11) (by decide) ⟨by decide, by decide⟩ (Nat.le_of_ble_eq_true rfl) (by decide +kernel) (c_X11_next0 F τ5) (fun r6 τ7 => ?_)
        refine sm_seg C [(.iconst 1, 1)] (pc' := 47) (L' := [(0, .ref 0), (1, .int a1), (2, .int a2), (3, .int a3)]) (S' := [.int 1]) (by decide +kernel) rfl ?_
        exact sm_iret C hr rfl (by decide +kernel)
    · refine sm_seg C [(.aload_n 0, 0), (.iconst 1, 1)] (pc' := 10) (L' := [(0, .ref 0), (1, .int a1), (2, .int a2), (3, .int a3)]) (S' := [.int 1, .ref 0]) (by decide +kernel) rfl ?_
      refine sm_vcal [.int 1] [] rfl C mw_X11_bad ml_11_205 rfl (ci := 11) rfl (ltM (by decide +kernel : kdM 0 = 11) (by decide)) (by decide +kernel : kdM 0 = 11) (by decide) ⟨by decide, by decide⟩ (Nat.le_of_ble_eq_true rfl) (by decide +kernel) (c_X11_bad F 1 τ) (fun r8 τ9 => ?_)
      exact sm_iret C hr nar_boolean (by decide +kernel)) h
/-! BasketEnvoysModel.told -/
def X11_told (F : Nat) (a1 : Int32) (a2 : Int32) (a3 : Int32) (a4 : Int32) (τ : Tau) : Option (Int32 × Tau) :=
  cal (X11_need F a2 τ) fun r1 τ2 => if r1 = 0 then (some (0, τ2)) else (cal (X11_number F a1 a3 a4 τ2) fun r3 τ4 => if r3 = 0 then (some (0, τ4)) else (some (1, τ4)))
set_option maxRecDepth 20000 in
set_option maxHeartbeats 4000000 in
theorem c_X11_told (F : Nat) (a1 : Int32) (a2 : Int32) (a3 : Int32) (a4 : Int32) (τ : Tau) (r : Int32) (τ' : Tau) (h : X11_told F a1 a2 a3 a4 τ = some (r, τ')) : MCi sysM yX11_told cX11_told 5 (some .boolean) 11 [.ref 0, .int a1, .int a2, .int a3, .int a4] τ r τ' :=
  mci_of (by decide +kernel) (Nat.le_of_ble_eq_true rfl) (fun K C hr => by
    show Sm K sysM 5 (Qi K sysM) (X11_told F a1 a2 a3 a4 τ) 0 [(0, .ref 0), (1, .int a1), (2, .int a2), (3, .int a3), (4, .int a4)] [] τ
    unfold X11_told
    refine sm_seg C [(.aload_n 0, 0), (.iload_n 2, 0)] (pc' := 2) (L' := [(0, .ref 0), (1, .int a1), (2, .int a2), (3, .int a3), (4, .int a4)]) (S' := [.int a2, .ref 0]) (by decide +kernel) rfl ?_
    refine sm_vcal [.int a2] [] rfl C mw_X11_need ml_11_240 rfl (ci := 11) rfl (ltM (by decide +kernel : kdM 0 = 11) (by decide)) (by decide +kernel : kdM 0 = 11) (by decide) ⟨by decide, by decide⟩ (Nat.le_of_ble_eq_true rfl) (by decide +kernel) (c_X11_need F a2 τ) (fun r1 τ2 => ?_)
    refine sm_ifeq 23 (off := 18) C (by decide +kernel) (by decide) (fun _ => ?_) (fun _ => ?_)
    · refine sm_seg C [(.iconst 0, 0)] (pc' := 24) (L' := [(0, .ref 0), (1, .int a1), (2, .int a2), (3, .int a3), (4, .int a4)]) (S' := [.int 0]) (by decide +kernel) rfl ?_
      exact sm_iret C hr rfl (by decide +kernel)
    · refine sm_seg C [(.aload_n 0, 0), (.iload_n 1, 0), (.iload_n 3, 0), (.iload 4, 0)] (pc' := 13) (L' := [(0, .ref 0), (1, .int a1), (2, .int a2), (3, .int a3), (4, .int a4)]) (S' := [.int a4, .int a3, .int a1, .ref 0]) (by decide +kernel) rfl ?_
      refine sm_vcal [.int a1, .int a3, .int a4] [] rfl C mw_X11_number ml_11_252 rfl (ci := 11) rfl (ltM (by decide +kernel : kdM 0 = 11) (by decide)) (by decide +kernel : kdM 0 = 11) (by decide) ⟨by decide, by decide⟩ (Nat.le_of_ble_eq_true rfl) (by decide +kernel) (c_X11_number F a1 a3 a4 τ2) (fun r3 τ4 => ?_)
      refine sm_ifeq 23 (off := 7) C (by decide +kernel) (by decide) (fun _ => ?_) (fun _ => ?_)
      · refine sm_seg C [(.iconst 0, 0)] (pc' := 24) (L' := [(0, .ref 0), (1, .int a1), (2, .int a2), (3, .int a3), (4, .int a4)]) (S' := [.int 0]) (by decide +kernel) rfl ?_
        exact sm_iret C hr rfl (by decide +kernel)
      · refine sm_seg C [(.iconst 1, 1), (.goto 4, 0)] (pc' := 24) (L' := [(0, .ref 0), (1, .int a1), (2, .int a2), (3, .int a3), (4, .int a4)]) (S' := [.int 1]) (by decide +kernel) rfl ?_
        exact sm_iret C hr rfl (by decide +kernel)) h
/-! BasketEnvoysModel.aCourtDay -/
def X11_aCourtDay_j88 (F : Nat) (a1 : Int32) (a2 : Int32) (z0 : Int32) (z1 : Int32) (z2 : Int32) (τ : Tau) : Option (Int32 × Tau) :=
  cal (X11_number F z2 z1 (z0 - 1) τ) fun r11 τ12 => if r11 = 0 then (some (0, τ12)) else (if a2 = 12 then (some (1, τ12)) else (if a2 = 11 then (ald τ12 1 2244 255 fun v13 => cal (X11_number F (a1 + 3) 0 (v13 - 1) τ12) fun r14 τ15 => some (vp_nar .boolean r14, τ15)) else (if a2 = 13 then (cal (X11_number F (a1 + 3) 1 99 τ12) fun r16 τ17 => some (vp_nar .boolean r16, τ17)) else (cal (X11_number F (a1 + 3) 0 9 τ12) fun r18 τ19 => some (vp_nar .boolean r18, τ19)))))
theorem s_X11_aCourtDay_j88 (F : Nat) {K : Ctx} (C : Cx K sysM RX11 cX11_aCourtDay 3 12) (hr : Rt K (some .boolean)) (a1 : Int32) (a2 : Int32) (z0 : Int32) (z1 : Int32) (z2 : Int32) (τ : Tau) : Sm K sysM 3 (Qi K sysM) (X11_aCourtDay_j88 F a1 a2 z0 z1 z2 τ) 88 [(0, .ref 0), (1, .int a1), (2, .int a2)] [.int z0, .int z1, .int z2, .ref 0] τ := by
  unfold X11_aCourtDay_j88
  refine sm_seg C [(.iconst 1, 1), (.isub, 0)] (pc' := 90) (L' := [(0, .ref 0), (1, .int a1), (2, .int a2)]) (S' := [.int (z0 - 1), .int z1, .int z2, .ref 0]) (by decide +kernel) rfl ?_
  refine sm_vcal [.int z2, .int z1, .int (z0 - 1)] [] rfl C mw_X11_number ml_11_252 rfl (ci := 11) rfl (ltM (by decide +kernel : kdM 0 = 11) (by decide)) (by decide +kernel : kdM 0 = 11) (by decide) ⟨by decide, by decide⟩ (Nat.le_of_ble_eq_true rfl) (by decide +kernel) (c_X11_number F z2 z1 (z0 - 1) τ) (fun r11 τ12 => ?_)
  refine sm_ifne 98 (off := 5) C (by decide +kernel) (by decide) (fun _ => ?_) (fun _ => ?_)
  · refine sm_seg C [(.iconst 0, 0)] (pc' := 97) (L' := [(0, .ref 0), (1, .int a1), (2, .int a2)]) (S' := [.int 0]) (by decide +kernel) rfl ?_
    exact sm_iret C hr rfl (by decide +kernel)
  · refine sm_seg C [(.iload_n 2, 0), (.bipush 12, 12)] (pc' := 101) (L' := [(0, .ref 0), (1, .int a1), (2, .int a2)]) (S' := [.int 12, .int a2]) (by decide +kernel) rfl ?_
    refine sm_icmpne 106 (off := 5) C (by decide +kernel) (by decide) (fun _ => ?_) (fun _ => ?_)
    · refine sm_seg C [(.iconst 1, 1)] (pc' := 105) (L' := [(0, .ref 0), (1, .int a1), (2, .int a2)]) (S' := [.int 1]) (by decide +kernel) rfl ?_
      exact sm_iret C hr rfl (by decide +kernel)
    · refine sm_seg C [(.iload_n 2, 0), (.bipush 11, 11)] (pc' := 109) (L' := [(0, .ref 0), (1, .int a1), (2, .int a2)]) (S' := [.int 11, .int a2]) (by decide +kernel) rfl ?_
      refine sm_icmpne 133 (off := 24) C (by decide +kernel) (by decide) (fun _ => ?_) (fun _ => ?_)
      · refine sm_seg C [(.aload_n 0, 0), (.iload_n 1, 0), (.iconst 3, 3), (.iadd, 0), (.iconst 0, 0), (.aload_n 0, 0)] (pc' := 118) (L' := [(0, .ref 0), (1, .int a1), (2, .int a2)]) (S' := [.ref 0, .int 0, .int (a1 + 3), .ref 0]) (by decide +kernel) rfl ?_
        refine sm_getR 11 0 1 cls11 C (ltM (by decide +kernel : kdM 0 = 11) (by decide)) (by decide +kernel : kdM 0 = 11) (obM11 (by decide +kernel : kdM 0 = 11)) (by decide) (frM11_0 (by decide +kernel : kdM 0 = 11)) fl11_7 (by decide +kernel) ?_
        refine sm_seg C [(.sipush 255, 255)] (pc' := 124) (L' := [(0, .ref 0), (1, .int a1), (2, .int a2)]) (S' := [.int 255, .ref 1, .int 0, .int (a1 + 3), .ref 0]) (by decide +kernel) rfl ?_
        refine sm_ald 2244 C (ltM (krM11_0 (by decide +kernel : kdM 0 = 11)) (by decide)) (krM11_0 (by decide +kernel : kdM 0 = 11)) (nrM11_0 (by decide +kernel : kdM 0 = 11)) (by decide +kernel) (fun v13 => ?_)
        refine sm_seg C [(.iconst 1, 1), (.isub, 0)] (pc' := 127) (L' := [(0, .ref 0), (1, .int a1), (2, .int a2)]) (S' := [.int (v13 - 1), .int 0, .int (a1 + 3), .ref 0]) (by decide +kernel) rfl ?_
        refine sm_vcal [.int (a1 + 3), .int 0, .int (v13 - 1)] [] rfl C mw_X11_number ml_11_252 rfl (ci := 11) rfl (ltM (by decide +kernel : kdM 0 = 11) (by decide)) (by decide +kernel : kdM 0 = 11) (by decide) ⟨by decide, by decide⟩ (Nat.le_of_ble_eq_true rfl) (by decide +kernel) (c_X11_number F (a1 + 3) 0 (v13 - 1) τ12) (fun r14 τ15 => ?_)
        refine sm_seg C [(.goto 32, 0)] (pc' := 162) (L' := [(0, .ref 0), (1, .int a1), (2, .int a2)]) (S' := [.int r14]) (by decide +kernel) rfl ?_
        exact sm_iret C hr nar_boolean (by decide +kernel)
      · refine sm_seg C [(.iload_n 2, 0), (.bipush 13, 13)] (pc' := 136) (L' := [(0, .ref 0), (1, .int a1), (2, .int a2)]) (S' := [.int 13, .int a2]) (by decide +kernel) rfl ?_
        refine sm_icmpne 152 (off := 16) C (by decide +kernel) (by decide) (fun _ => ?_) (fun _ => ?_)
        · refine sm_seg C [(.aload_n 0, 0), (.iload_n 1, 0), (.iconst 3, 3), (.iadd, 0), (.iconst 1, 1), (.bipush 99, 99)] (pc' := 146) (L' := [(0, .ref 0), (1, .int a1), (2, .int a2)]) (S' := [.int 99, .int 1, .int (a1 + 3), .ref 0]) (by decide +kernel) rfl ?_
          refine sm_vcal [.int (a1 + 3), .int 1, .int 99] [] rfl C mw_X11_number ml_11_252 rfl (ci := 11) rfl (ltM (by decide +kernel : kdM 0 = 11) (by decide)) (by decide +kernel : kdM 0 = 11) (by decide) ⟨by decide, by decide⟩ (Nat.le_of_ble_eq_true rfl) (by decide +kernel) (c_X11_number F (a1 + 3) 1 99 τ12) (fun r16 τ17 => ?_)
          refine sm_seg C [(.goto 13, 0)] (pc' := 162) (L' := [(0, .ref 0), (1, .int a1), (2, .int a2)]) (S' := [.int r16]) (by decide +kernel) rfl ?_
          exact sm_iret C hr nar_boolean (by decide +kernel)
        · refine sm_seg C [(.aload_n 0, 0), (.iload_n 1, 0), (.iconst 3, 3), (.iadd, 0), (.iconst 0, 0), (.bipush 9, 9)] (pc' := 159) (L' := [(0, .ref 0), (1, .int a1), (2, .int a2)]) (S' := [.int 9, .int 0, .int (a1 + 3), .ref 0]) (by decide +kernel) rfl ?_
          refine sm_vcal [.int (a1 + 3), .int 0, .int 9] [] rfl C mw_X11_number ml_11_252 rfl (ci := 11) rfl (ltM (by decide +kernel : kdM 0 = 11) (by decide)) (by decide +kernel : kdM 0 = 11) (by decide) ⟨by decide, by decide⟩ (Nat.le_of_ble_eq_true rfl) (by decide +kernel) (c_X11_number F (a1 + 3) 0 9 τ12) (fun r18 τ19 => ?_)
          exact sm_iret C hr nar_boolean (by decide +kernel)
def X11_aCourtDay (F : Nat) (τ : Tau) : Option (Int32 × Tau) :=
  cal (X11_told F (4 * (τ 0 15)) 7 0 999 τ) fun r1 τ2 => if r1 = 0 then (some (0, τ2)) else (cal (X11_isIn F (τ2 0 18) 11 14 τ2) fun r3 τ4 => if r3 = 0 then (cal (X11_bad F 1 τ4) fun r5 τ6 => some (vp_nar .boolean r5, τ6)) else (ast τ4 7 140 ((4 * (τ 0 15)) + 1) (τ2 0 18) fun τ7 => cal (X11_next0 F τ7) fun r8 τ9 => if (τ2 0 18) = 13 then (ald τ9 1 2244 255 fun v10 => X11_aCourtDay_j88 F (4 * (τ 0 15)) (τ2 0 18) v10 0 ((4 * (τ 0 15)) + 2) τ9) else (ald τ9 1 2244 256 fun v20 => X11_aCourtDay_j88 F (4 * (τ 0 15)) (τ2 0 18) v20 0 ((4 * (τ 0 15)) + 2) τ9)))
set_option maxRecDepth 20000 in
set_option maxHeartbeats 4000000 in
theorem c_X11_aCourtDay (F : Nat) (τ : Tau) (r : Int32) (τ' : Tau) (h : X11_aCourtDay F τ = some (r, τ')) : MCi sysM yX11_aCourtDay cX11_aCourtDay 3 (some .boolean) 12 [.ref 0] τ r τ' :=
  mci_of (by decide +kernel) (Nat.le_of_ble_eq_true rfl) (fun K C hr => by
    show Sm K sysM 3 (Qi K sysM) (X11_aCourtDay F τ) 0 [(0, .ref 0)] [] τ
    unfold X11_aCourtDay
    refine sm_seg C [(.iconst 4, 4), (.aload_n 0, 0)] (pc' := 2) (L' := [(0, .ref 0)]) (S' := [.ref 0, .int 4]) (by decide +kernel) rfl ?_
    refine sm_getI 11 15 cls11 C (ltM (by decide +kernel : kdM 0 = 11) (by decide)) (by decide +kernel : kdM 0 = 11) (obM11 (by decide +kernel : kdM 0 = 11)) (by decide) (fiM11_15 (by decide +kernel : kdM 0 = 11)) fl11_259 (by decide +kernel) ?_
    refine sm_seg C [(.imul, 0), (.istore_n 1, 0), (.aload_n 0, 0), (.iload_n 1, 0), (.bipush 7, 7), (.iconst 0, 0), (.sipush 999, 999)] (pc' := 15) (L' := [(1, .int (4 * (τ 0 15))), (0, .ref 0)]) (S' := [.int 999, .int 0, .int 7, .int (4 * (τ 0 15)), .ref 0]) (by decide +kernel) rfl ?_
    refine sm_vcal [.int (4 * (τ 0 15)), .int 7, .int 0, .int 999] [] rfl C mw_X11_told ml_11_255 rfl (ci := 11) rfl (ltM (by decide +kernel : kdM 0 = 11) (by decide)) (by decide +kernel : kdM 0 = 11) (by decide) ⟨by decide, by decide⟩ (Nat.le_of_ble_eq_true rfl) (by decide +kernel) (c_X11_told F (4 * (τ 0 15)) 7 0 999 τ) (fun r1 τ2 => ?_)
    refine sm_ifne 23 (off := 5) C (by decide +kernel) (by decide) (fun _ => ?_) (fun _ => ?_)
    · refine sm_seg C [(.iconst 0, 0)] (pc' := 22) (L' := [(1, .int (4 * (τ 0 15))), (0, .ref 0)]) (S' := [.int 0]) (by decide +kernel) rfl ?_
      exact sm_iret C hr rfl (by decide +kernel)
    · refine sm_seg C [(.aload_n 0, 0)] (pc' := 24) (L' := [(1, .int (4 * (τ 0 15))), (0, .ref 0)]) (S' := [.ref 0]) (by decide +kernel) rfl ?_
      refine sm_getI 11 18 cls11 C (ltM (by decide +kernel : kdM 0 = 11) (by decide)) (by decide +kernel : kdM 0 = 11) (obM11 (by decide +kernel : kdM 0 = 11)) (by decide) (fiM11_18 (by decide +kernel : kdM 0 = 11)) fl11_184 (by decide +kernel) ?_
      refine sm_seg C [(.istore_n 2, 0), (.iload_n 2, 0), (.bipush 11, 11), (.bipush 14, 14)] (pc' := 33) (L' := [(2, .int (τ2 0 18)), (1, .int (4 * (τ 0 15))), (0, .ref 0)]) (S' := [.int 14, .int 11, .int (τ2 0 18)]) (by decide +kernel) rfl ?_
      refine sm_scal [.int (τ2 0 18), .int 11, .int 14] [] rfl C mw_X11_isIn ml_11_78 rfl ⟨by decide, by decide⟩ (Nat.le_of_ble_eq_true rfl) (by decide +kernel) (c_X11_isIn F (τ2 0 18) 11 14 τ2) (fun r3 τ4 => ?_)
      refine sm_ifne 45 (off := 9) C (by decide +kernel) (by decide) (fun _ => ?_) (fun _ => ?_)
      · refine sm_seg C [(.aload_n 0, 0), (.iconst 1, 1)] (pc' := 41) (L' := [(2, .int (τ2 0 18)), (1, .int (4 * (τ 0 15))), (0, .ref 0)]) (S' := [.int 1, .ref 0]) (by decide +kernel) rfl ?_
        refine sm_vcal [.int 1] [] rfl C mw_X11_bad ml_11_205 rfl (ci := 11) rfl (ltM (by decide +kernel : kdM 0 = 11) (by decide)) (by decide +kernel : kdM 0 = 11) (by decide) ⟨by decide, by decide⟩ (Nat.le_of_ble_eq_true rfl) (by decide +kernel) (c_X11_bad F 1 τ4) (fun r5 τ6 => ?_)
        exact sm_iret C hr nar_boolean (by decide +kernel)
      · refine sm_seg C [(.aload_n 0, 0)] (pc' := 46) (L' := [(2, .int (τ2 0 18)), (1, .int (4 * (τ 0 15))), (0, .ref 0)]) (S' := [.ref 0]) (by decide +kernel) rfl ?_
        refine sm_getR 11 8 7 cls11 C (ltM (by decide +kernel : kdM 0 = 11) (by decide)) (by decide +kernel : kdM 0 = 11) (obM11 (by decide +kernel : kdM 0 = 11)) (by decide) (frM11_8 (by decide +kernel : kdM 0 = 11)) fl11_28 (by decide +kernel) ?_
        refine sm_seg C [(.iload_n 1, 0), (.iconst 1, 1), (.iadd, 0), (.iload_n 2, 0)] (pc' := 53) (L' := [(2, .int (τ2 0 18)), (1, .int (4 * (τ 0 15))), (0, .ref 0)]) (S' := [.int (τ2 0 18), .int ((4 * (τ 0 15)) + 1), .ref 7]) (by decide +kernel) rfl ?_
        refine sm_ast 140 C (ltM (krM11_8 (by decide +kernel : kdM 0 = 11)) (by decide)) (krM11_8 (by decide +kernel : kdM 0 = 11)) (nrM11_8 (by decide +kernel : kdM 0 = 11)) (by decide +kernel) (fun τ7 => ?_)
        refine sm_seg C [(.aload_n 0, 0)] (pc' := 55) (L' := [(2, .int (τ2 0 18)), (1, .int (4 * (τ 0 15))), (0, .ref 0)]) (S' := [.ref 0]) (by decide +kernel) rfl ?_
        refine sm_vcalv [] [] rfl C mw_X11_next0 ml_11_208 rfl (ci := 11) rfl (ltM (by decide +kernel : kdM 0 = 11) (by decide)) (by decide +kernel : kdM 0 = 11) (by decide) ⟨by decide, by decide⟩ (Nat.le_of_ble_eq_true rfl) (by decide +kernel) (c_X11_next0 F τ7) (fun r8 τ9 => ?_)
        refine sm_seg C [(.aload_n 0, 0), (.iload_n 1, 0), (.iconst 2, 2), (.iadd, 0), (.iconst 0, 0), (.iload_n 2, 0), (.bipush 13, 13)] (pc' := 66) (L' := [(2, .int (τ2 0 18)), (1, .int (4 * (τ 0 15))), (0, .ref 0)]) (S' := [.int 13, .int (τ2 0 18), .int 0, .int ((4 * (τ 0 15)) + 2), .ref 0]) (by decide +kernel) rfl ?_
        refine sm_icmpne 80 (off := 14) C (by decide +kernel) (by decide) (fun _ => ?_) (fun _ => ?_)
        · refine sm_seg C [(.aload_n 0, 0)] (pc' := 70) (L' := [(2, .int (τ2 0 18)), (1, .int (4 * (τ 0 15))), (0, .ref 0)]) (S' := [.ref 0, .int 0, .int ((4 * (τ 0 15)) + 2), .ref 0]) (by decide +kernel) rfl ?_
          refine sm_getR 11 0 1 cls11 C (ltM (by decide +kernel : kdM 0 = 11) (by decide)) (by decide +kernel : kdM 0 = 11) (obM11 (by decide +kernel : kdM 0 = 11)) (by decide) (frM11_0 (by decide +kernel : kdM 0 = 11)) fl11_7 (by decide +kernel) ?_
          refine sm_seg C [(.sipush 255, 255)] (pc' := 76) (L' := [(2, .int (τ2 0 18)), (1, .int (4 * (τ 0 15))), (0, .ref 0)]) (S' := [.int 255, .ref 1, .int 0, .int ((4 * (τ 0 15)) + 2), .ref 0]) (by decide +kernel) rfl ?_
          refine sm_ald 2244 C (ltM (krM11_0 (by decide +kernel : kdM 0 = 11)) (by decide)) (krM11_0 (by decide +kernel : kdM 0 = 11)) (nrM11_0 (by decide +kernel : kdM 0 = 11)) (by decide +kernel) (fun v10 => ?_)
          refine sm_seg C [(.goto 11, 0)] (pc' := 88) (L' := [(2, .int (τ2 0 18)), (1, .int (4 * (τ 0 15))), (0, .ref 0)]) (S' := [.int v10, .int 0, .int ((4 * (τ 0 15)) + 2), .ref 0]) (by decide +kernel) rfl ?_
          exact sm_sub [2, 1, 0] rfl (s_X11_aCourtDay_j88 F C hr (4 * (τ 0 15)) (τ2 0 18) v10 0 ((4 * (τ 0 15)) + 2) τ9)
        · refine sm_seg C [(.aload_n 0, 0)] (pc' := 81) (L' := [(2, .int (τ2 0 18)), (1, .int (4 * (τ 0 15))), (0, .ref 0)]) (S' := [.ref 0, .int 0, .int ((4 * (τ 0 15)) + 2), .ref 0]) (by decide +kernel) rfl ?_
          refine sm_getR 11 0 1 cls11 C (ltM (by decide +kernel : kdM 0 = 11) (by decide)) (by decide +kernel : kdM 0 = 11) (obM11 (by decide +kernel : kdM 0 = 11)) (by decide) (frM11_0 (by decide +kernel : kdM 0 = 11)) fl11_7 (by decide +kernel) ?_
          refine sm_seg C [(.sipush 256, 256)] (pc' := 87) (L' := [(2, .int (τ2 0 18)), (1, .int (4 * (τ 0 15))), (0, .ref 0)]) (S' := [.int 256, .ref 1, .int 0, .int ((4 * (τ 0 15)) + 2), .ref 0]) (by decide +kernel) rfl ?_
          refine sm_ald 2244 C (ltM (krM11_0 (by decide +kernel : kdM 0 = 11)) (by decide)) (krM11_0 (by decide +kernel : kdM 0 = 11)) (nrM11_0 (by decide +kernel : kdM 0 = 11)) (by decide +kernel) (fun v20 => ?_)
          exact sm_sub [2, 1, 0] rfl (s_X11_aCourtDay_j88 F C hr (4 * (τ 0 15)) (τ2 0 18) v20 0 ((4 * (τ 0 15)) + 2) τ9)) h
/-! BasketEnvoysModel.lay -/
def X11_lay (F : Nat) (a1 : Int32) (a2 : Int32) (τ : Tau) : Option (Int32 × Tau) :=
  ast τ 6 820 (2 * (τ 0 14)) a1 fun τ1 => ast τ1 6 820 ((2 * (τ1 0 14)) + 1) a2 fun τ2 => pst τ2 0 14 ((τ2 0 14) + 1) fun τ3 => some (0, τ3)
set_option maxRecDepth 20000 in
set_option maxHeartbeats 4000000 in
theorem c_X11_lay (F : Nat) (a1 : Int32) (a2 : Int32) (τ : Tau) (r : Int32) (τ' : Tau) (h : X11_lay F a1 a2 τ = some (r, τ')) : MCv sysM yX11_lay cX11_lay 3 1 [.ref 0, .int a1, .int a2] τ τ' :=
  mcv_of (by decide +kernel) (Nat.le_of_ble_eq_true rfl) (fun K C hr => by
    show Sm K sysM 3 (Qv K sysM) (X11_lay F a1 a2 τ) 0 [(0, .ref 0), (1, .int a1), (2, .int a2)] [] τ
    unfold X11_lay
    refine sm_seg C [(.aload_n 0, 0)] (pc' := 1) (L' := [(0, .ref 0), (1, .int a1), (2, .int a2)]) (S' := [.ref 0]) (by decide +kernel) rfl ?_
    refine sm_getR 11 7 6 cls11 C (ltM (by decide +kernel : kdM 0 = 11) (by decide)) (by decide +kernel : kdM 0 = 11) (obM11 (by decide +kernel : kdM 0 = 11)) (by decide) (frM11_7 (by decide +kernel : kdM 0 = 11)) fl11_25 (by decide +kernel) ?_
    refine sm_seg C [(.iconst 2, 2), (.aload_n 0, 0)] (pc' := 6) (L' := [(0, .ref 0), (1, .int a1), (2, .int a2)]) (S' := [.ref 0, .int 2, .ref 6]) (by decide +kernel) rfl ?_
    refine sm_getI 11 14 cls11 C (ltM (by decide +kernel : kdM 0 = 11) (by decide)) (by decide +kernel : kdM 0 = 11) (obM11 (by decide +kernel : kdM 0 = 11)) (by decide) (fiM11_14 (by decide +kernel : kdM 0 = 11)) fl11_211 (by decide +kernel) ?_
    refine sm_seg C [(.imul, 0), (.iload_n 1, 0)] (pc' := 11) (L' := [(0, .ref 0), (1, .int a1), (2, .int a2)]) (S' := [.int a1, .int (2 * (τ 0 14)), .ref 6]) (by decide +kernel) rfl ?_
    refine sm_ast 820 C (ltM (krM11_7 (by decide +kernel : kdM 0 = 11)) (by decide)) (krM11_7 (by decide +kernel : kdM 0 = 11)) (nrM11_7 (by decide +kernel : kdM 0 = 11)) (by decide +kernel) (fun τ1 => ?_)
    refine sm_seg C [(.aload_n 0, 0)] (pc' := 13) (L' := [(0, .ref 0), (1, .int a1), (2, .int a2)]) (S' := [.ref 0]) (by decide +kernel) rfl ?_
    refine sm_getR 11 7 6 cls11 C (ltM (by decide +kernel : kdM 0 = 11) (by decide)) (by decide +kernel : kdM 0 = 11) (obM11 (by decide +kernel : kdM 0 = 11)) (by decide) (frM11_7 (by decide +kernel : kdM 0 = 11)) fl11_25 (by decide +kernel) ?_
    refine sm_seg C [(.iconst 2, 2), (.aload_n 0, 0)] (pc' := 18) (L' := [(0, .ref 0), (1, .int a1), (2, .int a2)]) (S' := [.ref 0, .int 2, .ref 6]) (by decide +kernel) rfl ?_
    refine sm_getI 11 14 cls11 C (ltM (by decide +kernel : kdM 0 = 11) (by decide)) (by decide +kernel : kdM 0 = 11) (obM11 (by decide +kernel : kdM 0 = 11)) (by decide) (fiM11_14 (by decide +kernel : kdM 0 = 11)) fl11_211 (by decide +kernel) ?_
    refine sm_seg C [(.imul, 0), (.iconst 1, 1), (.iadd, 0), (.iload_n 2, 0)] (pc' := 25) (L' := [(0, .ref 0), (1, .int a1), (2, .int a2)]) (S' := [.int a2, .int ((2 * (τ1 0 14)) + 1), .ref 6]) (by decide +kernel) rfl ?_
    refine sm_ast 820 C (ltM (krM11_7 (by decide +kernel : kdM 0 = 11)) (by decide)) (krM11_7 (by decide +kernel : kdM 0 = 11)) (nrM11_7 (by decide +kernel : kdM 0 = 11)) (by decide +kernel) (fun τ2 => ?_)
    refine sm_seg C [(.aload_n 0, 0), (.dup, 0)] (pc' := 28) (L' := [(0, .ref 0), (1, .int a1), (2, .int a2)]) (S' := [.ref 0, .ref 0]) (by decide +kernel) rfl ?_
    refine sm_getI 11 14 cls11 C (ltM (by decide +kernel : kdM 0 = 11) (by decide)) (by decide +kernel : kdM 0 = 11) (obM11 (by decide +kernel : kdM 0 = 11)) (by decide) (fiM11_14 (by decide +kernel : kdM 0 = 11)) fl11_211 (by decide +kernel) ?_
    refine sm_seg C [(.iconst 1, 1), (.iadd, 0)] (pc' := 33) (L' := [(0, .ref 0), (1, .int a1), (2, .int a2)]) (S' := [.int ((τ2 0 14) + 1), .ref 0]) (by decide +kernel) rfl ?_
    refine sm_pst 11 14 cls11 C (ltM (by decide +kernel : kdM 0 = 11) (by decide)) (by decide +kernel : kdM 0 = 11) (obM11 (by decide +kernel : kdM 0 = 11)) (by decide) (fiM11_14 (by decide +kernel : kdM 0 = 11)) rfl rfl rfl fl11_211 (by decide +kernel) (fun τ3 => ?_)
    exact sm_vret C hr (by decide +kernel)) h
/-! BasketEnvoysModel.unit -/
def X11_unit_j46 (F : Nat) (z0 : Int32) (τ : Tau) : Option (Int32 × Tau) :=
  cal (X11_lay F z0 (τ 0 20) τ) fun r3 τ4 => cal (X11_next0 F τ4) fun r5 τ6 => some (1, τ6)
theorem s_X11_unit_j46 (F : Nat) {K : Ctx} (C : Cx K sysM RX11 cX11_unit 2 10) (hr : Rt K (some .boolean)) (z0 : Int32) (τ : Tau) : Sm K sysM 2 (Qi K sysM) (X11_unit_j46 F z0 τ) 46 [(0, .ref 0)] [.int z0, .ref 0] τ := by
  unfold X11_unit_j46
  refine sm_seg C [(.aload_n 0, 0)] (pc' := 47) (L' := [(0, .ref 0)]) (S' := [.ref 0, .int z0, .ref 0]) (by decide +kernel) rfl ?_
  refine sm_getI 11 20 cls11 C (ltM (by decide +kernel : kdM 0 = 11) (by decide)) (by decide +kernel : kdM 0 = 11) (obM11 (by decide +kernel : kdM 0 = 11)) (by decide) (fiM11_20 (by decide +kernel : kdM 0 = 11)) fl11_196 (by decide +kernel) ?_
  refine sm_vcalv [.int z0, .int (τ 0 20)] [] rfl C mw_X11_lay ml_11_221 rfl (ci := 11) rfl (ltM (by decide +kernel : kdM 0 = 11) (by decide)) (by decide +kernel : kdM 0 = 11) (by decide) ⟨by decide, by decide⟩ (Nat.le_of_ble_eq_true rfl) (by decide +kernel) (c_X11_lay F z0 (τ 0 20) τ) (fun r3 τ4 => ?_)
  refine sm_seg C [(.aload_n 0, 0)] (pc' := 54) (L' := [(0, .ref 0)]) (S' := [.ref 0]) (by decide +kernel) rfl ?_
  refine sm_vcalv [] [] rfl C mw_X11_next0 ml_11_208 rfl (ci := 11) rfl (ltM (by decide +kernel : kdM 0 = 11) (by decide)) (by decide +kernel : kdM 0 = 11) (by decide) ⟨by decide, by decide⟩ (Nat.le_of_ble_eq_true rfl) (by decide +kernel) (c_X11_next0 F τ4) (fun r5 τ6 => ?_)
  refine sm_seg C [(.iconst 1, 1)] (pc' := 58) (L' := [(0, .ref 0)]) (S' := [.int 1]) (by decide +kernel) rfl ?_
  exact sm_iret C hr rfl (by decide +kernel)
def X11_unit_j30 (F : Nat) (a1 : Int32) (τ : Tau) : Option (Int32 × Tau) :=
  if a1 = 0 then (X11_unit_j46 F 0 τ) else (X11_unit_j46 F ((τ 0 18) - 40) τ)
theorem s_X11_unit_j30 (F : Nat) {K : Ctx} (C : Cx K sysM RX11 cX11_unit 2 10) (hr : Rt K (some .boolean)) (a1 : Int32) (τ : Tau) : Sm K sysM 2 (Qi K sysM) (X11_unit_j30 F a1 τ) 30 [(0, .ref 0), (1, .int a1)] [] τ := by
  unfold X11_unit_j30
  refine sm_seg C [(.aload_n 0, 0), (.iload_n 1, 0)] (pc' := 32) (L' := [(0, .ref 0), (1, .int a1)]) (S' := [.int a1, .ref 0]) (by decide +kernel) rfl ?_
  refine sm_ifeq 45 (off := 13) C (by decide +kernel) (by decide) (fun _ => ?_) (fun _ => ?_)
  · refine sm_seg C [(.iconst 0, 0)] (pc' := 46) (L' := [(0, .ref 0), (1, .int a1)]) (S' := [.int 0, .ref 0]) (by decide +kernel) rfl ?_
    exact sm_sub [0] rfl (s_X11_unit_j46 F C hr 0 τ)
  · refine sm_seg C [(.aload_n 0, 0)] (pc' := 36) (L' := [(0, .ref 0), (1, .int a1)]) (S' := [.ref 0, .ref 0]) (by decide +kernel) rfl ?_
    refine sm_getI 11 18 cls11 C (ltM (by decide +kernel : kdM 0 = 11) (by decide)) (by decide +kernel : kdM 0 = 11) (obM11 (by decide +kernel : kdM 0 = 11)) (by decide) (fiM11_18 (by decide +kernel : kdM 0 = 11)) fl11_184 (by decide +kernel) ?_
    refine sm_seg C [(.bipush 40, 40), (.isub, 0), (.goto 4, 0)] (pc' := 46) (L' := [(0, .ref 0), (1, .int a1)]) (S' := [.int ((τ 0 18) - 40), .ref 0]) (by decide +kernel) rfl ?_
    exact sm_sub [0] rfl (s_X11_unit_j46 F C hr ((τ 0 18) - 40) τ)
def X11_unit (F : Nat) (τ : Tau) : Option (Int32 × Tau) :=
  cal (X11_isIn F (τ 0 18) 41 50 τ) fun r1 τ2 => if (τ2 0 18) = 2 then (X11_unit_j30 F r1 τ2) else (if r1 = 0 then (cal (X11_bad F 1 τ2) fun r7 τ8 => some (vp_nar .boolean r7, τ8)) else (X11_unit_j30 F r1 τ2))
set_option maxRecDepth 20000 in
set_option maxHeartbeats 4000000 in
theorem c_X11_unit (F : Nat) (τ : Tau) (r : Int32) (τ' : Tau) (h : X11_unit F τ = some (r, τ')) : MCi sysM yX11_unit cX11_unit 2 (some .boolean) 10 [.ref 0] τ r τ' :=
  mci_of (by decide +kernel) (Nat.le_of_ble_eq_true rfl) (fun K C hr => by
    show Sm K sysM 2 (Qi K sysM) (X11_unit F τ) 0 [(0, .ref 0)] [] τ
    unfold X11_unit
    refine sm_seg C [(.aload_n 0, 0)] (pc' := 1) (L' := [(0, .ref 0)]) (S' := [.ref 0]) (by decide +kernel) rfl ?_
    refine sm_getI 11 18 cls11 C (ltM (by decide +kernel : kdM 0 = 11) (by decide)) (by decide +kernel : kdM 0 = 11) (obM11 (by decide +kernel : kdM 0 = 11)) (by decide) (fiM11_18 (by decide +kernel : kdM 0 = 11)) fl11_184 (by decide +kernel) ?_
    refine sm_seg C [(.bipush 41, 41), (.bipush 50, 50)] (pc' := 8) (L' := [(0, .ref 0)]) (S' := [.int 50, .int 41, .int (τ 0 18)]) (by decide +kernel) rfl ?_
    refine sm_scal [.int (τ 0 18), .int 41, .int 50] [] rfl C mw_X11_isIn ml_11_78 rfl ⟨by decide, by decide⟩ (Nat.le_of_ble_eq_true rfl) (by decide +kernel) (c_X11_isIn F (τ 0 18) 41 50 τ) (fun r1 τ2 => ?_)
    refine sm_seg C [(.istore_n 1, 0), (.aload_n 0, 0)] (pc' := 13) (L' := [(1, .int r1), (0, .ref 0)]) (S' := [.ref 0]) (by decide +kernel) rfl ?_
    refine sm_getI 11 18 cls11 C (ltM (by decide +kernel : kdM 0 = 11) (by decide)) (by decide +kernel : kdM 0 = 11) (obM11 (by decide +kernel : kdM 0 = 11)) (by decide) (fiM11_18 (by decide +kernel : kdM 0 = 11)) fl11_184 (by decide +kernel) ?_
    refine sm_seg C [(.iconst 2, 2)] (pc' := 17) (L' := [(1, .int r1), (0, .ref 0)]) (S' := [.int 2, .int (τ2 0 18)]) (by decide +kernel) rfl ?_
    refine sm_icmpeq 30 (off := 13) C (by decide +kernel) (by decide) (fun _ => ?_) (fun _ => ?_)
    · exact sm_sub [1, 0] rfl (s_X11_unit_j30 F C hr r1 τ2)
    · refine sm_seg C [(.iload_n 1, 0)] (pc' := 21) (L' := [(1, .int r1), (0, .ref 0)]) (S' := [.int r1]) (by decide +kernel) rfl ?_
      refine sm_ifne 30 (off := 9) C (by decide +kernel) (by decide) (fun _ => ?_) (fun _ => ?_)
      · refine sm_seg C [(.aload_n 0, 0), (.iconst 1, 1)] (pc' := 26) (L' := [(1, .int r1), (0, .ref 0)]) (S' := [.int 1, .ref 0]) (by decide +kernel) rfl ?_
        refine sm_vcal [.int 1] [] rfl C mw_X11_bad ml_11_205 rfl (ci := 11) rfl (ltM (by decide +kernel : kdM 0 = 11) (by decide)) (by decide +kernel : kdM 0 = 11) (by decide) ⟨by decide, by decide⟩ (Nat.le_of_ble_eq_true rfl) (by decide +kernel) (c_X11_bad F 1 τ2) (fun r7 τ8 => ?_)
        exact sm_iret C hr nar_boolean (by decide +kernel)
      · exact sm_sub [1, 0] rfl (s_X11_unit_j30 F C hr r1 τ2)) h
/-! BasketEnvoysModel.product -/
def X11_product_j112 (F : Nat) (self9 : Tau → Option (Int32 × Tau)) (τ : Tau) : Option (Int32 × Tau) :=
  self9 τ
theorem s_X11_product_j112 (F : Nat) {K : Ctx} (C : Cx K sysM RX11 cX11_product 3 11) (hr : Rt K (some .boolean)) (self9 : Tau → Option (Int32 × Tau)) (ih9 : ∀ (τ : Tau), Sm K sysM 3 (Qi K sysM) (self9 τ) 9 [(0, .ref 0)] [] τ) (τ : Tau) : Sm K sysM 3 (Qi K sysM) (X11_product_j112 F self9 τ) 112 [(0, .ref 0)] [] τ := by
  unfold X11_product_j112
  refine sm_seg C [(.goto (-103), 0)] (pc' := 9) (L' := [(0, .ref 0)]) (S' := []) (by decide +kernel) rfl ?_
  exact sm_sub [0] rfl (ih9 τ)
def X11_product_j44 (F : Nat) (self9 : Tau → Option (Int32 × Tau)) (z0 : Int32) (τ : Tau) : Option (Int32 × Tau) :=
  cal (X11_next0 F τ) fun r3 τ4 => if z0 = 0 then (cal (X11_unit F τ4) fun r5 τ6 => if r5 = 0 then (some (0, τ6)) else (cal (X11_lay F 25 0 τ6) fun r7 τ8 => X11_product_j112 F self9 τ8)) else (if (τ4 0 18) = 2 then (if (τ4 0 20) = 0 then (cal (X11_bad F 2 τ4) fun r9 τ10 => some (vp_nar .boolean r9, τ10)) else (cal (X11_next0 F τ4) fun r11 τ12 => cal (X11_lay F 26 (τ4 0 20) τ12) fun r13 τ14 => X11_product_j112 F self9 τ14)) else (cal (X11_bad F 1 τ4) fun r15 τ16 => some (vp_nar .boolean r15, τ16)))
theorem s_X11_product_j44 (F : Nat) {K : Ctx} (C : Cx K sysM RX11 cX11_product 3 11) (hr : Rt K (some .boolean)) (self9 : Tau → Option (Int32 × Tau)) (ih9 : ∀ (τ : Tau), Sm K sysM 3 (Qi K sysM) (self9 τ) 9 [(0, .ref 0)] [] τ) (z0 : Int32) (τ : Tau) : Sm K sysM 3 (Qi K sysM) (X11_product_j44 F self9 z0 τ) 44 [(0, .ref 0)] [.int z0] τ := by
  unfold X11_product_j44
  refine sm_seg C [(.istore_n 1, 0), (.aload_n 0, 0)] (pc' := 46) (L' := [(1, .int z0), (0, .ref 0)]) (S' := [.ref 0]) (by decide +kernel) rfl ?_
  refine sm_vcalv [] [] rfl C mw_X11_next0 ml_11_208 rfl (ci := 11) rfl (ltM (by decide +kernel : kdM 0 = 11) (by decide)) (by decide +kernel : kdM 0 = 11) (by decide) ⟨by decide, by decide⟩ (Nat.le_of_ble_eq_true rfl) (by decide +kernel) (c_X11_next0 F τ) (fun r3 τ4 => ?_)
  refine sm_seg C [(.iload_n 1, 0)] (pc' := 50) (L' := [(1, .int z0), (0, .ref 0)]) (S' := [.int z0]) (by decide +kernel) rfl ?_
  refine sm_ifeq 96 (off := 46) C (by decide +kernel) (by decide) (fun _ => ?_) (fun _ => ?_)
  · refine sm_seg C [(.aload_n 0, 0)] (pc' := 97) (L' := [(1, .int z0), (0, .ref 0)]) (S' := [.ref 0]) (by decide +kernel) rfl ?_
    refine sm_vcal [] [] rfl C mw_X11_unit ml_11_225 rfl (ci := 11) rfl (ltM (by decide +kernel : kdM 0 = 11) (by decide)) (by decide +kernel : kdM 0 = 11) (by decide) ⟨by decide, by decide⟩ (Nat.le_of_ble_eq_true rfl) (by decide +kernel) (c_X11_unit F τ4) (fun r5 τ6 => ?_)
    refine sm_ifne 105 (off := 5) C (by decide +kernel) (by decide) (fun _ => ?_) (fun _ => ?_)
    · refine sm_seg C [(.iconst 0, 0)] (pc' := 104) (L' := [(1, .int z0), (0, .ref 0)]) (S' := [.int 0]) (by decide +kernel) rfl ?_
      exact sm_iret C hr rfl (by decide +kernel)
    · refine sm_seg C [(.aload_n 0, 0), (.bipush 25, 25), (.iconst 0, 0)] (pc' := 109) (L' := [(1, .int z0), (0, .ref 0)]) (S' := [.int 0, .int 25, .ref 0]) (by decide +kernel) rfl ?_
      refine sm_vcalv [.int 25, .int 0] [] rfl C mw_X11_lay ml_11_221 rfl (ci := 11) rfl (ltM (by decide +kernel : kdM 0 = 11) (by decide)) (by decide +kernel : kdM 0 = 11) (by decide) ⟨by decide, by decide⟩ (Nat.le_of_ble_eq_true rfl) (by decide +kernel) (c_X11_lay F 25 0 τ6) (fun r7 τ8 => ?_)
      exact sm_sub [1] rfl (s_X11_product_j112 F C hr self9 ih9 τ8)
  · refine sm_seg C [(.aload_n 0, 0)] (pc' := 54) (L' := [(1, .int z0), (0, .ref 0)]) (S' := [.ref 0]) (by decide +kernel) rfl ?_
    refine sm_getI 11 20 cls11 C (ltM (by decide +kernel : kdM 0 = 11) (by decide)) (by decide +kernel : kdM 0 = 11) (obM11 (by decide +kernel : kdM 0 = 11)) (by decide) (fiM11_20 (by decide +kernel : kdM 0 = 11)) fl11_196 (by decide +kernel) ?_
    refine sm_seg C [(.istore_n 2, 0), (.aload_n 0, 0)] (pc' := 59) (L' := [(2, .int (τ4 0 20)), (1, .int z0), (0, .ref 0)]) (S' := [.ref 0]) (by decide +kernel) rfl ?_
    refine sm_getI 11 18 cls11 C (ltM (by decide +kernel : kdM 0 = 11) (by decide)) (by decide +kernel : kdM 0 = 11) (obM11 (by decide +kernel : kdM 0 = 11)) (by decide) (fiM11_18 (by decide +kernel : kdM 0 = 11)) fl11_184 (by decide +kernel) ?_
    refine sm_seg C [(.iconst 2, 2)] (pc' := 63) (L' := [(2, .int (τ4 0 20)), (1, .int z0), (0, .ref 0)]) (S' := [.int 2, .int (τ4 0 18)]) (by decide +kernel) rfl ?_
    refine sm_icmpeq 72 (off := 9) C (by decide +kernel) (by decide) (fun _ => ?_) (fun _ => ?_)
    · refine sm_seg C [(.iload_n 2, 0)] (pc' := 73) (L' := [(2, .int (τ4 0 20)), (1, .int z0), (0, .ref 0)]) (S' := [.int (τ4 0 20)]) (by decide +kernel) rfl ?_
      refine sm_ifne 82 (off := 9) C (by decide +kernel) (by decide) (fun _ => ?_) (fun _ => ?_)
      · refine sm_seg C [(.aload_n 0, 0), (.iconst 2, 2)] (pc' := 78) (L' := [(2, .int (τ4 0 20)), (1, .int z0), (0, .ref 0)]) (S' := [.int 2, .ref 0]) (by decide +kernel) rfl ?_
        refine sm_vcal [.int 2] [] rfl C mw_X11_bad ml_11_205 rfl (ci := 11) rfl (ltM (by decide +kernel : kdM 0 = 11) (by decide)) (by decide +kernel : kdM 0 = 11) (by decide) ⟨by decide, by decide⟩ (Nat.le_of_ble_eq_true rfl) (by decide +kernel) (c_X11_bad F 2 τ4) (fun r9 τ10 => ?_)
        exact sm_iret C hr nar_boolean (by decide +kernel)
      · refine sm_seg C [(.aload_n 0, 0)] (pc' := 83) (L' := [(2, .int (τ4 0 20)), (1, .int z0), (0, .ref 0)]) (S' := [.ref 0]) (by decide +kernel) rfl ?_
        refine sm_vcalv [] [] rfl C mw_X11_next0 ml_11_208 rfl (ci := 11) rfl (ltM (by decide +kernel : kdM 0 = 11) (by decide)) (by decide +kernel : kdM 0 = 11) (by decide) ⟨by decide, by decide⟩ (Nat.le_of_ble_eq_true rfl) (by decide +kernel) (c_X11_next0 F τ4) (fun r11 τ12 => ?_)
        refine sm_seg C [(.aload_n 0, 0), (.bipush 26, 26), (.iload_n 2, 0)] (pc' := 90) (L' := [(2, .int (τ4 0 20)), (1, .int z0), (0, .ref 0)]) (S' := [.int (τ4 0 20), .int 26, .ref 0]) (by decide +kernel) rfl ?_
        refine sm_vcalv [.int 26, .int (τ4 0 20)] [] rfl C mw_X11_lay ml_11_221 rfl (ci := 11) rfl (ltM (by decide +kernel : kdM 0 = 11) (by decide)) (by decide +kernel : kdM 0 = 11) (by decide) ⟨by decide, by decide⟩ (Nat.le_of_ble_eq_true rfl) (by decide +kernel) (c_X11_lay F 26 (τ4 0 20) τ12) (fun r13 τ14 => ?_)
        refine sm_seg C [(.goto 19, 0)] (pc' := 112) (L' := [(2, .int (τ4 0 20)), (1, .int z0), (0, .ref 0)]) (S' := []) (by decide +kernel) rfl ?_
        exact sm_sub [2] rfl (s_X11_product_j112 F C hr self9 ih9 τ14)
    · refine sm_seg C [(.aload_n 0, 0), (.iconst 1, 1)] (pc' := 68) (L' := [(2, .int (τ4 0 20)), (1, .int z0), (0, .ref 0)]) (S' := [.int 1, .ref 0]) (by decide +kernel) rfl ?_
      refine sm_vcal [.int 1] [] rfl C mw_X11_bad ml_11_205 rfl (ci := 11) rfl (ltM (by decide +kernel : kdM 0 = 11) (by decide)) (by decide +kernel : kdM 0 = 11) (by decide) ⟨by decide, by decide⟩ (Nat.le_of_ble_eq_true rfl) (by decide +kernel) (c_X11_bad F 1 τ4) (fun r15 τ16 => ?_)
      exact sm_iret C hr nar_boolean (by decide +kernel)
def X11_product_j29 (F : Nat) (self9 : Tau → Option (Int32 × Tau)) (τ : Tau) : Option (Int32 × Tau) :=
  if (τ 0 18) = 147 then (X11_product_j44 F self9 1 τ) else (X11_product_j44 F self9 0 τ)
theorem s_X11_product_j29 (F : Nat) {K : Ctx} (C : Cx K sysM RX11 cX11_product 3 11) (hr : Rt K (some .boolean)) (self9 : Tau → Option (Int32 × Tau)) (ih9 : ∀ (τ : Tau), Sm K sysM 3 (Qi K sysM) (self9 τ) 9 [(0, .ref 0)] [] τ) (τ : Tau) : Sm K sysM 3 (Qi K sysM) (X11_product_j29 F self9 τ) 29 [(0, .ref 0)] [] τ := by
  unfold X11_product_j29
  refine sm_seg C [(.aload_n 0, 0)] (pc' := 30) (L' := [(0, .ref 0)]) (S' := [.ref 0]) (by decide +kernel) rfl ?_
  refine sm_getI 11 18 cls11 C (ltM (by decide +kernel : kdM 0 = 11) (by decide)) (by decide +kernel : kdM 0 = 11) (obM11 (by decide +kernel : kdM 0 = 11)) (by decide) (fiM11_18 (by decide +kernel : kdM 0 = 11)) fl11_184 (by decide +kernel) ?_
  refine sm_seg C [(.sipush 147, 147)] (pc' := 36) (L' := [(0, .ref 0)]) (S' := [.int 147, .int (τ 0 18)]) (by decide +kernel) rfl ?_
  refine sm_icmpne 43 (off := 7) C (by decide +kernel) (by decide) (fun _ => ?_) (fun _ => ?_)
  · refine sm_seg C [(.iconst 1, 1), (.goto 4, 0)] (pc' := 44) (L' := [(0, .ref 0)]) (S' := [.int 1]) (by decide +kernel) rfl ?_
    exact sm_sub [0] rfl (s_X11_product_j44 F C hr self9 ih9 1 τ)
  · refine sm_seg C [(.iconst 0, 0)] (pc' := 44) (L' := [(0, .ref 0)]) (S' := [.int 0]) (by decide +kernel) rfl ?_
    exact sm_sub [0] rfl (s_X11_product_j44 F C hr self9 ih9 0 τ)
def X11_product_L9 (F : Nat) : Nat → Tau → Option (Int32 × Tau)
  | 0, _ => none
  | n + 1, τ =>
    if (τ 0 18) = 142 then (X11_product_j29 F (X11_product_L9 F n) τ) else (if (τ 0 18) = 147 then (X11_product_j29 F (X11_product_L9 F n) τ) else (some (1, τ)))
theorem s_X11_product_L9 (F : Nat) {K : Ctx} (C : Cx K sysM RX11 cX11_product 3 11) (hr : Rt K (some .boolean)) : ∀ (n : Nat) (τ : Tau), Sm K sysM 3 (Qi K sysM) (X11_product_L9 F n τ) 9 [(0, .ref 0)] [] τ := by
  intro n
  induction n with
  | zero => intro  τ; exact sm_none
  | succ n ih =>
    intro  τ
    rw [X11_product_L9]
    refine sm_seg C [(.aload_n 0, 0)] (pc' := 10) (L' := [(0, .ref 0)]) (S' := [.ref 0]) (by decide +kernel) rfl ?_
    refine sm_getI 11 18 cls11 C (ltM (by decide +kernel : kdM 0 = 11) (by decide)) (by decide +kernel : kdM 0 = 11) (obM11 (by decide +kernel : kdM 0 = 11)) (by decide) (fiM11_18 (by decide +kernel : kdM 0 = 11)) fl11_184 (by decide +kernel) ?_
    refine sm_seg C [(.sipush 142, 142)] (pc' := 16) (L' := [(0, .ref 0)]) (S' := [.int 142, .int (τ 0 18)]) (by decide +kernel) rfl ?_
    refine sm_icmpeq 29 (off := 13) C (by decide +kernel) (by decide) (fun _ => ?_) (fun _ => ?_)
    · exact sm_sub [0] rfl (s_X11_product_j29 F C hr (X11_product_L9 F n) ih τ)
    · refine sm_seg C [(.aload_n 0, 0)] (pc' := 20) (L' := [(0, .ref 0)]) (S' := [.ref 0]) (by decide +kernel) rfl ?_
      refine sm_getI 11 18 cls11 C (ltM (by decide +kernel : kdM 0 = 11) (by decide)) (by decide +kernel : kdM 0 = 11) (obM11 (by decide +kernel : kdM 0 = 11)) (by decide) (fiM11_18 (by decide +kernel : kdM 0 = 11)) fl11_184 (by decide +kernel) ?_
      refine sm_seg C [(.sipush 147, 147)] (pc' := 26) (L' := [(0, .ref 0)]) (S' := [.int 147, .int (τ 0 18)]) (by decide +kernel) rfl ?_
      refine sm_icmpne 115 (off := 89) C (by decide +kernel) (by decide) (fun _ => ?_) (fun _ => ?_)
      · exact sm_sub [0] rfl (s_X11_product_j29 F C hr (X11_product_L9 F n) ih τ)
      · refine sm_seg C [(.iconst 1, 1)] (pc' := 116) (L' := [(0, .ref 0)]) (S' := [.int 1]) (by decide +kernel) rfl ?_
        exact sm_iret C hr rfl (by decide +kernel)
def X11_product (F : Nat) (τ : Tau) : Option (Int32 × Tau) :=
  cal (X11_unit F τ) fun r1 τ2 => if r1 = 0 then (some (0, τ2)) else (X11_product_L9 F F τ2)
set_option maxRecDepth 20000 in
set_option maxHeartbeats 4000000 in
theorem c_X11_product (F : Nat) (τ : Tau) (r : Int32) (τ' : Tau) (h : X11_product F τ = some (r, τ')) : MCi sysM yX11_product cX11_product 3 (some .boolean) 11 [.ref 0] τ r τ' :=
  mci_of (by decide +kernel) (Nat.le_of_ble_eq_true rfl) (fun K C hr => by
    show Sm K sysM 3 (Qi K sysM) (X11_product F τ) 0 [(0, .ref 0)] [] τ
    unfold X11_product
    refine sm_seg C [(.aload_n 0, 0)] (pc' := 1) (L' := [(0, .ref 0)]) (S' := [.ref 0]) (by decide +kernel) rfl ?_
    refine sm_vcal [] [] rfl C mw_X11_unit ml_11_225 rfl (ci := 11) rfl (ltM (by decide +kernel : kdM 0 = 11) (by decide)) (by decide +kernel : kdM 0 = 11) (by decide) ⟨by decide, by decide⟩ (Nat.le_of_ble_eq_true rfl) (by decide +kernel) (c_X11_unit F τ) (fun r1 τ2 => ?_)
    refine sm_ifne 9 (off := 5) C (by decide +kernel) (by decide) (fun _ => ?_) (fun _ => ?_)
    · refine sm_seg C [(.iconst 0, 0)] (pc' := 8) (L' := [(0, .ref 0)]) (S' := [.int 0]) (by decide +kernel) rfl ?_
      exact sm_iret C hr rfl (by decide +kernel)
    · exact sm_sub [0] rfl (s_X11_product_L9 F C hr F τ2)) h
/-! BasketEnvoysModel.sumUp -/
def X11_sumUp_j46 (F : Nat) (self9 : Tau → Option (Int32 × Tau)) (z0 : Int32) (τ : Tau) : Option (Int32 × Tau) :=
  cal (X11_next0 F τ) fun r3 τ4 => cal (X11_product F τ4) fun r5 τ6 => if r5 = 0 then (some (0, τ6)) else (cal (X11_lay F z0 0 τ6) fun r7 τ8 => self9 τ8)
theorem s_X11_sumUp_j46 (F : Nat) {K : Ctx} (C : Cx K sysM RX11 cX11_sumUp 2 12) (hr : Rt K (some .boolean)) (self9 : Tau → Option (Int32 × Tau)) (ih9 : ∀ (τ : Tau), Sm K sysM 2 (Qi K sysM) (self9 τ) 9 [(0, .ref 0)] [] τ) (z0 : Int32) (τ : Tau) : Sm K sysM 2 (Qi K sysM) (X11_sumUp_j46 F self9 z0 τ) 46 [(0, .ref 0)] [.int z0] τ := by
  unfold X11_sumUp_j46
  refine sm_seg C [(.istore_n 1, 0), (.aload_n 0, 0)] (pc' := 48) (L' := [(1, .int z0), (0, .ref 0)]) (S' := [.ref 0]) (by decide +kernel) rfl ?_
  refine sm_vcalv [] [] rfl C mw_X11_next0 ml_11_208 rfl (ci := 11) rfl (ltM (by decide +kernel : kdM 0 = 11) (by decide)) (by decide +kernel : kdM 0 = 11) (by decide) ⟨by decide, by decide⟩ (Nat.le_of_ble_eq_true rfl) (by decide +kernel) (c_X11_next0 F τ) (fun r3 τ4 => ?_)
  refine sm_seg C [(.aload_n 0, 0)] (pc' := 52) (L' := [(1, .int z0), (0, .ref 0)]) (S' := [.ref 0]) (by decide +kernel) rfl ?_
  refine sm_vcal [] [] rfl C mw_X11_product ml_11_217 rfl (ci := 11) rfl (ltM (by decide +kernel : kdM 0 = 11) (by decide)) (by decide +kernel : kdM 0 = 11) (by decide) ⟨by decide, by decide⟩ (Nat.le_of_ble_eq_true rfl) (by decide +kernel) (c_X11_product F τ4) (fun r5 τ6 => ?_)
  refine sm_ifne 60 (off := 5) C (by decide +kernel) (by decide) (fun _ => ?_) (fun _ => ?_)
  · refine sm_seg C [(.iconst 0, 0)] (pc' := 59) (L' := [(1, .int z0), (0, .ref 0)]) (S' := [.int 0]) (by decide +kernel) rfl ?_
    exact sm_iret C hr rfl (by decide +kernel)
  · refine sm_seg C [(.aload_n 0, 0), (.iload_n 1, 0), (.iconst 0, 0)] (pc' := 63) (L' := [(1, .int z0), (0, .ref 0)]) (S' := [.int 0, .int z0, .ref 0]) (by decide +kernel) rfl ?_
    refine sm_vcalv [.int z0, .int 0] [] rfl C mw_X11_lay ml_11_221 rfl (ci := 11) rfl (ltM (by decide +kernel : kdM 0 = 11) (by decide)) (by decide +kernel : kdM 0 = 11) (by decide) ⟨by decide, by decide⟩ (Nat.le_of_ble_eq_true rfl) (by decide +kernel) (c_X11_lay F z0 0 τ6) (fun r7 τ8 => ?_)
    refine sm_seg C [(.goto (-57), 0)] (pc' := 9) (L' := [(1, .int z0), (0, .ref 0)]) (S' := []) (by decide +kernel) rfl ?_
    exact sm_sub [1] rfl (ih9 τ8)
def X11_sumUp_j29 (F : Nat) (self9 : Tau → Option (Int32 × Tau)) (τ : Tau) : Option (Int32 × Tau) :=
  if (τ 0 18) = 143 then (X11_sumUp_j46 F self9 23 τ) else (X11_sumUp_j46 F self9 24 τ)
theorem s_X11_sumUp_j29 (F : Nat) {K : Ctx} (C : Cx K sysM RX11 cX11_sumUp 2 12) (hr : Rt K (some .boolean)) (self9 : Tau → Option (Int32 × Tau)) (ih9 : ∀ (τ : Tau), Sm K sysM 2 (Qi K sysM) (self9 τ) 9 [(0, .ref 0)] [] τ) (τ : Tau) : Sm K sysM 2 (Qi K sysM) (X11_sumUp_j29 F self9 τ) 29 [(0, .ref 0)] [] τ := by
  unfold X11_sumUp_j29
  refine sm_seg C [(.aload_n 0, 0)] (pc' := 30) (L' := [(0, .ref 0)]) (S' := [.ref 0]) (by decide +kernel) rfl ?_
  refine sm_getI 11 18 cls11 C (ltM (by decide +kernel : kdM 0 = 11) (by decide)) (by decide +kernel : kdM 0 = 11) (obM11 (by decide +kernel : kdM 0 = 11)) (by decide) (fiM11_18 (by decide +kernel : kdM 0 = 11)) fl11_184 (by decide +kernel) ?_
  refine sm_seg C [(.sipush 143, 143)] (pc' := 36) (L' := [(0, .ref 0)]) (S' := [.int 143, .int (τ 0 18)]) (by decide +kernel) rfl ?_
  refine sm_icmpne 44 (off := 8) C (by decide +kernel) (by decide) (fun _ => ?_) (fun _ => ?_)
  · refine sm_seg C [(.bipush 23, 23), (.goto 5, 0)] (pc' := 46) (L' := [(0, .ref 0)]) (S' := [.int 23]) (by decide +kernel) rfl ?_
    exact sm_sub [0] rfl (s_X11_sumUp_j46 F C hr self9 ih9 23 τ)
  · refine sm_seg C [(.bipush 24, 24)] (pc' := 46) (L' := [(0, .ref 0)]) (S' := [.int 24]) (by decide +kernel) rfl ?_
    exact sm_sub [0] rfl (s_X11_sumUp_j46 F C hr self9 ih9 24 τ)
def X11_sumUp_L9 (F : Nat) : Nat → Tau → Option (Int32 × Tau)
  | 0, _ => none
  | n + 1, τ =>
    if (τ 0 18) = 143 then (X11_sumUp_j29 F (X11_sumUp_L9 F n) τ) else (if (τ 0 18) = 145 then (X11_sumUp_j29 F (X11_sumUp_L9 F n) τ) else (some (1, τ)))
theorem s_X11_sumUp_L9 (F : Nat) {K : Ctx} (C : Cx K sysM RX11 cX11_sumUp 2 12) (hr : Rt K (some .boolean)) : ∀ (n : Nat) (τ : Tau), Sm K sysM 2 (Qi K sysM) (X11_sumUp_L9 F n τ) 9 [(0, .ref 0)] [] τ := by
  intro n
  induction n with
  | zero => intro  τ; exact sm_none
  | succ n ih =>
    intro  τ
    rw [X11_sumUp_L9]
    refine sm_seg C [(.aload_n 0, 0)] (pc' := 10) (L' := [(0, .ref 0)]) (S' := [.ref 0]) (by decide +kernel) rfl ?_
    refine sm_getI 11 18 cls11 C (ltM (by decide +kernel : kdM 0 = 11) (by decide)) (by decide +kernel : kdM 0 = 11) (obM11 (by decide +kernel : kdM 0 = 11)) (by decide) (fiM11_18 (by decide +kernel : kdM 0 = 11)) fl11_184 (by decide +kernel) ?_
    refine sm_seg C [(.sipush 143, 143)] (pc' := 16) (L' := [(0, .ref 0)]) (S' := [.int 143, .int (τ 0 18)]) (by decide +kernel) rfl ?_
    refine sm_icmpeq 29 (off := 13) C (by decide +kernel) (by decide) (fun _ => ?_) (fun _ => ?_)
    · exact sm_sub [0] rfl (s_X11_sumUp_j29 F C hr (X11_sumUp_L9 F n) ih τ)
    · refine sm_seg C [(.aload_n 0, 0)] (pc' := 20) (L' := [(0, .ref 0)]) (S' := [.ref 0]) (by decide +kernel) rfl ?_
      refine sm_getI 11 18 cls11 C (ltM (by decide +kernel : kdM 0 = 11) (by decide)) (by decide +kernel : kdM 0 = 11) (obM11 (by decide +kernel : kdM 0 = 11)) (by decide) (fiM11_18 (by decide +kernel : kdM 0 = 11)) fl11_184 (by decide +kernel) ?_
      refine sm_seg C [(.sipush 145, 145)] (pc' := 26) (L' := [(0, .ref 0)]) (S' := [.int 145, .int (τ 0 18)]) (by decide +kernel) rfl ?_
      refine sm_icmpne 69 (off := 43) C (by decide +kernel) (by decide) (fun _ => ?_) (fun _ => ?_)
      · exact sm_sub [0] rfl (s_X11_sumUp_j29 F C hr (X11_sumUp_L9 F n) ih τ)
      · refine sm_seg C [(.iconst 1, 1)] (pc' := 70) (L' := [(0, .ref 0)]) (S' := [.int 1]) (by decide +kernel) rfl ?_
        exact sm_iret C hr rfl (by decide +kernel)
def X11_sumUp (F : Nat) (τ : Tau) : Option (Int32 × Tau) :=
  cal (X11_product F τ) fun r1 τ2 => if r1 = 0 then (some (0, τ2)) else (X11_sumUp_L9 F F τ2)
set_option maxRecDepth 20000 in
set_option maxHeartbeats 4000000 in
theorem c_X11_sumUp (F : Nat) (τ : Tau) (r : Int32) (τ' : Tau) (h : X11_sumUp F τ = some (r, τ')) : MCi sysM yX11_sumUp cX11_sumUp 2 (some .boolean) 12 [.ref 0] τ r τ' :=
  mci_of (by decide +kernel) (Nat.le_of_ble_eq_true rfl) (fun K C hr => by
    show Sm K sysM 2 (Qi K sysM) (X11_sumUp F τ) 0 [(0, .ref 0)] [] τ
    unfold X11_sumUp
    refine sm_seg C [(.aload_n 0, 0)] (pc' := 1) (L' := [(0, .ref 0)]) (S' := [.ref 0]) (by decide +kernel) rfl ?_
    refine sm_vcal [] [] rfl C mw_X11_product ml_11_217 rfl (ci := 11) rfl (ltM (by decide +kernel : kdM 0 = 11) (by decide)) (by decide +kernel : kdM 0 = 11) (by decide) ⟨by decide, by decide⟩ (Nat.le_of_ble_eq_true rfl) (by decide +kernel) (c_X11_product F τ) (fun r1 τ2 => ?_)
    refine sm_ifne 9 (off := 5) C (by decide +kernel) (by decide) (fun _ => ?_) (fun _ => ?_)
    · refine sm_seg C [(.iconst 0, 0)] (pc' := 8) (L' := [(0, .ref 0)]) (S' := [.int 0]) (by decide +kernel) rfl ?_
      exact sm_iret C hr rfl (by decide +kernel)
    · exact sm_sub [0] rfl (s_X11_sumUp_L9 F C hr F τ2)) h
/-! BasketEnvoysModel.opens -/
def X11_opens (F : Nat) (τ : Tau) : Option (Int32 × Tau) :=
  if (τ 0 24) = 8 then (cal (X11_bad F 3 τ) fun r1 τ2 => some (vp_nar .boolean r1, τ2)) else (pst τ 0 24 ((τ 0 24) + 1) fun τ3 => cal (X11_next0 F τ3) fun r4 τ5 => some (1, τ5))
set_option maxRecDepth 20000 in
set_option maxHeartbeats 4000000 in
theorem c_X11_opens (F : Nat) (τ : Tau) (r : Int32) (τ' : Tau) (h : X11_opens F τ = some (r, τ')) : MCi sysM yX11_opens cX11_opens 1 (some .boolean) 10 [.ref 0] τ r τ' :=
  mci_of (by decide +kernel) (Nat.le_of_ble_eq_true rfl) (fun K C hr => by
    show Sm K sysM 1 (Qi K sysM) (X11_opens F τ) 0 [(0, .ref 0)] [] τ
    unfold X11_opens
    refine sm_seg C [(.aload_n 0, 0)] (pc' := 1) (L' := [(0, .ref 0)]) (S' := [.ref 0]) (by decide +kernel) rfl ?_
    refine sm_getI 11 24 cls11 C (ltM (by decide +kernel : kdM 0 = 11) (by decide)) (by decide +kernel : kdM 0 = 11) (obM11 (by decide +kernel : kdM 0 = 11)) (by decide) (fiM11_24 (by decide +kernel : kdM 0 = 11)) fl11_214 (by decide +kernel) ?_
    refine sm_seg C [(.bipush 8, 8)] (pc' := 6) (L' := [(0, .ref 0)]) (S' := [.int 8, .int (τ 0 24)]) (by decide +kernel) rfl ?_
    refine sm_icmpne 15 (off := 9) C (by decide +kernel) (by decide) (fun _ => ?_) (fun _ => ?_)
    · refine sm_seg C [(.aload_n 0, 0), (.iconst 3, 3)] (pc' := 11) (L' := [(0, .ref 0)]) (S' := [.int 3, .ref 0]) (by decide +kernel) rfl ?_
      refine sm_vcal [.int 3] [] rfl C mw_X11_bad ml_11_205 rfl (ci := 11) rfl (ltM (by decide +kernel : kdM 0 = 11) (by decide)) (by decide +kernel : kdM 0 = 11) (by decide) ⟨by decide, by decide⟩ (Nat.le_of_ble_eq_true rfl) (by decide +kernel) (c_X11_bad F 3 τ) (fun r1 τ2 => ?_)
      exact sm_iret C hr nar_boolean (by decide +kernel)
    · refine sm_seg C [(.aload_n 0, 0), (.dup, 0)] (pc' := 17) (L' := [(0, .ref 0)]) (S' := [.ref 0, .ref 0]) (by decide +kernel) rfl ?_
      refine sm_getI 11 24 cls11 C (ltM (by decide +kernel : kdM 0 = 11) (by decide)) (by decide +kernel : kdM 0 = 11) (obM11 (by decide +kernel : kdM 0 = 11)) (by decide) (fiM11_24 (by decide +kernel : kdM 0 = 11)) fl11_214 (by decide +kernel) ?_
      refine sm_seg C [(.iconst 1, 1), (.iadd, 0)] (pc' := 22) (L' := [(0, .ref 0)]) (S' := [.int ((τ 0 24) + 1), .ref 0]) (by decide +kernel) rfl ?_
      refine sm_pst 11 24 cls11 C (ltM (by decide +kernel : kdM 0 = 11) (by decide)) (by decide +kernel : kdM 0 = 11) (obM11 (by decide +kernel : kdM 0 = 11)) (by decide) (fiM11_24 (by decide +kernel : kdM 0 = 11)) rfl rfl rfl fl11_214 (by decide +kernel) (fun τ3 => ?_)
      refine sm_seg C [(.aload_n 0, 0)] (pc' := 26) (L' := [(0, .ref 0)]) (S' := [.ref 0]) (by decide +kernel) rfl ?_
      refine sm_vcalv [] [] rfl C mw_X11_next0 ml_11_208 rfl (ci := 11) rfl (ltM (by decide +kernel : kdM 0 = 11) (by decide)) (by decide +kernel : kdM 0 = 11) (by decide) ⟨by decide, by decide⟩ (Nat.le_of_ble_eq_true rfl) (by decide +kernel) (c_X11_next0 F τ3) (fun r4 τ5 => ?_)
      refine sm_seg C [(.iconst 1, 1)] (pc' := 30) (L' := [(0, .ref 0)]) (S' := [.int 1]) (by decide +kernel) rfl ?_
      exact sm_iret C hr rfl (by decide +kernel)) h
/-! BasketEnvoysModel.every -/
def X11_every_L9 (F : Nat) (rc : Tau → Option (Int32 × Tau)) : Nat → Tau → Option (Int32 × Tau)
  | 0, _ => none
  | n + 1, τ =>
    if (τ 0 18) = 5 then (cal (X11_next0 F τ) fun r3 τ4 => cal (rc τ4) fun r5 τ6 => if r5 = 0 then (some (0, τ6)) else (cal (X11_lay F 31 0 τ6) fun r7 τ8 => X11_every_L9 F rc n τ8)) else (some (1, τ))
theorem s_X11_every_L9 (F : Nat) (rc : Tau → Option (Int32 × Tau)) (db : Nat) (hb : 12 ≤ db) (hrc : ∀  (τ : Tau) (r : Int32) (τ' : Tau), rc  τ = some (r, τ') → MCi sysM yX11_oneTest cX11_oneTest 2 (some .boolean) db [.ref 0] τ r τ') {K : Ctx} (C : Cx K sysM RX11 cX11_every 1 (db + 1)) (hr : Rt K (some .boolean)) : ∀ (n : Nat) (τ : Tau), Sm K sysM 1 (Qi K sysM) (X11_every_L9 F rc n τ) 9 [(0, .ref 0)] [] τ := by
  intro n
  induction n with
  | zero => intro  τ; exact sm_none
  | succ n ih =>
    intro  τ
    rw [X11_every_L9]
    refine sm_seg C [(.aload_n 0, 0)] (pc' := 10) (L' := [(0, .ref 0)]) (S' := [.ref 0]) (by decide +kernel) rfl ?_
    refine sm_getI 11 18 cls11 C (ltM (by decide +kernel : kdM 0 = 11) (by decide)) (by decide +kernel : kdM 0 = 11) (obM11 (by decide +kernel : kdM 0 = 11)) (by decide) (fiM11_18 (by decide +kernel : kdM 0 = 11)) fl11_184 (by decide +kernel) ?_
    refine sm_seg C [(.iconst 5, 5)] (pc' := 14) (L' := [(0, .ref 0)]) (S' := [.int 5, .int (τ 0 18)]) (by decide +kernel) rfl ?_
    refine sm_icmpne 40 (off := 26) C (by decide +kernel) (by decide) (fun _ => ?_) (fun _ => ?_)
    · refine sm_seg C [(.aload_n 0, 0)] (pc' := 18) (L' := [(0, .ref 0)]) (S' := [.ref 0]) (by decide +kernel) rfl ?_
      refine sm_vcalv [] [] rfl C mw_X11_next0 ml_11_208 rfl (ci := 11) rfl (ltM (by decide +kernel : kdM 0 = 11) (by decide)) (by decide +kernel : kdM 0 = 11) (by decide) ⟨by omega, by omega⟩ (Nat.le_of_ble_eq_true rfl) (by decide +kernel) (c_X11_next0 F τ) (fun r3 τ4 => ?_)
      refine sm_seg C [(.aload_n 0, 0)] (pc' := 22) (L' := [(0, .ref 0)]) (S' := [.ref 0]) (by decide +kernel) rfl ?_
      refine sm_vcal [] [] rfl C mw_X11_oneTest ml_11_231 rfl (ci := 11) rfl (ltM (by decide +kernel : kdM 0 = 11) (by decide)) (by decide +kernel : kdM 0 = 11) (by decide) ⟨by omega, by omega⟩ (Nat.le_of_ble_eq_true rfl) (by decide +kernel) (hrc τ4) (fun r5 τ6 => ?_)
      refine sm_ifne 30 (off := 5) C (by decide +kernel) (by decide) (fun _ => ?_) (fun _ => ?_)
      · refine sm_seg C [(.iconst 0, 0)] (pc' := 29) (L' := [(0, .ref 0)]) (S' := [.int 0]) (by decide +kernel) rfl ?_
        exact sm_iret C hr rfl (by decide +kernel)
      · refine sm_seg C [(.aload_n 0, 0), (.bipush 31, 31), (.iconst 0, 0)] (pc' := 34) (L' := [(0, .ref 0)]) (S' := [.int 0, .int 31, .ref 0]) (by decide +kernel) rfl ?_
        refine sm_vcalv [.int 31, .int 0] [] rfl C mw_X11_lay ml_11_221 rfl (ci := 11) rfl (ltM (by decide +kernel : kdM 0 = 11) (by decide)) (by decide +kernel : kdM 0 = 11) (by decide) ⟨by omega, by omega⟩ (Nat.le_of_ble_eq_true rfl) (by decide +kernel) (c_X11_lay F 31 0 τ6) (fun r7 τ8 => ?_)
        refine sm_seg C [(.goto (-28), 0)] (pc' := 9) (L' := [(0, .ref 0)]) (S' := []) (by decide +kernel) rfl ?_
        exact sm_sub [0] rfl (ih τ8)
    · refine sm_seg C [(.iconst 1, 1)] (pc' := 41) (L' := [(0, .ref 0)]) (S' := [.int 1]) (by decide +kernel) rfl ?_
      exact sm_iret C hr rfl (by decide +kernel)
def X11_every (F : Nat) (rc : Tau → Option (Int32 × Tau)) (τ : Tau) : Option (Int32 × Tau) :=
  cal (rc τ) fun r1 τ2 => if r1 = 0 then (some (0, τ2)) else (X11_every_L9 F rc F τ2)
set_option maxRecDepth 20000 in
set_option maxHeartbeats 4000000 in
theorem c_X11_every (F : Nat) (rc : Tau → Option (Int32 × Tau)) (db : Nat) (hb : 12 ≤ db) (hrc : ∀  (τ : Tau) (r : Int32) (τ' : Tau), rc  τ = some (r, τ') → MCi sysM yX11_oneTest cX11_oneTest 2 (some .boolean) db [.ref 0] τ r τ') (τ : Tau) (r : Int32) (τ' : Tau) (h : X11_every F rc τ = some (r, τ')) : MCi sysM yX11_every cX11_every 1 (some .boolean) (db + 1) [.ref 0] τ r τ' :=
  mci_of (by decide +kernel) (Nat.le_of_ble_eq_true rfl) (fun K C hr => by
    show Sm K sysM 1 (Qi K sysM) (X11_every F rc τ) 0 [(0, .ref 0)] [] τ
    unfold X11_every
    refine sm_seg C [(.aload_n 0, 0)] (pc' := 1) (L' := [(0, .ref 0)]) (S' := [.ref 0]) (by decide +kernel) rfl ?_
    refine sm_vcal [] [] rfl C mw_X11_oneTest ml_11_231 rfl (ci := 11) rfl (ltM (by decide +kernel : kdM 0 = 11) (by decide)) (by decide +kernel : kdM 0 = 11) (by decide) ⟨by omega, by omega⟩ (Nat.le_of_ble_eq_true rfl) (by decide +kernel) (hrc τ) (fun r1 τ2 => ?_)
    refine sm_ifne 9 (off := 5) C (by decide +kernel) (by decide) (fun _ => ?_) (fun _ => ?_)
    · refine sm_seg C [(.iconst 0, 0)] (pc' := 8) (L' := [(0, .ref 0)]) (S' := [.int 0]) (by decide +kernel) rfl ?_
      exact sm_iret C hr rfl (by decide +kernel)
    · exact sm_sub [0] rfl (s_X11_every_L9 F rc db hb hrc C hr F τ2)) h
/-! BasketEnvoysModel.any -/
def X11_any_L9 (F : Nat) (rc : Tau → Option (Int32 × Tau)) : Nat → Tau → Option (Int32 × Tau)
  | 0, _ => none
  | n + 1, τ =>
    if (τ 0 18) = 4 then (cal (X11_next0 F τ) fun r3 τ4 => cal (X11_every F rc τ4) fun r5 τ6 => if r5 = 0 then (some (0, τ6)) else (cal (X11_lay F 32 0 τ6) fun r7 τ8 => X11_any_L9 F rc n τ8)) else (some (1, τ))
theorem s_X11_any_L9 (F : Nat) (rc : Tau → Option (Int32 × Tau)) (db : Nat) (hb : 12 ≤ db) (hrc : ∀  (τ : Tau) (r : Int32) (τ' : Tau), rc  τ = some (r, τ') → MCi sysM yX11_oneTest cX11_oneTest 2 (some .boolean) db [.ref 0] τ r τ') {K : Ctx} (C : Cx K sysM RX11 cX11_any 1 (db + 2)) (hr : Rt K (some .boolean)) : ∀ (n : Nat) (τ : Tau), Sm K sysM 1 (Qi K sysM) (X11_any_L9 F rc n τ) 9 [(0, .ref 0)] [] τ := by
  intro n
  induction n with
  | zero => intro  τ; exact sm_none
  | succ n ih =>
    intro  τ
    rw [X11_any_L9]
    refine sm_seg C [(.aload_n 0, 0)] (pc' := 10) (L' := [(0, .ref 0)]) (S' := [.ref 0]) (by decide +kernel) rfl ?_
    refine sm_getI 11 18 cls11 C (ltM (by decide +kernel : kdM 0 = 11) (by decide)) (by decide +kernel : kdM 0 = 11) (obM11 (by decide +kernel : kdM 0 = 11)) (by decide) (fiM11_18 (by decide +kernel : kdM 0 = 11)) fl11_184 (by decide +kernel) ?_
    refine sm_seg C [(.iconst 4, 4)] (pc' := 14) (L' := [(0, .ref 0)]) (S' := [.int 4, .int (τ 0 18)]) (by decide +kernel) rfl ?_
    refine sm_icmpne 40 (off := 26) C (by decide +kernel) (by decide) (fun _ => ?_) (fun _ => ?_)
    · refine sm_seg C [(.aload_n 0, 0)] (pc' := 18) (L' := [(0, .ref 0)]) (S' := [.ref 0]) (by decide +kernel) rfl ?_
      refine sm_vcalv [] [] rfl C mw_X11_next0 ml_11_208 rfl (ci := 11) rfl (ltM (by decide +kernel : kdM 0 = 11) (by decide)) (by decide +kernel : kdM 0 = 11) (by decide) ⟨by omega, by omega⟩ (Nat.le_of_ble_eq_true rfl) (by decide +kernel) (c_X11_next0 F τ) (fun r3 τ4 => ?_)
      refine sm_seg C [(.aload_n 0, 0)] (pc' := 22) (L' := [(0, .ref 0)]) (S' := [.ref 0]) (by decide +kernel) rfl ?_
      refine sm_vcal [] [] rfl C mw_X11_every ml_11_228 rfl (ci := 11) rfl (ltM (by decide +kernel : kdM 0 = 11) (by decide)) (by decide +kernel : kdM 0 = 11) (by decide) ⟨by omega, by omega⟩ (Nat.le_of_ble_eq_true rfl) (by decide +kernel) (c_X11_every F rc db hb hrc τ4) (fun r5 τ6 => ?_)
      refine sm_ifne 30 (off := 5) C (by decide +kernel) (by decide) (fun _ => ?_) (fun _ => ?_)
      · refine sm_seg C [(.iconst 0, 0)] (pc' := 29) (L' := [(0, .ref 0)]) (S' := [.int 0]) (by decide +kernel) rfl ?_
        exact sm_iret C hr rfl (by decide +kernel)
      · refine sm_seg C [(.aload_n 0, 0), (.bipush 32, 32), (.iconst 0, 0)] (pc' := 34) (L' := [(0, .ref 0)]) (S' := [.int 0, .int 32, .ref 0]) (by decide +kernel) rfl ?_
        refine sm_vcalv [.int 32, .int 0] [] rfl C mw_X11_lay ml_11_221 rfl (ci := 11) rfl (ltM (by decide +kernel : kdM 0 = 11) (by decide)) (by decide +kernel : kdM 0 = 11) (by decide) ⟨by omega, by omega⟩ (Nat.le_of_ble_eq_true rfl) (by decide +kernel) (c_X11_lay F 32 0 τ6) (fun r7 τ8 => ?_)
        refine sm_seg C [(.goto (-28), 0)] (pc' := 9) (L' := [(0, .ref 0)]) (S' := []) (by decide +kernel) rfl ?_
        exact sm_sub [0] rfl (ih τ8)
    · refine sm_seg C [(.iconst 1, 1)] (pc' := 41) (L' := [(0, .ref 0)]) (S' := [.int 1]) (by decide +kernel) rfl ?_
      exact sm_iret C hr rfl (by decide +kernel)
def X11_any (F : Nat) (rc : Tau → Option (Int32 × Tau)) (τ : Tau) : Option (Int32 × Tau) :=
  cal (X11_every F rc τ) fun r1 τ2 => if r1 = 0 then (some (0, τ2)) else (X11_any_L9 F rc F τ2)
set_option maxRecDepth 20000 in
set_option maxHeartbeats 4000000 in
theorem c_X11_any (F : Nat) (rc : Tau → Option (Int32 × Tau)) (db : Nat) (hb : 12 ≤ db) (hrc : ∀  (τ : Tau) (r : Int32) (τ' : Tau), rc  τ = some (r, τ') → MCi sysM yX11_oneTest cX11_oneTest 2 (some .boolean) db [.ref 0] τ r τ') (τ : Tau) (r : Int32) (τ' : Tau) (h : X11_any F rc τ = some (r, τ')) : MCi sysM yX11_any cX11_any 1 (some .boolean) (db + 2) [.ref 0] τ r τ' :=
  mci_of (by decide +kernel) (Nat.le_of_ble_eq_true rfl) (fun K C hr => by
    show Sm K sysM 1 (Qi K sysM) (X11_any F rc τ) 0 [(0, .ref 0)] [] τ
    unfold X11_any
    refine sm_seg C [(.aload_n 0, 0)] (pc' := 1) (L' := [(0, .ref 0)]) (S' := [.ref 0]) (by decide +kernel) rfl ?_
    refine sm_vcal [] [] rfl C mw_X11_every ml_11_228 rfl (ci := 11) rfl (ltM (by decide +kernel : kdM 0 = 11) (by decide)) (by decide +kernel : kdM 0 = 11) (by decide) ⟨by omega, by omega⟩ (Nat.le_of_ble_eq_true rfl) (by decide +kernel) (c_X11_every F rc db hb hrc τ) (fun r1 τ2 => ?_)
    refine sm_ifne 9 (off := 5) C (by decide +kernel) (by decide) (fun _ => ?_) (fun _ => ?_)
    · refine sm_seg C [(.iconst 0, 0)] (pc' := 8) (L' := [(0, .ref 0)]) (S' := [.int 0]) (by decide +kernel) rfl ?_
      exact sm_iret C hr rfl (by decide +kernel)
    · exact sm_sub [0] rfl (s_X11_any_L9 F rc db hb hrc C hr F τ2)) h
/-! BasketEnvoysModel.oneTest -/
def X11_oneTest_j147 (F : Nat) (rc : Tau → Option (Int32 × Tau)) (z0 : Int32) (τ : Tau) : Option (Int32 × Tau) :=
  if z0 = (-1) then (cal (X11_bad F 1 τ) fun r17 τ18 => some (vp_nar .boolean r17, τ18)) else (cal (X11_next0 F τ) fun r19 τ20 => cal (X11_sumUp F τ20) fun r21 τ22 => if r21 = 0 then (some (0, τ22)) else (cal (X11_lay F z0 0 τ22) fun r23 τ24 => some (1, τ24)))
theorem s_X11_oneTest_j147 (F : Nat) (rc : Tau → Option (Int32 × Tau)) (db : Nat) (hb : 12 ≤ db) (hrc : ∀  (τ : Tau) (r : Int32) (τ' : Tau), rc  τ = some (r, τ') → MCi sysM yX11_oneTest cX11_oneTest 2 (some .boolean) db [.ref 0] τ r τ') {K : Ctx} (C : Cx K sysM RX11 cX11_oneTest 2 (db + 3)) (hr : Rt K (some .boolean)) (z0 : Int32) (τ : Tau) : Sm K sysM 2 (Qi K sysM) (X11_oneTest_j147 F rc z0 τ) 147 [(0, .ref 0)] [.int z0] τ := by
  unfold X11_oneTest_j147
  refine sm_seg C [(.istore_n 1, 0), (.iload_n 1, 0), (.iconst (-1), (-1))] (pc' := 150) (L' := [(1, .int z0), (0, .ref 0)]) (S' := [.int (-1), .int z0]) (by decide +kernel) rfl ?_
  refine sm_icmpne 159 (off := 9) C (by decide +kernel) (by decide) (fun _ => ?_) (fun _ => ?_)
  · refine sm_seg C [(.aload_n 0, 0), (.iconst 1, 1)] (pc' := 155) (L' := [(1, .int z0), (0, .ref 0)]) (S' := [.int 1, .ref 0]) (by decide +kernel) rfl ?_
    refine sm_vcal [.int 1] [] rfl C mw_X11_bad ml_11_205 rfl (ci := 11) rfl (ltM (by decide +kernel : kdM 0 = 11) (by decide)) (by decide +kernel : kdM 0 = 11) (by decide) ⟨by omega, by omega⟩ (Nat.le_of_ble_eq_true rfl) (by decide +kernel) (c_X11_bad F 1 τ) (fun r17 τ18 => ?_)
    exact sm_iret C hr nar_boolean (by decide +kernel)
  · refine sm_seg C [(.aload_n 0, 0)] (pc' := 160) (L' := [(1, .int z0), (0, .ref 0)]) (S' := [.ref 0]) (by decide +kernel) rfl ?_
    refine sm_vcalv [] [] rfl C mw_X11_next0 ml_11_208 rfl (ci := 11) rfl (ltM (by decide +kernel : kdM 0 = 11) (by decide)) (by decide +kernel : kdM 0 = 11) (by decide) ⟨by omega, by omega⟩ (Nat.le_of_ble_eq_true rfl) (by decide +kernel) (c_X11_next0 F τ) (fun r19 τ20 => ?_)
    refine sm_seg C [(.aload_n 0, 0)] (pc' := 164) (L' := [(1, .int z0), (0, .ref 0)]) (S' := [.ref 0]) (by decide +kernel) rfl ?_
    refine sm_vcal [] [] rfl C mw_X11_sumUp ml_11_243 rfl (ci := 11) rfl (ltM (by decide +kernel : kdM 0 = 11) (by decide)) (by decide +kernel : kdM 0 = 11) (by decide) ⟨by omega, by omega⟩ (Nat.le_of_ble_eq_true rfl) (by decide +kernel) (c_X11_sumUp F τ20) (fun r21 τ22 => ?_)
    refine sm_ifne 172 (off := 5) C (by decide +kernel) (by decide) (fun _ => ?_) (fun _ => ?_)
    · refine sm_seg C [(.iconst 0, 0)] (pc' := 171) (L' := [(1, .int z0), (0, .ref 0)]) (S' := [.int 0]) (by decide +kernel) rfl ?_
      exact sm_iret C hr rfl (by decide +kernel)
    · refine sm_seg C [(.aload_n 0, 0), (.iload_n 1, 0), (.iconst 0, 0)] (pc' := 175) (L' := [(1, .int z0), (0, .ref 0)]) (S' := [.int 0, .int z0, .ref 0]) (by decide +kernel) rfl ?_
      refine sm_vcalv [.int z0, .int 0] [] rfl C mw_X11_lay ml_11_221 rfl (ci := 11) rfl (ltM (by decide +kernel : kdM 0 = 11) (by decide)) (by decide +kernel : kdM 0 = 11) (by decide) ⟨by omega, by omega⟩ (Nat.le_of_ble_eq_true rfl) (by decide +kernel) (c_X11_lay F z0 0 τ22) (fun r23 τ24 => ?_)
      refine sm_seg C [(.iconst 1, 1)] (pc' := 179) (L' := [(1, .int z0), (0, .ref 0)]) (S' := [.int 1]) (by decide +kernel) rfl ?_
      exact sm_iret C hr rfl (by decide +kernel)
def X11_oneTest_B (F : Nat) (rc : Tau → Option (Int32 × Tau)) (τ : Tau) : Option (Int32 × Tau) :=
  if (τ 0 18) = 6 then (cal (X11_opens F τ) fun r1 τ2 => if r1 = 0 then (some (0, τ2)) else (cal (rc τ2) fun r3 τ4 => if r3 = 0 then (some (0, τ4)) else (pst τ4 0 24 ((τ4 0 24) - 1) fun τ5 => cal (X11_lay F 30 0 τ5) fun r6 τ7 => some (1, τ7)))) else (if (τ 0 18) = 140 then (cal (X11_opens F τ) fun r8 τ9 => if r8 = 0 then (some (0, τ9)) else (cal (X11_any F rc τ9) fun r10 τ11 => if r10 = 0 then (some (0, τ11)) else (cal (X11_need F 141 τ11) fun r12 τ13 => if r12 = 0 then (some (0, τ13)) else (pst τ13 0 24 ((τ13 0 24) - 1) fun τ14 => some (1, τ14))))) else (cal (X11_sumUp F τ) fun r15 τ16 => if r15 = 0 then (some (0, τ16)) else (if (τ16 0 18) = 160 then (X11_oneTest_j147 F rc 27 τ16) else (if (τ16 0 18) = 161 then (X11_oneTest_j147 F rc 28 τ16) else (if (τ16 0 18) = 162 then (X11_oneTest_j147 F rc 29 τ16) else (X11_oneTest_j147 F rc (-1) τ16))))))
set_option maxRecDepth 20000 in
set_option maxHeartbeats 4000000 in
theorem c_X11_oneTest_B (F : Nat) (rc : Tau → Option (Int32 × Tau)) (db : Nat) (hb : 12 ≤ db) (hrc : ∀  (τ : Tau) (r : Int32) (τ' : Tau), rc  τ = some (r, τ') → MCi sysM yX11_oneTest cX11_oneTest 2 (some .boolean) db [.ref 0] τ r τ') (τ : Tau) (r : Int32) (τ' : Tau) (h : X11_oneTest_B F rc τ = some (r, τ')) : MCi sysM yX11_oneTest cX11_oneTest 2 (some .boolean) (db + 3) [.ref 0] τ r τ' :=
  mci_of (by decide +kernel) (Nat.le_of_ble_eq_true rfl) (fun K C hr => by
    show Sm K sysM 2 (Qi K sysM) (X11_oneTest_B F rc τ) 0 [(0, .ref 0)] [] τ
    unfold X11_oneTest_B
    refine sm_seg C [(.aload_n 0, 0)] (pc' := 1) (L' := [(0, .ref 0)]) (S' := [.ref 0]) (by decide +kernel) rfl ?_
    refine sm_getI 11 18 cls11 C (ltM (by decide +kernel : kdM 0 = 11) (by decide)) (by decide +kernel : kdM 0 = 11) (obM11 (by decide +kernel : kdM 0 = 11)) (by decide) (fiM11_18 (by decide +kernel : kdM 0 = 11)) fl11_184 (by decide +kernel) ?_
    refine sm_seg C [(.bipush 6, 6)] (pc' := 6) (L' := [(0, .ref 0)]) (S' := [.int 6, .int (τ 0 18)]) (by decide +kernel) rfl ?_
    refine sm_icmpne 44 (off := 38) C (by decide +kernel) (by decide) (fun _ => ?_) (fun _ => ?_)
    · refine sm_seg C [(.aload_n 0, 0)] (pc' := 10) (L' := [(0, .ref 0)]) (S' := [.ref 0]) (by decide +kernel) rfl ?_
      refine sm_vcal [] [] rfl C mw_X11_opens ml_11_234 rfl (ci := 11) rfl (ltM (by decide +kernel : kdM 0 = 11) (by decide)) (by decide +kernel : kdM 0 = 11) (by decide) ⟨by omega, by omega⟩ (Nat.le_of_ble_eq_true rfl) (by decide +kernel) (c_X11_opens F τ) (fun r1 τ2 => ?_)
      refine sm_ifeq 23 (off := 10) C (by decide +kernel) (by decide) (fun _ => ?_) (fun _ => ?_)
      · refine sm_seg C [(.iconst 0, 0)] (pc' := 24) (L' := [(0, .ref 0)]) (S' := [.int 0]) (by decide +kernel) rfl ?_
        exact sm_iret C hr rfl (by decide +kernel)
      · refine sm_seg C [(.aload_n 0, 0)] (pc' := 17) (L' := [(0, .ref 0)]) (S' := [.ref 0]) (by decide +kernel) rfl ?_
        refine sm_vcal [] [] rfl C mw_X11_oneTest ml_11_231 rfl (ci := 11) rfl (ltM (by decide +kernel : kdM 0 = 11) (by decide)) (by decide +kernel : kdM 0 = 11) (by decide) ⟨by omega, by omega⟩ (Nat.le_of_ble_eq_true rfl) (by decide +kernel) (hrc τ2) (fun r3 τ4 => ?_)
        refine sm_ifne 25 (off := 5) C (by decide +kernel) (by decide) (fun _ => ?_) (fun _ => ?_)
        · refine sm_seg C [(.iconst 0, 0)] (pc' := 24) (L' := [(0, .ref 0)]) (S' := [.int 0]) (by decide +kernel) rfl ?_
          exact sm_iret C hr rfl (by decide +kernel)
        · refine sm_seg C [(.aload_n 0, 0), (.dup, 0)] (pc' := 27) (L' := [(0, .ref 0)]) (S' := [.ref 0, .ref 0]) (by decide +kernel) rfl ?_
          refine sm_getI 11 24 cls11 C (ltM (by decide +kernel : kdM 0 = 11) (by decide)) (by decide +kernel : kdM 0 = 11) (obM11 (by decide +kernel : kdM 0 = 11)) (by decide) (fiM11_24 (by decide +kernel : kdM 0 = 11)) fl11_214 (by decide +kernel) ?_
          refine sm_seg C [(.iconst 1, 1), (.isub, 0)] (pc' := 32) (L' := [(0, .ref 0)]) (S' := [.int ((τ4 0 24) - 1), .ref 0]) (by decide +kernel) rfl ?_
          refine sm_pst 11 24 cls11 C (ltM (by decide +kernel : kdM 0 = 11) (by decide)) (by decide +kernel : kdM 0 = 11) (obM11 (by decide +kernel : kdM 0 = 11)) (by decide) (fiM11_24 (by decide +kernel : kdM 0 = 11)) rfl rfl rfl fl11_214 (by decide +kernel) (fun τ5 => ?_)
          refine sm_seg C [(.aload_n 0, 0), (.bipush 30, 30), (.iconst 0, 0)] (pc' := 39) (L' := [(0, .ref 0)]) (S' := [.int 0, .int 30, .ref 0]) (by decide +kernel) rfl ?_
          refine sm_vcalv [.int 30, .int 0] [] rfl C mw_X11_lay ml_11_221 rfl (ci := 11) rfl (ltM (by decide +kernel : kdM 0 = 11) (by decide)) (by decide +kernel : kdM 0 = 11) (by decide) ⟨by omega, by omega⟩ (Nat.le_of_ble_eq_true rfl) (by decide +kernel) (c_X11_lay F 30 0 τ5) (fun r6 τ7 => ?_)
          refine sm_seg C [(.iconst 1, 1)] (pc' := 43) (L' := [(0, .ref 0)]) (S' := [.int 1]) (by decide +kernel) rfl ?_
          exact sm_iret C hr rfl (by decide +kernel)
    · refine sm_seg C [(.aload_n 0, 0)] (pc' := 45) (L' := [(0, .ref 0)]) (S' := [.ref 0]) (by decide +kernel) rfl ?_
      refine sm_getI 11 18 cls11 C (ltM (by decide +kernel : kdM 0 = 11) (by decide)) (by decide +kernel : kdM 0 = 11) (obM11 (by decide +kernel : kdM 0 = 11)) (by decide) (fiM11_18 (by decide +kernel : kdM 0 = 11)) fl11_184 (by decide +kernel) ?_
      refine sm_seg C [(.sipush 140, 140)] (pc' := 51) (L' := [(0, .ref 0)]) (S' := [.int 140, .int (τ 0 18)]) (by decide +kernel) rfl ?_
      refine sm_icmpne 92 (off := 41) C (by decide +kernel) (by decide) (fun _ => ?_) (fun _ => ?_)
      · refine sm_seg C [(.aload_n 0, 0)] (pc' := 55) (L' := [(0, .ref 0)]) (S' := [.ref 0]) (by decide +kernel) rfl ?_
        refine sm_vcal [] [] rfl C mw_X11_opens ml_11_234 rfl (ci := 11) rfl (ltM (by decide +kernel : kdM 0 = 11) (by decide)) (by decide +kernel : kdM 0 = 11) (by decide) ⟨by omega, by omega⟩ (Nat.le_of_ble_eq_true rfl) (by decide +kernel) (c_X11_opens F τ) (fun r8 τ9 => ?_)
        refine sm_ifeq 78 (off := 20) C (by decide +kernel) (by decide) (fun _ => ?_) (fun _ => ?_)
        · refine sm_seg C [(.iconst 0, 0)] (pc' := 79) (L' := [(0, .ref 0)]) (S' := [.int 0]) (by decide +kernel) rfl ?_
          exact sm_iret C hr rfl (by decide +kernel)
        · refine sm_seg C [(.aload_n 0, 0)] (pc' := 62) (L' := [(0, .ref 0)]) (S' := [.ref 0]) (by decide +kernel) rfl ?_
          refine sm_vcal [] [] rfl C mw_X11_any ml_11_237 rfl (ci := 11) rfl (ltM (by decide +kernel : kdM 0 = 11) (by decide)) (by decide +kernel : kdM 0 = 11) (by decide) ⟨by omega, by omega⟩ (Nat.le_of_ble_eq_true rfl) (by decide +kernel) (c_X11_any F rc db hb hrc τ9) (fun r10 τ11 => ?_)
          refine sm_ifeq 78 (off := 13) C (by decide +kernel) (by decide) (fun _ => ?_) (fun _ => ?_)
          · refine sm_seg C [(.iconst 0, 0)] (pc' := 79) (L' := [(0, .ref 0)]) (S' := [.int 0]) (by decide +kernel) rfl ?_
            exact sm_iret C hr rfl (by decide +kernel)
          · refine sm_seg C [(.aload_n 0, 0), (.sipush 141, 141)] (pc' := 72) (L' := [(0, .ref 0)]) (S' := [.int 141, .ref 0]) (by decide +kernel) rfl ?_
            refine sm_vcal [.int 141] [] rfl C mw_X11_need ml_11_240 rfl (ci := 11) rfl (ltM (by decide +kernel : kdM 0 = 11) (by decide)) (by decide +kernel : kdM 0 = 11) (by decide) ⟨by omega, by omega⟩ (Nat.le_of_ble_eq_true rfl) (by decide +kernel) (c_X11_need F 141 τ11) (fun r12 τ13 => ?_)
            refine sm_ifne 80 (off := 5) C (by decide +kernel) (by decide) (fun _ => ?_) (fun _ => ?_)
            · refine sm_seg C [(.iconst 0, 0)] (pc' := 79) (L' := [(0, .ref 0)]) (S' := [.int 0]) (by decide +kernel) rfl ?_
              exact sm_iret C hr rfl (by decide +kernel)
            · refine sm_seg C [(.aload_n 0, 0), (.dup, 0)] (pc' := 82) (L' := [(0, .ref 0)]) (S' := [.ref 0, .ref 0]) (by decide +kernel) rfl ?_
              refine sm_getI 11 24 cls11 C (ltM (by decide +kernel : kdM 0 = 11) (by decide)) (by decide +kernel : kdM 0 = 11) (obM11 (by decide +kernel : kdM 0 = 11)) (by decide) (fiM11_24 (by decide +kernel : kdM 0 = 11)) fl11_214 (by decide +kernel) ?_
              refine sm_seg C [(.iconst 1, 1), (.isub, 0)] (pc' := 87) (L' := [(0, .ref 0)]) (S' := [.int ((τ13 0 24) - 1), .ref 0]) (by decide +kernel) rfl ?_
              refine sm_pst 11 24 cls11 C (ltM (by decide +kernel : kdM 0 = 11) (by decide)) (by decide +kernel : kdM 0 = 11) (obM11 (by decide +kernel : kdM 0 = 11)) (by decide) (fiM11_24 (by decide +kernel : kdM 0 = 11)) rfl rfl rfl fl11_214 (by decide +kernel) (fun τ14 => ?_)
              refine sm_seg C [(.iconst 1, 1)] (pc' := 91) (L' := [(0, .ref 0)]) (S' := [.int 1]) (by decide +kernel) rfl ?_
              exact sm_iret C hr rfl (by decide +kernel)
      · refine sm_seg C [(.aload_n 0, 0)] (pc' := 93) (L' := [(0, .ref 0)]) (S' := [.ref 0]) (by decide +kernel) rfl ?_
        refine sm_vcal [] [] rfl C mw_X11_sumUp ml_11_243 rfl (ci := 11) rfl (ltM (by decide +kernel : kdM 0 = 11) (by decide)) (by decide +kernel : kdM 0 = 11) (by decide) ⟨by omega, by omega⟩ (Nat.le_of_ble_eq_true rfl) (by decide +kernel) (c_X11_sumUp F τ) (fun r15 τ16 => ?_)
        refine sm_ifne 101 (off := 5) C (by decide +kernel) (by decide) (fun _ => ?_) (fun _ => ?_)
        · refine sm_seg C [(.iconst 0, 0)] (pc' := 100) (L' := [(0, .ref 0)]) (S' := [.int 0]) (by decide +kernel) rfl ?_
          exact sm_iret C hr rfl (by decide +kernel)
        · refine sm_seg C [(.aload_n 0, 0)] (pc' := 102) (L' := [(0, .ref 0)]) (S' := [.ref 0]) (by decide +kernel) rfl ?_
          refine sm_getI 11 18 cls11 C (ltM (by decide +kernel : kdM 0 = 11) (by decide)) (by decide +kernel : kdM 0 = 11) (obM11 (by decide +kernel : kdM 0 = 11)) (by decide) (fiM11_18 (by decide +kernel : kdM 0 = 11)) fl11_184 (by decide +kernel) ?_
          refine sm_seg C [(.sipush 160, 160)] (pc' := 108) (L' := [(0, .ref 0)]) (S' := [.int 160, .int (τ16 0 18)]) (by decide +kernel) rfl ?_
          refine sm_icmpne 116 (off := 8) C (by decide +kernel) (by decide) (fun _ => ?_) (fun _ => ?_)
          · refine sm_seg C [(.bipush 27, 27), (.goto 34, 0)] (pc' := 147) (L' := [(0, .ref 0)]) (S' := [.int 27]) (by decide +kernel) rfl ?_
            exact sm_sub [0] rfl (s_X11_oneTest_j147 F rc db hb hrc C hr 27 τ16)
          · refine sm_seg C [(.aload_n 0, 0)] (pc' := 117) (L' := [(0, .ref 0)]) (S' := [.ref 0]) (by decide +kernel) rfl ?_
            refine sm_getI 11 18 cls11 C (ltM (by decide +kernel : kdM 0 = 11) (by decide)) (by decide +kernel : kdM 0 = 11) (obM11 (by decide +kernel : kdM 0 = 11)) (by decide) (fiM11_18 (by decide +kernel : kdM 0 = 11)) fl11_184 (by decide +kernel) ?_
            refine sm_seg C [(.sipush 161, 161)] (pc' := 123) (L' := [(0, .ref 0)]) (S' := [.int 161, .int (τ16 0 18)]) (by decide +kernel) rfl ?_
            refine sm_icmpne 131 (off := 8) C (by decide +kernel) (by decide) (fun _ => ?_) (fun _ => ?_)
            · refine sm_seg C [(.bipush 28, 28), (.goto 19, 0)] (pc' := 147) (L' := [(0, .ref 0)]) (S' := [.int 28]) (by decide +kernel) rfl ?_
              exact sm_sub [0] rfl (s_X11_oneTest_j147 F rc db hb hrc C hr 28 τ16)
            · refine sm_seg C [(.aload_n 0, 0)] (pc' := 132) (L' := [(0, .ref 0)]) (S' := [.ref 0]) (by decide +kernel) rfl ?_
              refine sm_getI 11 18 cls11 C (ltM (by decide +kernel : kdM 0 = 11) (by decide)) (by decide +kernel : kdM 0 = 11) (obM11 (by decide +kernel : kdM 0 = 11)) (by decide) (fiM11_18 (by decide +kernel : kdM 0 = 11)) fl11_184 (by decide +kernel) ?_
              refine sm_seg C [(.sipush 162, 162)] (pc' := 138) (L' := [(0, .ref 0)]) (S' := [.int 162, .int (τ16 0 18)]) (by decide +kernel) rfl ?_
              refine sm_icmpne 146 (off := 8) C (by decide +kernel) (by decide) (fun _ => ?_) (fun _ => ?_)
              · refine sm_seg C [(.bipush 29, 29), (.goto 4, 0)] (pc' := 147) (L' := [(0, .ref 0)]) (S' := [.int 29]) (by decide +kernel) rfl ?_
                exact sm_sub [0] rfl (s_X11_oneTest_j147 F rc db hb hrc C hr 29 τ16)
              · refine sm_seg C [(.iconst (-1), (-1))] (pc' := 147) (L' := [(0, .ref 0)]) (S' := [.int (-1)]) (by decide +kernel) rfl ?_
                exact sm_sub [0] rfl (s_X11_oneTest_j147 F rc db hb hrc C hr (-1) τ16)) h
def X11_oneTest (F : Nat) : Nat → Tau → Option (Int32 × Tau)
  | 0, _ => none
  | n + 1, τ => X11_oneTest_B F (X11_oneTest F n) τ
theorem c_X11_oneTest (F : Nat) : ∀ (n : Nat)  (τ : Tau) (r : Int32) (τ' : Tau) (h : X11_oneTest F n τ = some (r, τ')), MCi sysM yX11_oneTest cX11_oneTest 2 (some .boolean) (12 + 3 * n) [.ref 0] τ r τ' := by
  intro n
  induction n with
  | zero => intro  τ r τ' h; cases h
  | succ n ih =>
    intro  τ r τ' h
    have h2 := c_X11_oneTest_B F  (X11_oneTest F n) (12 + 3 * n) (by omega) ih   τ r τ' h
    rw [show 12 + 3 * (n + 1) = 12 + 3 * n + 3 by omega]
    exact h2
/-! BasketEnvoysModel.aLine -/
def X11_aLine_j123 (F : Nat) (τ : Tau) : Option (Int32 × Tau) :=
  ast τ 5 64 ((4 * (τ 0 13)) + 2) (τ 0 14) fun τ19 => cal (X11_need F 159 τ19) fun r20 τ21 => some (vp_nar .boolean r20, τ21)
theorem s_X11_aLine_j123 (F : Nat) {K : Ctx} (C : Cx K sysM RX11 cX11_aLine 1 51) (hr : Rt K (some .boolean)) (τ : Tau) : Sm K sysM 1 (Qi K sysM) (X11_aLine_j123 F τ) 123 [(0, .ref 0)] [] τ := by
  unfold X11_aLine_j123
  refine sm_seg C [(.aload_n 0, 0)] (pc' := 124) (L' := [(0, .ref 0)]) (S' := [.ref 0]) (by decide +kernel) rfl ?_
  refine sm_getR 11 6 5 cls11 C (ltM (by decide +kernel : kdM 0 = 11) (by decide)) (by decide +kernel : kdM 0 = 11) (obM11 (by decide +kernel : kdM 0 = 11)) (by decide) (frM11_6 (by decide +kernel : kdM 0 = 11)) fl11_22 (by decide +kernel) ?_
  refine sm_seg C [(.iconst 4, 4), (.aload_n 0, 0)] (pc' := 129) (L' := [(0, .ref 0)]) (S' := [.ref 0, .int 4, .ref 5]) (by decide +kernel) rfl ?_
  refine sm_getI 11 13 cls11 C (ltM (by decide +kernel : kdM 0 = 11) (by decide)) (by decide +kernel : kdM 0 = 11) (obM11 (by decide +kernel : kdM 0 = 11)) (by decide) (fiM11_13 (by decide +kernel : kdM 0 = 11)) fl11_246 (by decide +kernel) ?_
  refine sm_seg C [(.imul, 0), (.iconst 2, 2), (.iadd, 0), (.aload_n 0, 0)] (pc' := 136) (L' := [(0, .ref 0)]) (S' := [.ref 0, .int ((4 * (τ 0 13)) + 2), .ref 5]) (by decide +kernel) rfl ?_
  refine sm_getI 11 14 cls11 C (ltM (by decide +kernel : kdM 0 = 11) (by decide)) (by decide +kernel : kdM 0 = 11) (obM11 (by decide +kernel : kdM 0 = 11)) (by decide) (fiM11_14 (by decide +kernel : kdM 0 = 11)) fl11_211 (by decide +kernel) ?_
  refine sm_ast 64 C (ltM (krM11_6 (by decide +kernel : kdM 0 = 11)) (by decide)) (krM11_6 (by decide +kernel : kdM 0 = 11)) (nrM11_6 (by decide +kernel : kdM 0 = 11)) (by decide +kernel) (fun τ19 => ?_)
  refine sm_seg C [(.aload_n 0, 0), (.sipush 159, 159)] (pc' := 144) (L' := [(0, .ref 0)]) (S' := [.int 159, .ref 0]) (by decide +kernel) rfl ?_
  refine sm_vcal [.int 159] [] rfl C mw_X11_need ml_11_240 rfl (ci := 11) rfl (ltM (by decide +kernel : kdM 0 = 11) (by decide)) (by decide +kernel : kdM 0 = 11) (by decide) ⟨by decide, by decide⟩ (Nat.le_of_ble_eq_true rfl) (by decide +kernel) (c_X11_need F 159 τ19) (fun r20 τ21 => ?_)
  exact sm_iret C hr nar_boolean (by decide +kernel)
def X11_aLine (F : Nat) (τ : Tau) : Option (Int32 × Tau) :=
  cal (X11_isIn F (τ 0 18) 20 22 τ) fun r1 τ2 => if r1 = 0 then (cal (X11_bad F 1 τ2) fun r3 τ4 => some (vp_nar .boolean r3, τ4)) else (if (τ2 0 13) = 16 then (cal (X11_bad F 3 τ2) fun r5 τ6 => some (vp_nar .boolean r5, τ6)) else (pst τ2 0 24 0 fun τ7 => ast τ7 5 64 ((4 * (τ7 0 13)) + 3) (τ7 0 18) fun τ8 => cal (X11_next0 F τ8) fun r9 τ10 => ast τ10 5 64 (4 * (τ10 0 13)) (τ10 0 14) fun τ11 => cal (X11_sumUp F τ11) fun r12 τ13 => if r12 = 0 then (some (0, τ13)) else (ast τ13 5 64 ((4 * (τ13 0 13)) + 1) (τ13 0 14) fun τ14 => if (τ14 0 18) = 3 then (cal (X11_next0 F τ14) fun r15 τ16 => cal (X11_any F (X11_oneTest F 12) τ16) fun r17 τ18 => if r17 = 0 then (some (0, τ18)) else (X11_aLine_j123 F τ18)) else (X11_aLine_j123 F τ14))))
set_option maxRecDepth 20000 in
set_option maxHeartbeats 4000000 in
theorem c_X11_aLine (F : Nat) (τ : Tau) (r : Int32) (τ' : Tau) (h : X11_aLine F τ = some (r, τ')) : MCi sysM yX11_aLine cX11_aLine 1 (some .boolean) 51 [.ref 0] τ r τ' :=
  mci_of (by decide +kernel) (Nat.le_of_ble_eq_true rfl) (fun K C hr => by
    show Sm K sysM 1 (Qi K sysM) (X11_aLine F τ) 0 [(0, .ref 0)] [] τ
    unfold X11_aLine
    refine sm_seg C [(.aload_n 0, 0)] (pc' := 1) (L' := [(0, .ref 0)]) (S' := [.ref 0]) (by decide +kernel) rfl ?_
    refine sm_getI 11 18 cls11 C (ltM (by decide +kernel : kdM 0 = 11) (by decide)) (by decide +kernel : kdM 0 = 11) (obM11 (by decide +kernel : kdM 0 = 11)) (by decide) (fiM11_18 (by decide +kernel : kdM 0 = 11)) fl11_184 (by decide +kernel) ?_
    refine sm_seg C [(.bipush 20, 20), (.bipush 22, 22)] (pc' := 8) (L' := [(0, .ref 0)]) (S' := [.int 22, .int 20, .int (τ 0 18)]) (by decide +kernel) rfl ?_
    refine sm_scal [.int (τ 0 18), .int 20, .int 22] [] rfl C mw_X11_isIn ml_11_78 rfl ⟨by decide, by decide⟩ (Nat.le_of_ble_eq_true rfl) (by decide +kernel) (c_X11_isIn F (τ 0 18) 20 22 τ) (fun r1 τ2 => ?_)
    refine sm_ifne 20 (off := 9) C (by decide +kernel) (by decide) (fun _ => ?_) (fun _ => ?_)
    · refine sm_seg C [(.aload_n 0, 0), (.iconst 1, 1)] (pc' := 16) (L' := [(0, .ref 0)]) (S' := [.int 1, .ref 0]) (by decide +kernel) rfl ?_
      refine sm_vcal [.int 1] [] rfl C mw_X11_bad ml_11_205 rfl (ci := 11) rfl (ltM (by decide +kernel : kdM 0 = 11) (by decide)) (by decide +kernel : kdM 0 = 11) (by decide) ⟨by decide, by decide⟩ (Nat.le_of_ble_eq_true rfl) (by decide +kernel) (c_X11_bad F 1 τ2) (fun r3 τ4 => ?_)
      exact sm_iret C hr nar_boolean (by decide +kernel)
    · refine sm_seg C [(.aload_n 0, 0)] (pc' := 21) (L' := [(0, .ref 0)]) (S' := [.ref 0]) (by decide +kernel) rfl ?_
      refine sm_getI 11 13 cls11 C (ltM (by decide +kernel : kdM 0 = 11) (by decide)) (by decide +kernel : kdM 0 = 11) (obM11 (by decide +kernel : kdM 0 = 11)) (by decide) (fiM11_13 (by decide +kernel : kdM 0 = 11)) fl11_246 (by decide +kernel) ?_
      refine sm_seg C [(.bipush 16, 16)] (pc' := 26) (L' := [(0, .ref 0)]) (S' := [.int 16, .int (τ2 0 13)]) (by decide +kernel) rfl ?_
      refine sm_icmpne 35 (off := 9) C (by decide +kernel) (by decide) (fun _ => ?_) (fun _ => ?_)
      · refine sm_seg C [(.aload_n 0, 0), (.iconst 3, 3)] (pc' := 31) (L' := [(0, .ref 0)]) (S' := [.int 3, .ref 0]) (by decide +kernel) rfl ?_
        refine sm_vcal [.int 3] [] rfl C mw_X11_bad ml_11_205 rfl (ci := 11) rfl (ltM (by decide +kernel : kdM 0 = 11) (by decide)) (by decide +kernel : kdM 0 = 11) (by decide) ⟨by decide, by decide⟩ (Nat.le_of_ble_eq_true rfl) (by decide +kernel) (c_X11_bad F 3 τ2) (fun r5 τ6 => ?_)
        exact sm_iret C hr nar_boolean (by decide +kernel)
      · refine sm_seg C [(.aload_n 0, 0), (.iconst 0, 0)] (pc' := 37) (L' := [(0, .ref 0)]) (S' := [.int 0, .ref 0]) (by decide +kernel) rfl ?_
        refine sm_pst 11 24 cls11 C (ltM (by decide +kernel : kdM 0 = 11) (by decide)) (by decide +kernel : kdM 0 = 11) (obM11 (by decide +kernel : kdM 0 = 11)) (by decide) (fiM11_24 (by decide +kernel : kdM 0 = 11)) rfl rfl rfl fl11_214 (by decide +kernel) (fun τ7 => ?_)
        refine sm_seg C [(.aload_n 0, 0)] (pc' := 41) (L' := [(0, .ref 0)]) (S' := [.ref 0]) (by decide +kernel) rfl ?_
        refine sm_getR 11 6 5 cls11 C (ltM (by decide +kernel : kdM 0 = 11) (by decide)) (by decide +kernel : kdM 0 = 11) (obM11 (by decide +kernel : kdM 0 = 11)) (by decide) (frM11_6 (by decide +kernel : kdM 0 = 11)) fl11_22 (by decide +kernel) ?_
        refine sm_seg C [(.iconst 4, 4), (.aload_n 0, 0)] (pc' := 46) (L' := [(0, .ref 0)]) (S' := [.ref 0, .int 4, .ref 5]) (by decide +kernel) rfl ?_
        refine sm_getI 11 13 cls11 C (ltM (by decide +kernel : kdM 0 = 11) (by decide)) (by decide +kernel : kdM 0 = 11) (obM11 (by decide +kernel : kdM 0 = 11)) (by decide) (fiM11_13 (by decide +kernel : kdM 0 = 11)) fl11_246 (by decide +kernel) ?_
        refine sm_seg C [(.imul, 0), (.iconst 3, 3), (.iadd, 0), (.aload_n 0, 0)] (pc' := 53) (L' := [(0, .ref 0)]) (S' := [.ref 0, .int ((4 * (τ7 0 13)) + 3), .ref 5]) (by decide +kernel) rfl ?_
        refine sm_getI 11 18 cls11 C (ltM (by decide +kernel : kdM 0 = 11) (by decide)) (by decide +kernel : kdM 0 = 11) (obM11 (by decide +kernel : kdM 0 = 11)) (by decide) (fiM11_18 (by decide +kernel : kdM 0 = 11)) fl11_184 (by decide +kernel) ?_
        refine sm_ast 64 C (ltM (krM11_6 (by decide +kernel : kdM 0 = 11)) (by decide)) (krM11_6 (by decide +kernel : kdM 0 = 11)) (nrM11_6 (by decide +kernel : kdM 0 = 11)) (by decide +kernel) (fun τ8 => ?_)
        refine sm_seg C [(.aload_n 0, 0)] (pc' := 58) (L' := [(0, .ref 0)]) (S' := [.ref 0]) (by decide +kernel) rfl ?_
        refine sm_vcalv [] [] rfl C mw_X11_next0 ml_11_208 rfl (ci := 11) rfl (ltM (by decide +kernel : kdM 0 = 11) (by decide)) (by decide +kernel : kdM 0 = 11) (by decide) ⟨by decide, by decide⟩ (Nat.le_of_ble_eq_true rfl) (by decide +kernel) (c_X11_next0 F τ8) (fun r9 τ10 => ?_)
        refine sm_seg C [(.aload_n 0, 0)] (pc' := 62) (L' := [(0, .ref 0)]) (S' := [.ref 0]) (by decide +kernel) rfl ?_
        refine sm_getR 11 6 5 cls11 C (ltM (by decide +kernel : kdM 0 = 11) (by decide)) (by decide +kernel : kdM 0 = 11) (obM11 (by decide +kernel : kdM 0 = 11)) (by decide) (frM11_6 (by decide +kernel : kdM 0 = 11)) fl11_22 (by decide +kernel) ?_
        refine sm_seg C [(.iconst 4, 4), (.aload_n 0, 0)] (pc' := 67) (L' := [(0, .ref 0)]) (S' := [.ref 0, .int 4, .ref 5]) (by decide +kernel) rfl ?_
        refine sm_getI 11 13 cls11 C (ltM (by decide +kernel : kdM 0 = 11) (by decide)) (by decide +kernel : kdM 0 = 11) (obM11 (by decide +kernel : kdM 0 = 11)) (by decide) (fiM11_13 (by decide +kernel : kdM 0 = 11)) fl11_246 (by decide +kernel) ?_
        refine sm_seg C [(.imul, 0), (.aload_n 0, 0)] (pc' := 72) (L' := [(0, .ref 0)]) (S' := [.ref 0, .int (4 * (τ10 0 13)), .ref 5]) (by decide +kernel) rfl ?_
        refine sm_getI 11 14 cls11 C (ltM (by decide +kernel : kdM 0 = 11) (by decide)) (by decide +kernel : kdM 0 = 11) (obM11 (by decide +kernel : kdM 0 = 11)) (by decide) (fiM11_14 (by decide +kernel : kdM 0 = 11)) fl11_211 (by decide +kernel) ?_
        refine sm_ast 64 C (ltM (krM11_6 (by decide +kernel : kdM 0 = 11)) (by decide)) (krM11_6 (by decide +kernel : kdM 0 = 11)) (nrM11_6 (by decide +kernel : kdM 0 = 11)) (by decide +kernel) (fun τ11 => ?_)
        refine sm_seg C [(.aload_n 0, 0)] (pc' := 77) (L' := [(0, .ref 0)]) (S' := [.ref 0]) (by decide +kernel) rfl ?_
        refine sm_vcal [] [] rfl C mw_X11_sumUp ml_11_243 rfl (ci := 11) rfl (ltM (by decide +kernel : kdM 0 = 11) (by decide)) (by decide +kernel : kdM 0 = 11) (by decide) ⟨by decide, by decide⟩ (Nat.le_of_ble_eq_true rfl) (by decide +kernel) (c_X11_sumUp F τ11) (fun r12 τ13 => ?_)
        refine sm_ifne 85 (off := 5) C (by decide +kernel) (by decide) (fun _ => ?_) (fun _ => ?_)
        · refine sm_seg C [(.iconst 0, 0)] (pc' := 84) (L' := [(0, .ref 0)]) (S' := [.int 0]) (by decide +kernel) rfl ?_
          exact sm_iret C hr rfl (by decide +kernel)
        · refine sm_seg C [(.aload_n 0, 0)] (pc' := 86) (L' := [(0, .ref 0)]) (S' := [.ref 0]) (by decide +kernel) rfl ?_
          refine sm_getR 11 6 5 cls11 C (ltM (by decide +kernel : kdM 0 = 11) (by decide)) (by decide +kernel : kdM 0 = 11) (obM11 (by decide +kernel : kdM 0 = 11)) (by decide) (frM11_6 (by decide +kernel : kdM 0 = 11)) fl11_22 (by decide +kernel) ?_
          refine sm_seg C [(.iconst 4, 4), (.aload_n 0, 0)] (pc' := 91) (L' := [(0, .ref 0)]) (S' := [.ref 0, .int 4, .ref 5]) (by decide +kernel) rfl ?_
          refine sm_getI 11 13 cls11 C (ltM (by decide +kernel : kdM 0 = 11) (by decide)) (by decide +kernel : kdM 0 = 11) (obM11 (by decide +kernel : kdM 0 = 11)) (by decide) (fiM11_13 (by decide +kernel : kdM 0 = 11)) fl11_246 (by decide +kernel) ?_
          refine sm_seg C [(.imul, 0), (.iconst 1, 1), (.iadd, 0), (.aload_n 0, 0)] (pc' := 98) (L' := [(0, .ref 0)]) (S' := [.ref 0, .int ((4 * (τ13 0 13)) + 1), .ref 5]) (by decide +kernel) rfl ?_
          refine sm_getI 11 14 cls11 C (ltM (by decide +kernel : kdM 0 = 11) (by decide)) (by decide +kernel : kdM 0 = 11) (obM11 (by decide +kernel : kdM 0 = 11)) (by decide) (fiM11_14 (by decide +kernel : kdM 0 = 11)) fl11_211 (by decide +kernel) ?_
          refine sm_ast 64 C (ltM (krM11_6 (by decide +kernel : kdM 0 = 11)) (by decide)) (krM11_6 (by decide +kernel : kdM 0 = 11)) (nrM11_6 (by decide +kernel : kdM 0 = 11)) (by decide +kernel) (fun τ14 => ?_)
          refine sm_seg C [(.aload_n 0, 0)] (pc' := 103) (L' := [(0, .ref 0)]) (S' := [.ref 0]) (by decide +kernel) rfl ?_
          refine sm_getI 11 18 cls11 C (ltM (by decide +kernel : kdM 0 = 11) (by decide)) (by decide +kernel : kdM 0 = 11) (obM11 (by decide +kernel : kdM 0 = 11)) (by decide) (fiM11_18 (by decide +kernel : kdM 0 = 11)) fl11_184 (by decide +kernel) ?_
          refine sm_seg C [(.iconst 3, 3)] (pc' := 107) (L' := [(0, .ref 0)]) (S' := [.int 3, .int (τ14 0 18)]) (by decide +kernel) rfl ?_
          refine sm_icmpne 123 (off := 16) C (by decide +kernel) (by decide) (fun _ => ?_) (fun _ => ?_)
          · refine sm_seg C [(.aload_n 0, 0)] (pc' := 111) (L' := [(0, .ref 0)]) (S' := [.ref 0]) (by decide +kernel) rfl ?_
            refine sm_vcalv [] [] rfl C mw_X11_next0 ml_11_208 rfl (ci := 11) rfl (ltM (by decide +kernel : kdM 0 = 11) (by decide)) (by decide +kernel : kdM 0 = 11) (by decide) ⟨by decide, by decide⟩ (Nat.le_of_ble_eq_true rfl) (by decide +kernel) (c_X11_next0 F τ14) (fun r15 τ16 => ?_)
            refine sm_seg C [(.aload_n 0, 0)] (pc' := 115) (L' := [(0, .ref 0)]) (S' := [.ref 0]) (by decide +kernel) rfl ?_
            refine sm_vcal [] [] rfl C mw_X11_any ml_11_237 rfl (ci := 11) rfl (ltM (by decide +kernel : kdM 0 = 11) (by decide)) (by decide +kernel : kdM 0 = 11) (by decide) ⟨by decide, by decide⟩ (Nat.le_of_ble_eq_true rfl) (by decide +kernel) (c_X11_any F (X11_oneTest F 12) (12 + 3 * 12) (by decide) (c_X11_oneTest F 12) τ16) (fun r17 τ18 => ?_)
            refine sm_ifne 123 (off := 5) C (by decide +kernel) (by decide) (fun _ => ?_) (fun _ => ?_)
            · refine sm_seg C [(.iconst 0, 0)] (pc' := 122) (L' := [(0, .ref 0)]) (S' := [.int 0]) (by decide +kernel) rfl ?_
              exact sm_iret C hr rfl (by decide +kernel)
            · exact sm_sub [0] rfl (s_X11_aLine_j123 F C hr τ18)
          · exact sm_sub [0] rfl (s_X11_aLine_j123 F C hr τ14)) h
/-! BasketEnvoysModel.aTongue -/
def X11_aTongue (F : Nat) (τ : Tau) : Option (Int32 × Tau) :=
  ald τ 1 2244 255 fun v1 => cal (X11_told F 130 8 0 (v1 - 1) τ) fun r2 τ3 => if r2 = 0 then (some (0, τ3)) else (cal (X11_told F 131 9 0 11 τ3) fun r4 τ5 => if r4 = 0 then (some (0, τ5)) else (cal (X11_told F 132 10 0 15 τ5) fun r6 τ7 => if r6 = 0 then (some (0, τ7)) else (ald τ7 7 140 130 fun v8 => ald τ7 7 140 131 fun v9 => ald τ7 7 140 132 fun v10 => ast τ7 7 140 ((12 * v8) + v9) v10 fun τ11 => some (1, τ11))))
set_option maxRecDepth 20000 in
set_option maxHeartbeats 4000000 in
theorem c_X11_aTongue (F : Nat) (τ : Tau) (r : Int32) (τ' : Tau) (h : X11_aTongue F τ = some (r, τ')) : MCi sysM yX11_aTongue cX11_aTongue 1 (some .boolean) 12 [.ref 0] τ r τ' :=
  mci_of (by decide +kernel) (Nat.le_of_ble_eq_true rfl) (fun K C hr => by
    show Sm K sysM 1 (Qi K sysM) (X11_aTongue F τ) 0 [(0, .ref 0)] [] τ
    unfold X11_aTongue
    refine sm_seg C [(.aload_n 0, 0), (.sipush 130, 130), (.bipush 8, 8), (.iconst 0, 0), (.aload_n 0, 0)] (pc' := 8) (L' := [(0, .ref 0)]) (S' := [.ref 0, .int 0, .int 8, .int 130, .ref 0]) (by decide +kernel) rfl ?_
    refine sm_getR 11 0 1 cls11 C (ltM (by decide +kernel : kdM 0 = 11) (by decide)) (by decide +kernel : kdM 0 = 11) (obM11 (by decide +kernel : kdM 0 = 11)) (by decide) (frM11_0 (by decide +kernel : kdM 0 = 11)) fl11_7 (by decide +kernel) ?_
    refine sm_seg C [(.sipush 255, 255)] (pc' := 14) (L' := [(0, .ref 0)]) (S' := [.int 255, .ref 1, .int 0, .int 8, .int 130, .ref 0]) (by decide +kernel) rfl ?_
    refine sm_ald 2244 C (ltM (krM11_0 (by decide +kernel : kdM 0 = 11)) (by decide)) (krM11_0 (by decide +kernel : kdM 0 = 11)) (nrM11_0 (by decide +kernel : kdM 0 = 11)) (by decide +kernel) (fun v1 => ?_)
    refine sm_seg C [(.iconst 1, 1), (.isub, 0)] (pc' := 17) (L' := [(0, .ref 0)]) (S' := [.int (v1 - 1), .int 0, .int 8, .int 130, .ref 0]) (by decide +kernel) rfl ?_
    refine sm_vcal [.int 130, .int 8, .int 0, .int (v1 - 1)] [] rfl C mw_X11_told ml_11_255 rfl (ci := 11) rfl (ltM (by decide +kernel : kdM 0 = 11) (by decide)) (by decide +kernel : kdM 0 = 11) (by decide) ⟨by decide, by decide⟩ (Nat.le_of_ble_eq_true rfl) (by decide +kernel) (c_X11_told F 130 8 0 (v1 - 1) τ) (fun r2 τ3 => ?_)
    refine sm_ifeq 53 (off := 33) C (by decide +kernel) (by decide) (fun _ => ?_) (fun _ => ?_)
    · refine sm_seg C [(.iconst 0, 0)] (pc' := 54) (L' := [(0, .ref 0)]) (S' := [.int 0]) (by decide +kernel) rfl ?_
      exact sm_iret C hr rfl (by decide +kernel)
    · refine sm_seg C [(.aload_n 0, 0), (.sipush 131, 131), (.bipush 9, 9), (.iconst 0, 0), (.bipush 11, 11)] (pc' := 32) (L' := [(0, .ref 0)]) (S' := [.int 11, .int 0, .int 9, .int 131, .ref 0]) (by decide +kernel) rfl ?_
      refine sm_vcal [.int 131, .int 9, .int 0, .int 11] [] rfl C mw_X11_told ml_11_255 rfl (ci := 11) rfl (ltM (by decide +kernel : kdM 0 = 11) (by decide)) (by decide +kernel : kdM 0 = 11) (by decide) ⟨by decide, by decide⟩ (Nat.le_of_ble_eq_true rfl) (by decide +kernel) (c_X11_told F 131 9 0 11 τ3) (fun r4 τ5 => ?_)
      refine sm_ifeq 53 (off := 18) C (by decide +kernel) (by decide) (fun _ => ?_) (fun _ => ?_)
      · refine sm_seg C [(.iconst 0, 0)] (pc' := 54) (L' := [(0, .ref 0)]) (S' := [.int 0]) (by decide +kernel) rfl ?_
        exact sm_iret C hr rfl (by decide +kernel)
      · refine sm_seg C [(.aload_n 0, 0), (.sipush 132, 132), (.bipush 10, 10), (.iconst 0, 0), (.bipush 15, 15)] (pc' := 47) (L' := [(0, .ref 0)]) (S' := [.int 15, .int 0, .int 10, .int 132, .ref 0]) (by decide +kernel) rfl ?_
        refine sm_vcal [.int 132, .int 10, .int 0, .int 15] [] rfl C mw_X11_told ml_11_255 rfl (ci := 11) rfl (ltM (by decide +kernel : kdM 0 = 11) (by decide)) (by decide +kernel : kdM 0 = 11) (by decide) ⟨by decide, by decide⟩ (Nat.le_of_ble_eq_true rfl) (by decide +kernel) (c_X11_told F 132 10 0 15 τ5) (fun r6 τ7 => ?_)
        refine sm_ifne 55 (off := 5) C (by decide +kernel) (by decide) (fun _ => ?_) (fun _ => ?_)
        · refine sm_seg C [(.iconst 0, 0)] (pc' := 54) (L' := [(0, .ref 0)]) (S' := [.int 0]) (by decide +kernel) rfl ?_
          exact sm_iret C hr rfl (by decide +kernel)
        · refine sm_seg C [(.aload_n 0, 0)] (pc' := 56) (L' := [(0, .ref 0)]) (S' := [.ref 0]) (by decide +kernel) rfl ?_
          refine sm_getR 11 8 7 cls11 C (ltM (by decide +kernel : kdM 0 = 11) (by decide)) (by decide +kernel : kdM 0 = 11) (obM11 (by decide +kernel : kdM 0 = 11)) (by decide) (frM11_8 (by decide +kernel : kdM 0 = 11)) fl11_28 (by decide +kernel) ?_
          refine sm_seg C [(.bipush 12, 12), (.aload_n 0, 0)] (pc' := 62) (L' := [(0, .ref 0)]) (S' := [.ref 0, .int 12, .ref 7]) (by decide +kernel) rfl ?_
          refine sm_getR 11 8 7 cls11 C (ltM (by decide +kernel : kdM 0 = 11) (by decide)) (by decide +kernel : kdM 0 = 11) (obM11 (by decide +kernel : kdM 0 = 11)) (by decide) (frM11_8 (by decide +kernel : kdM 0 = 11)) fl11_28 (by decide +kernel) ?_
          refine sm_seg C [(.sipush 130, 130)] (pc' := 68) (L' := [(0, .ref 0)]) (S' := [.int 130, .ref 7, .int 12, .ref 7]) (by decide +kernel) rfl ?_
          refine sm_ald 140 C (ltM (krM11_8 (by decide +kernel : kdM 0 = 11)) (by decide)) (krM11_8 (by decide +kernel : kdM 0 = 11)) (nrM11_8 (by decide +kernel : kdM 0 = 11)) (by decide +kernel) (fun v8 => ?_)
          refine sm_seg C [(.imul, 0), (.aload_n 0, 0)] (pc' := 71) (L' := [(0, .ref 0)]) (S' := [.ref 0, .int (12 * v8), .ref 7]) (by decide +kernel) rfl ?_
          refine sm_getR 11 8 7 cls11 C (ltM (by decide +kernel : kdM 0 = 11) (by decide)) (by decide +kernel : kdM 0 = 11) (obM11 (by decide +kernel : kdM 0 = 11)) (by decide) (frM11_8 (by decide +kernel : kdM 0 = 11)) fl11_28 (by decide +kernel) ?_
          refine sm_seg C [(.sipush 131, 131)] (pc' := 77) (L' := [(0, .ref 0)]) (S' := [.int 131, .ref 7, .int (12 * v8), .ref 7]) (by decide +kernel) rfl ?_
          refine sm_ald 140 C (ltM (krM11_8 (by decide +kernel : kdM 0 = 11)) (by decide)) (krM11_8 (by decide +kernel : kdM 0 = 11)) (nrM11_8 (by decide +kernel : kdM 0 = 11)) (by decide +kernel) (fun v9 => ?_)
          refine sm_seg C [(.iadd, 0), (.aload_n 0, 0)] (pc' := 80) (L' := [(0, .ref 0)]) (S' := [.ref 0, .int ((12 * v8) + v9), .ref 7]) (by decide +kernel) rfl ?_
          refine sm_getR 11 8 7 cls11 C (ltM (by decide +kernel : kdM 0 = 11) (by decide)) (by decide +kernel : kdM 0 = 11) (obM11 (by decide +kernel : kdM 0 = 11)) (by decide) (frM11_8 (by decide +kernel : kdM 0 = 11)) fl11_28 (by decide +kernel) ?_
          refine sm_seg C [(.sipush 132, 132)] (pc' := 86) (L' := [(0, .ref 0)]) (S' := [.int 132, .ref 7, .int ((12 * v8) + v9), .ref 7]) (by decide +kernel) rfl ?_
          refine sm_ald 140 C (ltM (krM11_8 (by decide +kernel : kdM 0 = 11)) (by decide)) (krM11_8 (by decide +kernel : kdM 0 = 11)) (nrM11_8 (by decide +kernel : kdM 0 = 11)) (by decide +kernel) (fun v10 => ?_)
          refine sm_ast 140 C (ltM (krM11_8 (by decide +kernel : kdM 0 = 11)) (by decide)) (krM11_8 (by decide +kernel : kdM 0 = 11)) (nrM11_8 (by decide +kernel : kdM 0 = 11)) (by decide +kernel) (fun τ11 => ?_)
          refine sm_seg C [(.iconst 1, 1)] (pc' := 89) (L' := [(0, .ref 0)]) (S' := [.int 1]) (by decide +kernel) rfl ?_
          exact sm_iret C hr rfl (by decide +kernel)) h
/-! BasketEnvoysModel.aWant -/
def X11_aWant_L70 (F : Nat) : Nat → Int32 → Int32 → Tau → Option (Int32 × Tau)
  | 0, _, _, _ => none
  | n + 1, a1, a2, τ =>
    if (τ 0 18) = 2 then (cal (X11_isIn F (τ 0 20) 0 15 τ) fun r9 τ10 => if r9 = 0 then (cal (X11_bad F 2 τ10) fun r11 τ12 => some (vp_nar .boolean r11, τ12)) else (if a2 = 6 then (cal (X11_bad F 3 τ10) fun r13 τ14 => some (vp_nar .boolean r13, τ14)) else (cal (X11_number F (a1 + (a2 + 1)) 0 15 τ10) fun r15 τ16 => if r15 = 0 then (some (0, τ16)) else (X11_aWant_L70 F n a1 (a2 + 1) τ16)))) else (ast τ 7 140 a1 a2 fun τ17 => some (1, τ17))
theorem s_X11_aWant_L70 (F : Nat) {K : Ctx} (C : Cx K sysM RX11 cX11_aWant 3 12) (hr : Rt K (some .boolean)) : ∀ (n : Nat) (a1 : Int32) (a2 : Int32) (τ : Tau), Sm K sysM 3 (Qi K sysM) (X11_aWant_L70 F n a1 a2 τ) 70 [(0, .ref 0), (1, .int a1), (2, .int a2)] [] τ := by
  intro n
  induction n with
  | zero => intro a1 a2 τ; exact sm_none
  | succ n ih =>
    intro a1 a2 τ
    rw [X11_aWant_L70]
    refine sm_seg C [(.aload_n 0, 0)] (pc' := 71) (L' := [(0, .ref 0), (1, .int a1), (2, .int a2)]) (S' := [.ref 0]) (by decide +kernel) rfl ?_
    refine sm_getI 11 18 cls11 C (ltM (by decide +kernel : kdM 0 = 11) (by decide)) (by decide +kernel : kdM 0 = 11) (obM11 (by decide +kernel : kdM 0 = 11)) (by decide) (fiM11_18 (by decide +kernel : kdM 0 = 11)) fl11_184 (by decide +kernel) ?_
    refine sm_seg C [(.iconst 2, 2)] (pc' := 75) (L' := [(0, .ref 0), (1, .int a1), (2, .int a2)]) (S' := [.int 2, .int (τ 0 18)]) (by decide +kernel) rfl ?_
    refine sm_icmpne 127 (off := 52) C (by decide +kernel) (by decide) (fun _ => ?_) (fun _ => ?_)
    · refine sm_seg C [(.aload_n 0, 0)] (pc' := 79) (L' := [(0, .ref 0), (1, .int a1), (2, .int a2)]) (S' := [.ref 0]) (by decide +kernel) rfl ?_
      refine sm_getI 11 20 cls11 C (ltM (by decide +kernel : kdM 0 = 11) (by decide)) (by decide +kernel : kdM 0 = 11) (obM11 (by decide +kernel : kdM 0 = 11)) (by decide) (fiM11_20 (by decide +kernel : kdM 0 = 11)) fl11_196 (by decide +kernel) ?_
      refine sm_seg C [(.iconst 0, 0), (.bipush 15, 15)] (pc' := 85) (L' := [(0, .ref 0), (1, .int a1), (2, .int a2)]) (S' := [.int 15, .int 0, .int (τ 0 20)]) (by decide +kernel) rfl ?_
      refine sm_scal [.int (τ 0 20), .int 0, .int 15] [] rfl C mw_X11_isIn ml_11_78 rfl ⟨by decide, by decide⟩ (Nat.le_of_ble_eq_true rfl) (by decide +kernel) (c_X11_isIn F (τ 0 20) 0 15 τ) (fun r9 τ10 => ?_)
      refine sm_ifne 97 (off := 9) C (by decide +kernel) (by decide) (fun _ => ?_) (fun _ => ?_)
      · refine sm_seg C [(.aload_n 0, 0), (.iconst 2, 2)] (pc' := 93) (L' := [(0, .ref 0), (1, .int a1), (2, .int a2)]) (S' := [.int 2, .ref 0]) (by decide +kernel) rfl ?_
        refine sm_vcal [.int 2] [] rfl C mw_X11_bad ml_11_205 rfl (ci := 11) rfl (ltM (by decide +kernel : kdM 0 = 11) (by decide)) (by decide +kernel : kdM 0 = 11) (by decide) ⟨by decide, by decide⟩ (Nat.le_of_ble_eq_true rfl) (by decide +kernel) (c_X11_bad F 2 τ10) (fun r11 τ12 => ?_)
        exact sm_iret C hr nar_boolean (by decide +kernel)
      · refine sm_seg C [(.iload_n 2, 0), (.bipush 6, 6)] (pc' := 100) (L' := [(0, .ref 0), (1, .int a1), (2, .int a2)]) (S' := [.int 6, .int a2]) (by decide +kernel) rfl ?_
        refine sm_icmpne 109 (off := 9) C (by decide +kernel) (by decide) (fun _ => ?_) (fun _ => ?_)
        · refine sm_seg C [(.aload_n 0, 0), (.iconst 3, 3)] (pc' := 105) (L' := [(0, .ref 0), (1, .int a1), (2, .int a2)]) (S' := [.int 3, .ref 0]) (by decide +kernel) rfl ?_
          refine sm_vcal [.int 3] [] rfl C mw_X11_bad ml_11_205 rfl (ci := 11) rfl (ltM (by decide +kernel : kdM 0 = 11) (by decide)) (by decide +kernel : kdM 0 = 11) (by decide) ⟨by decide, by decide⟩ (Nat.le_of_ble_eq_true rfl) (by decide +kernel) (c_X11_bad F 3 τ10) (fun r13 τ14 => ?_)
          exact sm_iret C hr nar_boolean (by decide +kernel)
        · refine sm_seg C [(.iinc 2 1, 1), (.aload_n 0, 0), (.iload_n 1, 0), (.iload_n 2, 0), (.iadd, 0), (.iconst 0, 0), (.bipush 15, 15)] (pc' := 119) (L' := [(2, .int (a2 + 1)), (0, .ref 0), (1, .int a1)]) (S' := [.int 15, .int 0, .int (a1 + (a2 + 1)), .ref 0]) (by decide +kernel) rfl ?_
          refine sm_vcal [.int (a1 + (a2 + 1)), .int 0, .int 15] [] rfl C mw_X11_number ml_11_252 rfl (ci := 11) rfl (ltM (by decide +kernel : kdM 0 = 11) (by decide)) (by decide +kernel : kdM 0 = 11) (by decide) ⟨by decide, by decide⟩ (Nat.le_of_ble_eq_true rfl) (by decide +kernel) (c_X11_number F (a1 + (a2 + 1)) 0 15 τ10) (fun r15 τ16 => ?_)
          refine sm_ifne 70 (off := (-52)) C (by decide +kernel) (by decide) (fun _ => ?_) (fun _ => ?_)
          · refine sm_seg C [(.iconst 0, 0)] (pc' := 126) (L' := [(2, .int (a2 + 1)), (0, .ref 0), (1, .int a1)]) (S' := [.int 0]) (by decide +kernel) rfl ?_
            exact sm_iret C hr rfl (by decide +kernel)
          · exact sm_sub [1, 2, 0] rfl (ih a1 (a2 + 1) τ16)
    · refine sm_seg C [(.aload_n 0, 0)] (pc' := 128) (L' := [(0, .ref 0), (1, .int a1), (2, .int a2)]) (S' := [.ref 0]) (by decide +kernel) rfl ?_
      refine sm_getR 11 8 7 cls11 C (ltM (by decide +kernel : kdM 0 = 11) (by decide)) (by decide +kernel : kdM 0 = 11) (obM11 (by decide +kernel : kdM 0 = 11)) (by decide) (frM11_8 (by decide +kernel : kdM 0 = 11)) fl11_28 (by decide +kernel) ?_
      refine sm_seg C [(.iload_n 1, 0), (.iload_n 2, 0)] (pc' := 133) (L' := [(0, .ref 0), (1, .int a1), (2, .int a2)]) (S' := [.int a2, .int a1, .ref 7]) (by decide +kernel) rfl ?_
      refine sm_ast 140 C (ltM (krM11_8 (by decide +kernel : kdM 0 = 11)) (by decide)) (krM11_8 (by decide +kernel : kdM 0 = 11)) (nrM11_8 (by decide +kernel : kdM 0 = 11)) (by decide +kernel) (fun τ17 => ?_)
      refine sm_seg C [(.iconst 1, 1)] (pc' := 135) (L' := [(0, .ref 0), (1, .int a1), (2, .int a2)]) (S' := [.int 1]) (by decide +kernel) rfl ?_
      exact sm_iret C hr rfl (by decide +kernel)
def X11_aWant (F : Nat) (τ : Tau) : Option (Int32 × Tau) :=
  ald τ 1 2244 255 fun v1 => cal (X11_told F 130 8 0 (v1 - 1) τ) fun r2 τ3 => if r2 = 0 then (some (0, τ3)) else (cal (X11_told F 131 15 0 15 τ3) fun r4 τ5 => if r4 = 0 then (some (0, τ5)) else (ald τ5 7 140 130 fun v6 => ald τ5 7 140 131 fun v7 => ast τ5 7 140 ((7 * v6) + 1) v7 fun τ8 => X11_aWant_L70 F F (7 * v6) 1 τ8))
set_option maxRecDepth 20000 in
set_option maxHeartbeats 4000000 in
theorem c_X11_aWant (F : Nat) (τ : Tau) (r : Int32) (τ' : Tau) (h : X11_aWant F τ = some (r, τ')) : MCi sysM yX11_aWant cX11_aWant 3 (some .boolean) 12 [.ref 0] τ r τ' :=
  mci_of (by decide +kernel) (Nat.le_of_ble_eq_true rfl) (fun K C hr => by
    show Sm K sysM 3 (Qi K sysM) (X11_aWant F τ) 0 [(0, .ref 0)] [] τ
    unfold X11_aWant
    refine sm_seg C [(.aload_n 0, 0), (.sipush 130, 130), (.bipush 8, 8), (.iconst 0, 0), (.aload_n 0, 0)] (pc' := 8) (L' := [(0, .ref 0)]) (S' := [.ref 0, .int 0, .int 8, .int 130, .ref 0]) (by decide +kernel) rfl ?_
    refine sm_getR 11 0 1 cls11 C (ltM (by decide +kernel : kdM 0 = 11) (by decide)) (by decide +kernel : kdM 0 = 11) (obM11 (by decide +kernel : kdM 0 = 11)) (by decide) (frM11_0 (by decide +kernel : kdM 0 = 11)) fl11_7 (by decide +kernel) ?_
    refine sm_seg C [(.sipush 255, 255)] (pc' := 14) (L' := [(0, .ref 0)]) (S' := [.int 255, .ref 1, .int 0, .int 8, .int 130, .ref 0]) (by decide +kernel) rfl ?_
    refine sm_ald 2244 C (ltM (krM11_0 (by decide +kernel : kdM 0 = 11)) (by decide)) (krM11_0 (by decide +kernel : kdM 0 = 11)) (nrM11_0 (by decide +kernel : kdM 0 = 11)) (by decide +kernel) (fun v1 => ?_)
    refine sm_seg C [(.iconst 1, 1), (.isub, 0)] (pc' := 17) (L' := [(0, .ref 0)]) (S' := [.int (v1 - 1), .int 0, .int 8, .int 130, .ref 0]) (by decide +kernel) rfl ?_
    refine sm_vcal [.int 130, .int 8, .int 0, .int (v1 - 1)] [] rfl C mw_X11_told ml_11_255 rfl (ci := 11) rfl (ltM (by decide +kernel : kdM 0 = 11) (by decide)) (by decide +kernel : kdM 0 = 11) (by decide) ⟨by decide, by decide⟩ (Nat.le_of_ble_eq_true rfl) (by decide +kernel) (c_X11_told F 130 8 0 (v1 - 1) τ) (fun r2 τ3 => ?_)
    refine sm_ifeq 38 (off := 18) C (by decide +kernel) (by decide) (fun _ => ?_) (fun _ => ?_)
    · refine sm_seg C [(.iconst 0, 0)] (pc' := 39) (L' := [(0, .ref 0)]) (S' := [.int 0]) (by decide +kernel) rfl ?_
      exact sm_iret C hr rfl (by decide +kernel)
    · refine sm_seg C [(.aload_n 0, 0), (.sipush 131, 131), (.bipush 15, 15), (.iconst 0, 0), (.bipush 15, 15)] (pc' := 32) (L' := [(0, .ref 0)]) (S' := [.int 15, .int 0, .int 15, .int 131, .ref 0]) (by decide +kernel) rfl ?_
      refine sm_vcal [.int 131, .int 15, .int 0, .int 15] [] rfl C mw_X11_told ml_11_255 rfl (ci := 11) rfl (ltM (by decide +kernel : kdM 0 = 11) (by decide)) (by decide +kernel : kdM 0 = 11) (by decide) ⟨by decide, by decide⟩ (Nat.le_of_ble_eq_true rfl) (by decide +kernel) (c_X11_told F 131 15 0 15 τ3) (fun r4 τ5 => ?_)
      refine sm_ifne 40 (off := 5) C (by decide +kernel) (by decide) (fun _ => ?_) (fun _ => ?_)
      · refine sm_seg C [(.iconst 0, 0)] (pc' := 39) (L' := [(0, .ref 0)]) (S' := [.int 0]) (by decide +kernel) rfl ?_
        exact sm_iret C hr rfl (by decide +kernel)
      · refine sm_seg C [(.bipush 7, 7), (.aload_n 0, 0)] (pc' := 43) (L' := [(0, .ref 0)]) (S' := [.ref 0, .int 7]) (by decide +kernel) rfl ?_
        refine sm_getR 11 8 7 cls11 C (ltM (by decide +kernel : kdM 0 = 11) (by decide)) (by decide +kernel : kdM 0 = 11) (obM11 (by decide +kernel : kdM 0 = 11)) (by decide) (frM11_8 (by decide +kernel : kdM 0 = 11)) fl11_28 (by decide +kernel) ?_
        refine sm_seg C [(.sipush 130, 130)] (pc' := 49) (L' := [(0, .ref 0)]) (S' := [.int 130, .ref 7, .int 7]) (by decide +kernel) rfl ?_
        refine sm_ald 140 C (ltM (krM11_8 (by decide +kernel : kdM 0 = 11)) (by decide)) (krM11_8 (by decide +kernel : kdM 0 = 11)) (nrM11_8 (by decide +kernel : kdM 0 = 11)) (by decide +kernel) (fun v6 => ?_)
        refine sm_seg C [(.imul, 0), (.istore_n 1, 0), (.iconst 1, 1), (.istore_n 2, 0), (.aload_n 0, 0)] (pc' := 55) (L' := [(2, .int 1), (1, .int (7 * v6)), (0, .ref 0)]) (S' := [.ref 0]) (by decide +kernel) rfl ?_
        refine sm_getR 11 8 7 cls11 C (ltM (by decide +kernel : kdM 0 = 11) (by decide)) (by decide +kernel : kdM 0 = 11) (obM11 (by decide +kernel : kdM 0 = 11)) (by decide) (frM11_8 (by decide +kernel : kdM 0 = 11)) fl11_28 (by decide +kernel) ?_
        refine sm_seg C [(.iload_n 1, 0), (.iconst 1, 1), (.iadd, 0), (.aload_n 0, 0)] (pc' := 62) (L' := [(2, .int 1), (1, .int (7 * v6)), (0, .ref 0)]) (S' := [.ref 0, .int ((7 * v6) + 1), .ref 7]) (by decide +kernel) rfl ?_
        refine sm_getR 11 8 7 cls11 C (ltM (by decide +kernel : kdM 0 = 11) (by decide)) (by decide +kernel : kdM 0 = 11) (obM11 (by decide +kernel : kdM 0 = 11)) (by decide) (frM11_8 (by decide +kernel : kdM 0 = 11)) fl11_28 (by decide +kernel) ?_
        refine sm_seg C [(.sipush 131, 131)] (pc' := 68) (L' := [(2, .int 1), (1, .int (7 * v6)), (0, .ref 0)]) (S' := [.int 131, .ref 7, .int ((7 * v6) + 1), .ref 7]) (by decide +kernel) rfl ?_
        refine sm_ald 140 C (ltM (krM11_8 (by decide +kernel : kdM 0 = 11)) (by decide)) (krM11_8 (by decide +kernel : kdM 0 = 11)) (nrM11_8 (by decide +kernel : kdM 0 = 11)) (by decide +kernel) (fun v7 => ?_)
        refine sm_ast 140 C (ltM (krM11_8 (by decide +kernel : kdM 0 = 11)) (by decide)) (krM11_8 (by decide +kernel : kdM 0 = 11)) (nrM11_8 (by decide +kernel : kdM 0 = 11)) (by decide +kernel) (fun τ8 => ?_)
        exact sm_sub [2, 1, 0] rfl (s_X11_aWant_L70 F C hr F (7 * v6) 1 τ8)) h
/-! BasketEnvoysModel.aRow -/
def X11_aRow_j43 (F : Nat) (τ : Tau) : Option (Int32 × Tau) :=
  cal (X11_need F 159 τ) fun r3 τ4 => if r3 = 0 then (some (0, τ4)) else (some (1, τ4))
theorem s_X11_aRow_j43 (F : Nat) {K : Ctx} (C : Cx K sysM RX11 cX11_aRow 1 13) (hr : Rt K (some .boolean)) (τ : Tau) : Sm K sysM 1 (Qi K sysM) (X11_aRow_j43 F τ) 43 [(0, .ref 0)] [] τ := by
  unfold X11_aRow_j43
  refine sm_seg C [(.aload_n 0, 0), (.sipush 159, 159)] (pc' := 47) (L' := [(0, .ref 0)]) (S' := [.int 159, .ref 0]) (by decide +kernel) rfl ?_
  refine sm_vcal [.int 159] [] rfl C mw_X11_need ml_11_240 rfl (ci := 11) rfl (ltM (by decide +kernel : kdM 0 = 11) (by decide)) (by decide +kernel : kdM 0 = 11) (by decide) ⟨by decide, by decide⟩ (Nat.le_of_ble_eq_true rfl) (by decide +kernel) (c_X11_need F 159 τ) (fun r3 τ4 => ?_)
  refine sm_ifeq 57 (off := 7) C (by decide +kernel) (by decide) (fun _ => ?_) (fun _ => ?_)
  · refine sm_seg C [(.iconst 0, 0)] (pc' := 58) (L' := [(0, .ref 0)]) (S' := [.int 0]) (by decide +kernel) rfl ?_
    exact sm_iret C hr rfl (by decide +kernel)
  · refine sm_seg C [(.iconst 1, 1), (.goto 4, 0)] (pc' := 58) (L' := [(0, .ref 0)]) (S' := [.int 1]) (by decide +kernel) rfl ?_
    exact sm_iret C hr rfl (by decide +kernel)
def X11_aRow (F : Nat) (τ : Tau) : Option (Int32 × Tau) :=
  if (τ 0 12) = 1 then (cal (X11_aTongue F τ) fun r1 τ2 => if r1 = 0 then (some (0, τ2)) else (X11_aRow_j43 F τ2)) else (if (τ 0 12) = 2 then (cal (X11_aCourtDay F τ) fun r5 τ6 => if r5 = 0 then (some (0, τ6)) else (X11_aRow_j43 F τ6)) else (cal (X11_aWant F τ) fun r7 τ8 => if r7 = 0 then (some (0, τ8)) else (X11_aRow_j43 F τ8)))
set_option maxRecDepth 20000 in
set_option maxHeartbeats 4000000 in
theorem c_X11_aRow (F : Nat) (τ : Tau) (r : Int32) (τ' : Tau) (h : X11_aRow F τ = some (r, τ')) : MCi sysM yX11_aRow cX11_aRow 1 (some .boolean) 13 [.ref 0] τ r τ' :=
  mci_of (by decide +kernel) (Nat.le_of_ble_eq_true rfl) (fun K C hr => by
    show Sm K sysM 1 (Qi K sysM) (X11_aRow F τ) 0 [(0, .ref 0)] [] τ
    unfold X11_aRow
    refine sm_seg C [(.aload_n 0, 0)] (pc' := 1) (L' := [(0, .ref 0)]) (S' := [.ref 0]) (by decide +kernel) rfl ?_
    refine sm_getI 11 12 cls11 C (ltM (by decide +kernel : kdM 0 = 11) (by decide)) (by decide +kernel : kdM 0 = 11) (obM11 (by decide +kernel : kdM 0 = 11)) (by decide) (fiM11_12 (by decide +kernel : kdM 0 = 11)) fl11_167 (by decide +kernel) ?_
    refine sm_seg C [(.iconst 1, 1)] (pc' := 5) (L' := [(0, .ref 0)]) (S' := [.int 1, .int (τ 0 12)]) (by decide +kernel) rfl ?_
    refine sm_icmpne 18 (off := 13) C (by decide +kernel) (by decide) (fun _ => ?_) (fun _ => ?_)
    · refine sm_seg C [(.aload_n 0, 0)] (pc' := 9) (L' := [(0, .ref 0)]) (S' := [.ref 0]) (by decide +kernel) rfl ?_
      refine sm_vcal [] [] rfl C mw_X11_aTongue ml_11_262 rfl (ci := 11) rfl (ltM (by decide +kernel : kdM 0 = 11) (by decide)) (by decide +kernel : kdM 0 = 11) (by decide) ⟨by decide, by decide⟩ (Nat.le_of_ble_eq_true rfl) (by decide +kernel) (c_X11_aTongue F τ) (fun r1 τ2 => ?_)
      refine sm_ifeq 57 (off := 45) C (by decide +kernel) (by decide) (fun _ => ?_) (fun _ => ?_)
      · refine sm_seg C [(.iconst 0, 0)] (pc' := 58) (L' := [(0, .ref 0)]) (S' := [.int 0]) (by decide +kernel) rfl ?_
        exact sm_iret C hr rfl (by decide +kernel)
      · refine sm_seg C [(.goto 28, 0)] (pc' := 43) (L' := [(0, .ref 0)]) (S' := []) (by decide +kernel) rfl ?_
        exact sm_sub [0] rfl (s_X11_aRow_j43 F C hr τ2)
    · refine sm_seg C [(.aload_n 0, 0)] (pc' := 19) (L' := [(0, .ref 0)]) (S' := [.ref 0]) (by decide +kernel) rfl ?_
      refine sm_getI 11 12 cls11 C (ltM (by decide +kernel : kdM 0 = 11) (by decide)) (by decide +kernel : kdM 0 = 11) (obM11 (by decide +kernel : kdM 0 = 11)) (by decide) (fiM11_12 (by decide +kernel : kdM 0 = 11)) fl11_167 (by decide +kernel) ?_
      refine sm_seg C [(.iconst 2, 2)] (pc' := 23) (L' := [(0, .ref 0)]) (S' := [.int 2, .int (τ 0 12)]) (by decide +kernel) rfl ?_
      refine sm_icmpne 36 (off := 13) C (by decide +kernel) (by decide) (fun _ => ?_) (fun _ => ?_)
      · refine sm_seg C [(.aload_n 0, 0)] (pc' := 27) (L' := [(0, .ref 0)]) (S' := [.ref 0]) (by decide +kernel) rfl ?_
        refine sm_vcal [] [] rfl C mw_X11_aCourtDay ml_11_265 rfl (ci := 11) rfl (ltM (by decide +kernel : kdM 0 = 11) (by decide)) (by decide +kernel : kdM 0 = 11) (by decide) ⟨by decide, by decide⟩ (Nat.le_of_ble_eq_true rfl) (by decide +kernel) (c_X11_aCourtDay F τ) (fun r5 τ6 => ?_)
        refine sm_ifeq 57 (off := 27) C (by decide +kernel) (by decide) (fun _ => ?_) (fun _ => ?_)
        · refine sm_seg C [(.iconst 0, 0)] (pc' := 58) (L' := [(0, .ref 0)]) (S' := [.int 0]) (by decide +kernel) rfl ?_
          exact sm_iret C hr rfl (by decide +kernel)
        · refine sm_seg C [(.goto 10, 0)] (pc' := 43) (L' := [(0, .ref 0)]) (S' := []) (by decide +kernel) rfl ?_
          exact sm_sub [0] rfl (s_X11_aRow_j43 F C hr τ6)
      · refine sm_seg C [(.aload_n 0, 0)] (pc' := 37) (L' := [(0, .ref 0)]) (S' := [.ref 0]) (by decide +kernel) rfl ?_
        refine sm_vcal [] [] rfl C mw_X11_aWant ml_11_268 rfl (ci := 11) rfl (ltM (by decide +kernel : kdM 0 = 11) (by decide)) (by decide +kernel : kdM 0 = 11) (by decide) ⟨by decide, by decide⟩ (Nat.le_of_ble_eq_true rfl) (by decide +kernel) (c_X11_aWant F τ) (fun r7 τ8 => ?_)
        refine sm_ifeq 57 (off := 17) C (by decide +kernel) (by decide) (fun _ => ?_) (fun _ => ?_)
        · refine sm_seg C [(.iconst 0, 0)] (pc' := 58) (L' := [(0, .ref 0)]) (S' := [.int 0]) (by decide +kernel) rfl ?_
          exact sm_iret C hr rfl (by decide +kernel)
        · exact sm_sub [0] rfl (s_X11_aRow_j43 F C hr τ8)) h
/-! BasketEnvoysModel.isMute -/
def X11_isMute (F : Nat) (a1 : Int32) (τ : Tau) : Option (Int32 × Tau) :=
  ald τ 1 2244 256 fun v1 => cal (X11_isIn F a1 0 (v1 - 1) τ) fun r2 τ3 => some (vp_nar .boolean r2, τ3)
set_option maxRecDepth 20000 in
set_option maxHeartbeats 4000000 in
theorem c_X11_isMute (F : Nat) (a1 : Int32) (τ : Tau) (r : Int32) (τ' : Tau) (h : X11_isMute F a1 τ = some (r, τ')) : MCi sysM yX11_isMute cX11_isMute 2 (some .boolean) 2 [.ref 0, .int a1] τ r τ' :=
  mci_of (by decide +kernel) (Nat.le_of_ble_eq_true rfl) (fun K C hr => by
    show Sm K sysM 2 (Qi K sysM) (X11_isMute F a1 τ) 0 [(0, .ref 0), (1, .int a1)] [] τ
    unfold X11_isMute
    refine sm_seg C [(.iload_n 1, 0), (.iconst 0, 0), (.aload_n 0, 0)] (pc' := 3) (L' := [(0, .ref 0), (1, .int a1)]) (S' := [.ref 0, .int 0, .int a1]) (by decide +kernel) rfl ?_
    refine sm_getR 11 0 1 cls11 C (ltM (by decide +kernel : kdM 0 = 11) (by decide)) (by decide +kernel : kdM 0 = 11) (obM11 (by decide +kernel : kdM 0 = 11)) (by decide) (frM11_0 (by decide +kernel : kdM 0 = 11)) fl11_7 (by decide +kernel) ?_
    refine sm_seg C [(.sipush 256, 256)] (pc' := 9) (L' := [(0, .ref 0), (1, .int a1)]) (S' := [.int 256, .ref 1, .int 0, .int a1]) (by decide +kernel) rfl ?_
    refine sm_ald 2244 C (ltM (krM11_0 (by decide +kernel : kdM 0 = 11)) (by decide)) (krM11_0 (by decide +kernel : kdM 0 = 11)) (nrM11_0 (by decide +kernel : kdM 0 = 11)) (by decide +kernel) (fun v1 => ?_)
    refine sm_seg C [(.iconst 1, 1), (.isub, 0)] (pc' := 12) (L' := [(0, .ref 0), (1, .int a1)]) (S' := [.int (v1 - 1), .int 0, .int a1]) (by decide +kernel) rfl ?_
    refine sm_scal [.int a1, .int 0, .int (v1 - 1)] [] rfl C mw_X11_isIn ml_11_78 rfl ⟨by decide, by decide⟩ (Nat.le_of_ble_eq_true rfl) (by decide +kernel) (c_X11_isIn F a1 0 (v1 - 1) τ) (fun r2 τ3 => ?_)
    exact sm_iret C hr nar_boolean (by decide +kernel)) h
/-! BasketEnvoysModel.isPower -/
def X11_isPower (F : Nat) (a1 : Int32) (τ : Tau) : Option (Int32 × Tau) :=
  ald τ 1 2244 255 fun v1 => cal (X11_isIn F a1 0 (v1 - 1) τ) fun r2 τ3 => some (vp_nar .boolean r2, τ3)
set_option maxRecDepth 20000 in
set_option maxHeartbeats 4000000 in
theorem c_X11_isPower (F : Nat) (a1 : Int32) (τ : Tau) (r : Int32) (τ' : Tau) (h : X11_isPower F a1 τ = some (r, τ')) : MCi sysM yX11_isPower cX11_isPower 2 (some .boolean) 2 [.ref 0, .int a1] τ r τ' :=
  mci_of (by decide +kernel) (Nat.le_of_ble_eq_true rfl) (fun K C hr => by
    show Sm K sysM 2 (Qi K sysM) (X11_isPower F a1 τ) 0 [(0, .ref 0), (1, .int a1)] [] τ
    unfold X11_isPower
    refine sm_seg C [(.iload_n 1, 0), (.iconst 0, 0), (.aload_n 0, 0)] (pc' := 3) (L' := [(0, .ref 0), (1, .int a1)]) (S' := [.ref 0, .int 0, .int a1]) (by decide +kernel) rfl ?_
    refine sm_getR 11 0 1 cls11 C (ltM (by decide +kernel : kdM 0 = 11) (by decide)) (by decide +kernel : kdM 0 = 11) (obM11 (by decide +kernel : kdM 0 = 11)) (by decide) (frM11_0 (by decide +kernel : kdM 0 = 11)) fl11_7 (by decide +kernel) ?_
    refine sm_seg C [(.sipush 255, 255)] (pc' := 9) (L' := [(0, .ref 0), (1, .int a1)]) (S' := [.int 255, .ref 1, .int 0, .int a1]) (by decide +kernel) rfl ?_
    refine sm_ald 2244 C (ltM (krM11_0 (by decide +kernel : kdM 0 = 11)) (by decide)) (krM11_0 (by decide +kernel : kdM 0 = 11)) (nrM11_0 (by decide +kernel : kdM 0 = 11)) (by decide +kernel) (fun v1 => ?_)
    refine sm_seg C [(.iconst 1, 1), (.isub, 0)] (pc' := 12) (L' := [(0, .ref 0), (1, .int a1)]) (S' := [.int (v1 - 1), .int 0, .int a1]) (by decide +kernel) rfl ?_
    refine sm_scal [.int a1, .int 0, .int (v1 - 1)] [] rfl C mw_X11_isIn ml_11_78 rfl ⟨by decide, by decide⟩ (Nat.le_of_ble_eq_true rfl) (by decide +kernel) (c_X11_isIn F a1 0 (v1 - 1) τ) (fun r2 τ3 => ?_)
    exact sm_iret C hr nar_boolean (by decide +kernel)) h
/-! BasketEnvoysModel.canAct -/
def X11_canAct_j28 (F : Nat) (a1 : Int32) (a2 : Int32) (a3 : Int32) (z0 : Int32) (τ : Tau) : Option (Int32 × Tau) :=
  if a1 = 0 then (if z0 = 0 then (some (0, τ)) else (cal (X11_isPower F a3 τ) fun r4 τ5 => if r4 = 0 then (some (0, τ5)) else (some (1, τ5)))) else if a1 = 1 then (if z0 = 0 then (some (1, τ)) else (some (0, τ))) else if a1 = 2 then (if z0 = 0 then (some (0, τ)) else (cal (X11_isIn F a3 0 11 τ) fun r6 τ7 => if r6 = 0 then (some (0, τ7)) else (ald τ7 1 2244 (115 + a2) fun v8 => if 8 ≤ v8 then (some (0, τ7)) else (some (1, τ7))))) else if a1 = 3 then (if z0 = 0 then (some (0, τ)) else (ald τ 1 2244 (115 + a2) fun v9 => if v9 ≤ 0 then (some (0, τ)) else (some (1, τ)))) else (if a1 = 4 then (if z0 = 0 then (some (0, τ)) else (some (1, τ))) else (some (0, τ)))
theorem s_X11_canAct_j28 (F : Nat) {K : Ctx} (C : Cx K sysM RX11 cX11_canAct 5 3) (hr : Rt K (some .boolean)) (a1 : Int32) (a2 : Int32) (a3 : Int32) (z0 : Int32) (τ : Tau) : Sm K sysM 5 (Qi K sysM) (X11_canAct_j28 F a1 a2 a3 z0 τ) 28 [(0, .ref 0), (1, .int a1), (2, .int a2), (3, .int a3)] [.int z0] τ := by
  unfold X11_canAct_j28
  refine sm_seg C [(.istore 4, 0), (.iload_n 1, 0)] (pc' := 31) (L' := [(4, .int z0), (0, .ref 0), (1, .int a1), (2, .int a2), (3, .int a3)]) (S' := [.int a1]) (by decide +kernel) rfl ?_
  have hd31 : decode cX11_canAct 31 = .ok (.tableswitch 117 0 3 #[29, 48, 59, 94], 29) := by decide +kernel
  refine sm_ite (fun e => ?_) (fun n31_0 => ?_)
  · refine sm_tabIn (off := 29) 60 C hd31 (by rw [e]; decide) (by rw [e]; decide) (by rw [e]; decide) (by decide) ?_
    refine sm_seg C [(.iload 4, 0)] (pc' := 62) (L' := [(4, .int z0), (0, .ref 0), (1, .int a1), (2, .int a2), (3, .int a3)]) (S' := [.int z0]) (by decide +kernel) rfl ?_
    refine sm_ifeq 77 (off := 15) C (by decide +kernel) (by decide) (fun _ => ?_) (fun _ => ?_)
    · refine sm_seg C [(.iconst 0, 0)] (pc' := 78) (L' := [(4, .int z0), (0, .ref 0), (1, .int a1), (2, .int a2), (3, .int a3)]) (S' := [.int 0]) (by decide +kernel) rfl ?_
      exact sm_iret C hr rfl (by decide +kernel)
    · refine sm_seg C [(.aload_n 0, 0), (.iload_n 3, 0)] (pc' := 67) (L' := [(4, .int z0), (0, .ref 0), (1, .int a1), (2, .int a2), (3, .int a3)]) (S' := [.int a3, .ref 0]) (by decide +kernel) rfl ?_
      refine sm_vcal [.int a3] [] rfl C mw_X11_isPower ml_11_90 rfl (ci := 11) rfl (ltM (by decide +kernel : kdM 0 = 11) (by decide)) (by decide +kernel : kdM 0 = 11) (by decide) ⟨by decide, by decide⟩ (Nat.le_of_ble_eq_true rfl) (by decide +kernel) (c_X11_isPower F a3 τ) (fun r4 τ5 => ?_)
      refine sm_ifeq 77 (off := 7) C (by decide +kernel) (by decide) (fun _ => ?_) (fun _ => ?_)
      · refine sm_seg C [(.iconst 0, 0)] (pc' := 78) (L' := [(4, .int z0), (0, .ref 0), (1, .int a1), (2, .int a2), (3, .int a3)]) (S' := [.int 0]) (by decide +kernel) rfl ?_
        exact sm_iret C hr rfl (by decide +kernel)
      · refine sm_seg C [(.iconst 1, 1), (.goto 4, 0)] (pc' := 78) (L' := [(4, .int z0), (0, .ref 0), (1, .int a1), (2, .int a2), (3, .int a3)]) (S' := [.int 1]) (by decide +kernel) rfl ?_
        exact sm_iret C hr rfl (by decide +kernel)
  refine sm_ite (fun e => ?_) (fun n31_1 => ?_)
  · refine sm_tabIn (off := 48) 79 C hd31 (by rw [e]; decide) (by rw [e]; decide) (by rw [e]; decide) (by decide) ?_
    refine sm_seg C [(.iload 4, 0)] (pc' := 81) (L' := [(4, .int z0), (0, .ref 0), (1, .int a1), (2, .int a2), (3, .int a3)]) (S' := [.int z0]) (by decide +kernel) rfl ?_
    refine sm_ifne 88 (off := 7) C (by decide +kernel) (by decide) (fun _ => ?_) (fun _ => ?_)
    · refine sm_seg C [(.iconst 1, 1), (.goto 4, 0)] (pc' := 89) (L' := [(4, .int z0), (0, .ref 0), (1, .int a1), (2, .int a2), (3, .int a3)]) (S' := [.int 1]) (by decide +kernel) rfl ?_
      exact sm_iret C hr rfl (by decide +kernel)
    · refine sm_seg C [(.iconst 0, 0)] (pc' := 89) (L' := [(4, .int z0), (0, .ref 0), (1, .int a1), (2, .int a2), (3, .int a3)]) (S' := [.int 0]) (by decide +kernel) rfl ?_
      exact sm_iret C hr rfl (by decide +kernel)
  refine sm_ite (fun e => ?_) (fun n31_2 => ?_)
  · refine sm_tabIn (off := 59) 90 C hd31 (by rw [e]; decide) (by rw [e]; decide) (by rw [e]; decide) (by decide) ?_
    refine sm_seg C [(.iload 4, 0)] (pc' := 92) (L' := [(4, .int z0), (0, .ref 0), (1, .int a1), (2, .int a2), (3, .int a3)]) (S' := [.int z0]) (by decide +kernel) rfl ?_
    refine sm_ifeq 123 (off := 31) C (by decide +kernel) (by decide) (fun _ => ?_) (fun _ => ?_)
    · refine sm_seg C [(.iconst 0, 0)] (pc' := 124) (L' := [(4, .int z0), (0, .ref 0), (1, .int a1), (2, .int a2), (3, .int a3)]) (S' := [.int 0]) (by decide +kernel) rfl ?_
      exact sm_iret C hr rfl (by decide +kernel)
    · refine sm_seg C [(.iload_n 3, 0), (.iconst 0, 0), (.bipush 11, 11)] (pc' := 99) (L' := [(4, .int z0), (0, .ref 0), (1, .int a1), (2, .int a2), (3, .int a3)]) (S' := [.int 11, .int 0, .int a3]) (by decide +kernel) rfl ?_
      refine sm_scal [.int a3, .int 0, .int 11] [] rfl C mw_X11_isIn ml_11_78 rfl ⟨by decide, by decide⟩ (Nat.le_of_ble_eq_true rfl) (by decide +kernel) (c_X11_isIn F a3 0 11 τ) (fun r6 τ7 => ?_)
      refine sm_ifeq 123 (off := 21) C (by decide +kernel) (by decide) (fun _ => ?_) (fun _ => ?_)
      · refine sm_seg C [(.iconst 0, 0)] (pc' := 124) (L' := [(4, .int z0), (0, .ref 0), (1, .int a1), (2, .int a2), (3, .int a3)]) (S' := [.int 0]) (by decide +kernel) rfl ?_
        exact sm_iret C hr rfl (by decide +kernel)
      · refine sm_seg C [(.aload_n 0, 0)] (pc' := 106) (L' := [(4, .int z0), (0, .ref 0), (1, .int a1), (2, .int a2), (3, .int a3)]) (S' := [.ref 0]) (by decide +kernel) rfl ?_
        refine sm_getR 11 0 1 cls11 C (ltM (by decide +kernel : kdM 0 = 11) (by decide)) (by decide +kernel : kdM 0 = 11) (obM11 (by decide +kernel : kdM 0 = 11)) (by decide) (frM11_0 (by decide +kernel : kdM 0 = 11)) fl11_7 (by decide +kernel) ?_
        refine sm_seg C [(.bipush 115, 115), (.iload_n 2, 0), (.iadd, 0)] (pc' := 113) (L' := [(4, .int z0), (0, .ref 0), (1, .int a1), (2, .int a2), (3, .int a3)]) (S' := [.int (115 + a2), .ref 1]) (by decide +kernel) rfl ?_
        refine sm_ald 2244 C (ltM (krM11_0 (by decide +kernel : kdM 0 = 11)) (by decide)) (krM11_0 (by decide +kernel : kdM 0 = 11)) (nrM11_0 (by decide +kernel : kdM 0 = 11)) (by decide +kernel) (fun v8 => ?_)
        refine sm_seg C [(.bipush 8, 8)] (pc' := 116) (L' := [(4, .int z0), (0, .ref 0), (1, .int a1), (2, .int a2), (3, .int a3)]) (S' := [.int 8, .int v8]) (by decide +kernel) rfl ?_
        refine sm_icmpge 123 (off := 7) C (by decide +kernel) (by decide) (fun _ => ?_) (fun _ => ?_)
        · refine sm_seg C [(.iconst 0, 0)] (pc' := 124) (L' := [(4, .int z0), (0, .ref 0), (1, .int a1), (2, .int a2), (3, .int a3)]) (S' := [.int 0]) (by decide +kernel) rfl ?_
          exact sm_iret C hr rfl (by decide +kernel)
        · refine sm_seg C [(.iconst 1, 1), (.goto 4, 0)] (pc' := 124) (L' := [(4, .int z0), (0, .ref 0), (1, .int a1), (2, .int a2), (3, .int a3)]) (S' := [.int 1]) (by decide +kernel) rfl ?_
          exact sm_iret C hr rfl (by decide +kernel)
  refine sm_ite (fun e => ?_) (fun n31_3 => ?_)
  · refine sm_tabIn (off := 94) 125 C hd31 (by rw [e]; decide) (by rw [e]; decide) (by rw [e]; decide) (by decide) ?_
    refine sm_seg C [(.iload 4, 0)] (pc' := 127) (L' := [(4, .int z0), (0, .ref 0), (1, .int a1), (2, .int a2), (3, .int a3)]) (S' := [.int z0]) (by decide +kernel) rfl ?_
    refine sm_ifeq 146 (off := 19) C (by decide +kernel) (by decide) (fun _ => ?_) (fun _ => ?_)
    · refine sm_seg C [(.iconst 0, 0)] (pc' := 147) (L' := [(4, .int z0), (0, .ref 0), (1, .int a1), (2, .int a2), (3, .int a3)]) (S' := [.int 0]) (by decide +kernel) rfl ?_
      exact sm_iret C hr rfl (by decide +kernel)
    · refine sm_seg C [(.aload_n 0, 0)] (pc' := 131) (L' := [(4, .int z0), (0, .ref 0), (1, .int a1), (2, .int a2), (3, .int a3)]) (S' := [.ref 0]) (by decide +kernel) rfl ?_
      refine sm_getR 11 0 1 cls11 C (ltM (by decide +kernel : kdM 0 = 11) (by decide)) (by decide +kernel : kdM 0 = 11) (obM11 (by decide +kernel : kdM 0 = 11)) (by decide) (frM11_0 (by decide +kernel : kdM 0 = 11)) fl11_7 (by decide +kernel) ?_
      refine sm_seg C [(.bipush 115, 115), (.iload_n 2, 0), (.iadd, 0)] (pc' := 138) (L' := [(4, .int z0), (0, .ref 0), (1, .int a1), (2, .int a2), (3, .int a3)]) (S' := [.int (115 + a2), .ref 1]) (by decide +kernel) rfl ?_
      refine sm_ald 2244 C (ltM (krM11_0 (by decide +kernel : kdM 0 = 11)) (by decide)) (krM11_0 (by decide +kernel : kdM 0 = 11)) (nrM11_0 (by decide +kernel : kdM 0 = 11)) (by decide +kernel) (fun v9 => ?_)
      refine sm_ifle 146 (off := 7) C (by decide +kernel) (by decide) (fun _ => ?_) (fun _ => ?_)
      · refine sm_seg C [(.iconst 0, 0)] (pc' := 147) (L' := [(4, .int z0), (0, .ref 0), (1, .int a1), (2, .int a2), (3, .int a3)]) (S' := [.int 0]) (by decide +kernel) rfl ?_
        exact sm_iret C hr rfl (by decide +kernel)
      · refine sm_seg C [(.iconst 1, 1), (.goto 4, 0)] (pc' := 147) (L' := [(4, .int z0), (0, .ref 0), (1, .int a1), (2, .int a2), (3, .int a3)]) (S' := [.int 1]) (by decide +kernel) rfl ?_
        exact sm_iret C hr rfl (by decide +kernel)
  refine sm_tabOut 148 C hd31 (by have q0 := toInt_neZ (z := 0) n31_0 (by decide); have q1 := toInt_neZ (z := 1) n31_1 (by decide); have q2 := toInt_neZ (z := 2) n31_2 (by decide); have q3 := toInt_neZ (z := 3) n31_3 (by decide); omega) (by decide) ?_
  refine sm_seg C [(.iload_n 1, 0), (.iconst 4, 4)] (pc' := 150) (L' := [(4, .int z0), (0, .ref 0), (1, .int a1), (2, .int a2), (3, .int a3)]) (S' := [.int 4, .int a1]) (by decide +kernel) rfl ?_
  refine sm_icmpne 162 (off := 12) C (by decide +kernel) (by decide) (fun _ => ?_) (fun _ => ?_)
  · refine sm_seg C [(.iload 4, 0)] (pc' := 155) (L' := [(4, .int z0), (0, .ref 0), (1, .int a1), (2, .int a2), (3, .int a3)]) (S' := [.int z0]) (by decide +kernel) rfl ?_
    refine sm_ifeq 162 (off := 7) C (by decide +kernel) (by decide) (fun _ => ?_) (fun _ => ?_)
    · refine sm_seg C [(.iconst 0, 0)] (pc' := 163) (L' := [(4, .int z0), (0, .ref 0), (1, .int a1), (2, .int a2), (3, .int a3)]) (S' := [.int 0]) (by decide +kernel) rfl ?_
      exact sm_iret C hr rfl (by decide +kernel)
    · refine sm_seg C [(.iconst 1, 1), (.goto 4, 0)] (pc' := 163) (L' := [(4, .int z0), (0, .ref 0), (1, .int a1), (2, .int a2), (3, .int a3)]) (S' := [.int 1]) (by decide +kernel) rfl ?_
      exact sm_iret C hr rfl (by decide +kernel)
  · refine sm_seg C [(.iconst 0, 0)] (pc' := 163) (L' := [(4, .int z0), (0, .ref 0), (1, .int a1), (2, .int a2), (3, .int a3)]) (S' := [.int 0]) (by decide +kernel) rfl ?_
    exact sm_iret C hr rfl (by decide +kernel)
def X11_canAct (F : Nat) (a1 : Int32) (a2 : Int32) (a3 : Int32) (τ : Tau) : Option (Int32 × Tau) :=
  cal (X11_isMute F a2 τ) fun r1 τ2 => if r1 = 0 then (some (0, τ2)) else (ald τ2 1 2244 (87 + a2) fun v3 => if v3 = (-1) then (X11_canAct_j28 F a1 a2 a3 1 τ2) else (X11_canAct_j28 F a1 a2 a3 0 τ2))
set_option maxRecDepth 20000 in
set_option maxHeartbeats 4000000 in
theorem c_X11_canAct (F : Nat) (a1 : Int32) (a2 : Int32) (a3 : Int32) (τ : Tau) (r : Int32) (τ' : Tau) (h : X11_canAct F a1 a2 a3 τ = some (r, τ')) : MCi sysM yX11_canAct cX11_canAct 5 (some .boolean) 3 [.ref 0, .int a1, .int a2, .int a3] τ r τ' :=
  mci_of (by decide +kernel) (Nat.le_of_ble_eq_true rfl) (fun K C hr => by
    show Sm K sysM 5 (Qi K sysM) (X11_canAct F a1 a2 a3 τ) 0 [(0, .ref 0), (1, .int a1), (2, .int a2), (3, .int a3)] [] τ
    unfold X11_canAct
    refine sm_seg C [(.aload_n 0, 0), (.iload_n 2, 0)] (pc' := 2) (L' := [(0, .ref 0), (1, .int a1), (2, .int a2), (3, .int a3)]) (S' := [.int a2, .ref 0]) (by decide +kernel) rfl ?_
    refine sm_vcal [.int a2] [] rfl C mw_X11_isMute ml_11_94 rfl (ci := 11) rfl (ltM (by decide +kernel : kdM 0 = 11) (by decide)) (by decide +kernel : kdM 0 = 11) (by decide) ⟨by decide, by decide⟩ (Nat.le_of_ble_eq_true rfl) (by decide +kernel) (c_X11_isMute F a2 τ) (fun r1 τ2 => ?_)
    refine sm_ifne 10 (off := 5) C (by decide +kernel) (by decide) (fun _ => ?_) (fun _ => ?_)
    · refine sm_seg C [(.iconst 0, 0)] (pc' := 9) (L' := [(0, .ref 0), (1, .int a1), (2, .int a2), (3, .int a3)]) (S' := [.int 0]) (by decide +kernel) rfl ?_
      exact sm_iret C hr rfl (by decide +kernel)
    · refine sm_seg C [(.aload_n 0, 0)] (pc' := 11) (L' := [(0, .ref 0), (1, .int a1), (2, .int a2), (3, .int a3)]) (S' := [.ref 0]) (by decide +kernel) rfl ?_
      refine sm_getR 11 0 1 cls11 C (ltM (by decide +kernel : kdM 0 = 11) (by decide)) (by decide +kernel : kdM 0 = 11) (obM11 (by decide +kernel : kdM 0 = 11)) (by decide) (frM11_0 (by decide +kernel : kdM 0 = 11)) fl11_7 (by decide +kernel) ?_
      refine sm_seg C [(.bipush 87, 87), (.iload_n 2, 0), (.iadd, 0)] (pc' := 18) (L' := [(0, .ref 0), (1, .int a1), (2, .int a2), (3, .int a3)]) (S' := [.int (87 + a2), .ref 1]) (by decide +kernel) rfl ?_
      refine sm_ald 2244 C (ltM (krM11_0 (by decide +kernel : kdM 0 = 11)) (by decide)) (krM11_0 (by decide +kernel : kdM 0 = 11)) (nrM11_0 (by decide +kernel : kdM 0 = 11)) (by decide +kernel) (fun v3 => ?_)
      refine sm_seg C [(.iconst (-1), (-1))] (pc' := 20) (L' := [(0, .ref 0), (1, .int a1), (2, .int a2), (3, .int a3)]) (S' := [.int (-1), .int v3]) (by decide +kernel) rfl ?_
      refine sm_icmpne 27 (off := 7) C (by decide +kernel) (by decide) (fun _ => ?_) (fun _ => ?_)
      · refine sm_seg C [(.iconst 1, 1), (.goto 4, 0)] (pc' := 28) (L' := [(0, .ref 0), (1, .int a1), (2, .int a2), (3, .int a3)]) (S' := [.int 1]) (by decide +kernel) rfl ?_
        exact sm_sub [0, 1, 2, 3] rfl (s_X11_canAct_j28 F C hr a1 a2 a3 1 τ2)
      · refine sm_seg C [(.iconst 0, 0)] (pc' := 28) (L' := [(0, .ref 0), (1, .int a1), (2, .int a2), (3, .int a3)]) (S' := [.int 0]) (by decide +kernel) rfl ?_
        exact sm_sub [0, 1, 2, 3] rfl (s_X11_canAct_j28 F C hr a1 a2 a3 0 τ2)) h
/-! BasketEnvoysModel.keeps -/
def X11_keeps_L52 (F : Nat) : Nat → Int32 → Tau → Option (Int32 × Tau)
  | 0, _, _ => none
  | n + 1, a1, τ =>
    if 255 ≤ a1 then (pst τ 0 4 ((τ 0 4) + 1) fun τ2 => pst τ2 0 26 1 fun τ3 => some (0, τ3)) else (ald τ 1 2244 a1 fun v4 => ast τ 3 1530 ((255 * (τ 0 4)) + a1) v4 fun τ5 => X11_keeps_L52 F n (a1 + 1) τ5)
theorem s_X11_keeps_L52 (F : Nat) {K : Ctx} (C : Cx K sysM RX11 cX11_keeps 2 1) (hr : Rt K none) : ∀ (n : Nat) (a1 : Int32) (τ : Tau), Sm K sysM 2 (Qv K sysM) (X11_keeps_L52 F n a1 τ) 52 [(0, .ref 0), (1, .int a1)] [] τ := by
  intro n
  induction n with
  | zero => intro a1 τ; exact sm_none
  | succ n ih =>
    intro a1 τ
    rw [X11_keeps_L52]
    refine sm_seg C [(.iload_n 1, 0), (.sipush 255, 255)] (pc' := 56) (L' := [(0, .ref 0), (1, .int a1)]) (S' := [.int 255, .int a1]) (by decide +kernel) rfl ?_
    refine sm_icmpge 86 (off := 30) C (by decide +kernel) (by decide) (fun _ => ?_) (fun _ => ?_)
    · refine sm_seg C [(.aload_n 0, 0), (.dup, 0)] (pc' := 88) (L' := [(0, .ref 0), (1, .int a1)]) (S' := [.ref 0, .ref 0]) (by decide +kernel) rfl ?_
      refine sm_getI 11 4 cls11 C (ltM (by decide +kernel : kdM 0 = 11) (by decide)) (by decide +kernel : kdM 0 = 11) (obM11 (by decide +kernel : kdM 0 = 11)) (by decide) (fiM11_4 (by decide +kernel : kdM 0 = 11)) fl11_82 (by decide +kernel) ?_
      refine sm_seg C [(.iconst 1, 1), (.iadd, 0)] (pc' := 93) (L' := [(0, .ref 0), (1, .int a1)]) (S' := [.int ((τ 0 4) + 1), .ref 0]) (by decide +kernel) rfl ?_
      refine sm_pst 11 4 cls11 C (ltM (by decide +kernel : kdM 0 = 11) (by decide)) (by decide +kernel : kdM 0 = 11) (obM11 (by decide +kernel : kdM 0 = 11)) (by decide) (fiM11_4 (by decide +kernel : kdM 0 = 11)) rfl rfl rfl fl11_82 (by decide +kernel) (fun τ2 => ?_)
      refine sm_seg C [(.aload_n 0, 0), (.iconst 1, 1)] (pc' := 98) (L' := [(0, .ref 0), (1, .int a1)]) (S' := [.int 1, .ref 0]) (by decide +kernel) rfl ?_
      refine sm_pst 11 26 cls11 C (ltM (by decide +kernel : kdM 0 = 11) (by decide)) (by decide +kernel : kdM 0 = 11) (obM11 (by decide +kernel : kdM 0 = 11)) (by decide) (fiM11_26 (by decide +kernel : kdM 0 = 11)) rfl rfl rfl fl11_318 (by decide +kernel) (fun τ3 => ?_)
      exact sm_vret C hr (by decide +kernel)
    · refine sm_seg C [(.aload_n 0, 0)] (pc' := 60) (L' := [(0, .ref 0), (1, .int a1)]) (S' := [.ref 0]) (by decide +kernel) rfl ?_
      refine sm_getR 11 2 3 cls11 C (ltM (by decide +kernel : kdM 0 = 11) (by decide)) (by decide +kernel : kdM 0 = 11) (obM11 (by decide +kernel : kdM 0 = 11)) (by decide) (frM11_2 (by decide +kernel : kdM 0 = 11)) fl11_16 (by decide +kernel) ?_
      refine sm_seg C [(.sipush 255, 255), (.aload_n 0, 0)] (pc' := 67) (L' := [(0, .ref 0), (1, .int a1)]) (S' := [.ref 0, .int 255, .ref 3]) (by decide +kernel) rfl ?_
      refine sm_getI 11 4 cls11 C (ltM (by decide +kernel : kdM 0 = 11) (by decide)) (by decide +kernel : kdM 0 = 11) (obM11 (by decide +kernel : kdM 0 = 11)) (by decide) (fiM11_4 (by decide +kernel : kdM 0 = 11)) fl11_82 (by decide +kernel) ?_
      refine sm_seg C [(.imul, 0), (.iload_n 1, 0), (.iadd, 0), (.aload_n 0, 0)] (pc' := 74) (L' := [(0, .ref 0), (1, .int a1)]) (S' := [.ref 0, .int ((255 * (τ 0 4)) + a1), .ref 3]) (by decide +kernel) rfl ?_
      refine sm_getR 11 0 1 cls11 C (ltM (by decide +kernel : kdM 0 = 11) (by decide)) (by decide +kernel : kdM 0 = 11) (obM11 (by decide +kernel : kdM 0 = 11)) (by decide) (frM11_0 (by decide +kernel : kdM 0 = 11)) fl11_7 (by decide +kernel) ?_
      refine sm_seg C [(.iload_n 1, 0)] (pc' := 78) (L' := [(0, .ref 0), (1, .int a1)]) (S' := [.int a1, .ref 1, .int ((255 * (τ 0 4)) + a1), .ref 3]) (by decide +kernel) rfl ?_
      refine sm_ald 2244 C (ltM (krM11_0 (by decide +kernel : kdM 0 = 11)) (by decide)) (krM11_0 (by decide +kernel : kdM 0 = 11)) (nrM11_0 (by decide +kernel : kdM 0 = 11)) (by decide +kernel) (fun v4 => ?_)
      refine sm_ast 1530 C (ltM (krM11_2 (by decide +kernel : kdM 0 = 11)) (by decide)) (krM11_2 (by decide +kernel : kdM 0 = 11)) (nrM11_2 (by decide +kernel : kdM 0 = 11)) (by decide +kernel) (fun τ5 => ?_)
      refine sm_seg C [(.iinc 1 1, 1), (.goto (-31), 0)] (pc' := 52) (L' := [(1, .int (a1 + 1)), (0, .ref 0)]) (S' := []) (by decide +kernel) rfl ?_
      exact sm_sub [1, 0] rfl (ih (a1 + 1) τ5)
def X11_keeps_j50 (F : Nat) (τ : Tau) : Option (Int32 × Tau) :=
  X11_keeps_L52 F F 0 τ
theorem s_X11_keeps_j50 (F : Nat) {K : Ctx} (C : Cx K sysM RX11 cX11_keeps 2 1) (hr : Rt K none) (τ : Tau) : Sm K sysM 2 (Qv K sysM) (X11_keeps_j50 F τ) 50 [(0, .ref 0)] [] τ := by
  unfold X11_keeps_j50
  refine sm_seg C [(.iconst 0, 0), (.istore_n 1, 0)] (pc' := 52) (L' := [(1, .int 0), (0, .ref 0)]) (S' := []) (by decide +kernel) rfl ?_
  exact sm_sub [1, 0] rfl (s_X11_keeps_L52 F C hr F 0 τ)
def X11_keeps_L11 (F : Nat) : Nat → Int32 → Tau → Option (Int32 × Tau)
  | 0, _, _ => none
  | n + 1, a1, τ =>
    if 1275 ≤ a1 then (pst τ 0 4 ((τ 0 4) - 1) fun τ1 => X11_keeps_j50 F τ1) else (ald τ 3 1530 (a1 + 255) fun v6 => ast τ 3 1530 a1 v6 fun τ7 => X11_keeps_L11 F n (a1 + 1) τ7)
theorem s_X11_keeps_L11 (F : Nat) {K : Ctx} (C : Cx K sysM RX11 cX11_keeps 2 1) (hr : Rt K none) : ∀ (n : Nat) (a1 : Int32) (τ : Tau), Sm K sysM 2 (Qv K sysM) (X11_keeps_L11 F n a1 τ) 11 [(0, .ref 0), (1, .int a1)] [] τ := by
  intro n
  induction n with
  | zero => intro a1 τ; exact sm_none
  | succ n ih =>
    intro a1 τ
    rw [X11_keeps_L11]
    refine sm_seg C [(.iload_n 1, 0), (.sipush 1275, 1275)] (pc' := 15) (L' := [(0, .ref 0), (1, .int a1)]) (S' := [.int 1275, .int a1]) (by decide +kernel) rfl ?_
    refine sm_icmpge 40 (off := 25) C (by decide +kernel) (by decide) (fun _ => ?_) (fun _ => ?_)
    · refine sm_seg C [(.aload_n 0, 0), (.dup, 0)] (pc' := 42) (L' := [(0, .ref 0), (1, .int a1)]) (S' := [.ref 0, .ref 0]) (by decide +kernel) rfl ?_
      refine sm_getI 11 4 cls11 C (ltM (by decide +kernel : kdM 0 = 11) (by decide)) (by decide +kernel : kdM 0 = 11) (obM11 (by decide +kernel : kdM 0 = 11)) (by decide) (fiM11_4 (by decide +kernel : kdM 0 = 11)) fl11_82 (by decide +kernel) ?_
      refine sm_seg C [(.iconst 1, 1), (.isub, 0)] (pc' := 47) (L' := [(0, .ref 0), (1, .int a1)]) (S' := [.int ((τ 0 4) - 1), .ref 0]) (by decide +kernel) rfl ?_
      refine sm_pst 11 4 cls11 C (ltM (by decide +kernel : kdM 0 = 11) (by decide)) (by decide +kernel : kdM 0 = 11) (obM11 (by decide +kernel : kdM 0 = 11)) (by decide) (fiM11_4 (by decide +kernel : kdM 0 = 11)) rfl rfl rfl fl11_82 (by decide +kernel) (fun τ1 => ?_)
      exact sm_sub [0] rfl (s_X11_keeps_j50 F C hr τ1)
    · refine sm_seg C [(.aload_n 0, 0)] (pc' := 19) (L' := [(0, .ref 0), (1, .int a1)]) (S' := [.ref 0]) (by decide +kernel) rfl ?_
      refine sm_getR 11 2 3 cls11 C (ltM (by decide +kernel : kdM 0 = 11) (by decide)) (by decide +kernel : kdM 0 = 11) (obM11 (by decide +kernel : kdM 0 = 11)) (by decide) (frM11_2 (by decide +kernel : kdM 0 = 11)) fl11_16 (by decide +kernel) ?_
      refine sm_seg C [(.iload_n 1, 0), (.aload_n 0, 0)] (pc' := 24) (L' := [(0, .ref 0), (1, .int a1)]) (S' := [.ref 0, .int a1, .ref 3]) (by decide +kernel) rfl ?_
      refine sm_getR 11 2 3 cls11 C (ltM (by decide +kernel : kdM 0 = 11) (by decide)) (by decide +kernel : kdM 0 = 11) (obM11 (by decide +kernel : kdM 0 = 11)) (by decide) (frM11_2 (by decide +kernel : kdM 0 = 11)) fl11_16 (by decide +kernel) ?_
      refine sm_seg C [(.iload_n 1, 0), (.sipush 255, 255), (.iadd, 0)] (pc' := 32) (L' := [(0, .ref 0), (1, .int a1)]) (S' := [.int (a1 + 255), .ref 3, .int a1, .ref 3]) (by decide +kernel) rfl ?_
      refine sm_ald 1530 C (ltM (krM11_2 (by decide +kernel : kdM 0 = 11)) (by decide)) (krM11_2 (by decide +kernel : kdM 0 = 11)) (nrM11_2 (by decide +kernel : kdM 0 = 11)) (by decide +kernel) (fun v6 => ?_)
      refine sm_ast 1530 C (ltM (krM11_2 (by decide +kernel : kdM 0 = 11)) (by decide)) (krM11_2 (by decide +kernel : kdM 0 = 11)) (nrM11_2 (by decide +kernel : kdM 0 = 11)) (by decide +kernel) (fun τ7 => ?_)
      refine sm_seg C [(.iinc 1 1, 1), (.goto (-26), 0)] (pc' := 11) (L' := [(1, .int (a1 + 1)), (0, .ref 0)]) (S' := []) (by decide +kernel) rfl ?_
      exact sm_sub [1, 0] rfl (ih (a1 + 1) τ7)
def X11_keeps (F : Nat) (τ : Tau) : Option (Int32 × Tau) :=
  if (τ 0 4) = 6 then (X11_keeps_L11 F F 0 τ) else (X11_keeps_j50 F τ)
set_option maxRecDepth 20000 in
set_option maxHeartbeats 4000000 in
theorem c_X11_keeps (F : Nat) (τ : Tau) (r : Int32) (τ' : Tau) (h : X11_keeps F τ = some (r, τ')) : MCv sysM yX11_keeps cX11_keeps 2 1 [.ref 0] τ τ' :=
  mcv_of (by decide +kernel) (Nat.le_of_ble_eq_true rfl) (fun K C hr => by
    show Sm K sysM 2 (Qv K sysM) (X11_keeps F τ) 0 [(0, .ref 0)] [] τ
    unfold X11_keeps
    refine sm_seg C [(.aload_n 0, 0)] (pc' := 1) (L' := [(0, .ref 0)]) (S' := [.ref 0]) (by decide +kernel) rfl ?_
    refine sm_getI 11 4 cls11 C (ltM (by decide +kernel : kdM 0 = 11) (by decide)) (by decide +kernel : kdM 0 = 11) (obM11 (by decide +kernel : kdM 0 = 11)) (by decide) (fiM11_4 (by decide +kernel : kdM 0 = 11)) fl11_82 (by decide +kernel) ?_
    refine sm_seg C [(.bipush 6, 6)] (pc' := 6) (L' := [(0, .ref 0)]) (S' := [.int 6, .int (τ 0 4)]) (by decide +kernel) rfl ?_
    refine sm_icmpne 50 (off := 44) C (by decide +kernel) (by decide) (fun _ => ?_) (fun _ => ?_)
    · refine sm_seg C [(.iconst 0, 0), (.istore_n 1, 0)] (pc' := 11) (L' := [(1, .int 0), (0, .ref 0)]) (S' := []) (by decide +kernel) rfl ?_
      exact sm_sub [1, 0] rfl (s_X11_keeps_L11 F C hr F 0 τ)
    · exact sm_sub [0] rfl (s_X11_keeps_j50 F C hr τ)) h
/-! BasketEnvoysModel.notes -/
def X11_notes (F : Nat) (a1 : Int32) (a2 : Int32) (a3 : Int32) (τ : Tau) : Option (Int32 × Tau) :=
  if (τ 0 26) = 0 then (some (0, τ)) else (ald τ 1 2244 4 fun v1 => if v1 = 150 then (some (0, τ)) else (ald τ 1 2244 4 fun v2 => ald τ 1 2244 2 fun v3 => ast τ 1 2244 (760 + (4 * v2)) v3 fun τ4 => ast τ4 1 2244 ((760 + (4 * v2)) + 1) a1 fun τ5 => ast τ5 1 2244 ((760 + (4 * v2)) + 2) a2 fun τ6 => ast τ6 1 2244 ((760 + (4 * v2)) + 3) a3 fun τ7 => ald τ7 1 2244 4 fun v8 => ast τ7 1 2244 4 (v8 + 1) fun τ9 => some (0, τ9)))
set_option maxRecDepth 20000 in
set_option maxHeartbeats 4000000 in
theorem c_X11_notes (F : Nat) (a1 : Int32) (a2 : Int32) (a3 : Int32) (τ : Tau) (r : Int32) (τ' : Tau) (h : X11_notes F a1 a2 a3 τ = some (r, τ')) : MCv sysM yX11_notes cX11_notes 5 1 [.ref 0, .int a1, .int a2, .int a3] τ τ' :=
  mcv_of (by decide +kernel) (Nat.le_of_ble_eq_true rfl) (fun K C hr => by
    show Sm K sysM 5 (Qv K sysM) (X11_notes F a1 a2 a3 τ) 0 [(0, .ref 0), (1, .int a1), (2, .int a2), (3, .int a3)] [] τ
    unfold X11_notes
    refine sm_seg C [(.aload_n 0, 0)] (pc' := 1) (L' := [(0, .ref 0), (1, .int a1), (2, .int a2), (3, .int a3)]) (S' := [.ref 0]) (by decide +kernel) rfl ?_
    refine sm_getI 11 26 cls11 C (ltM (by decide +kernel : kdM 0 = 11) (by decide)) (by decide +kernel : kdM 0 = 11) (obM11 (by decide +kernel : kdM 0 = 11)) (by decide) (fiM11_26 (by decide +kernel : kdM 0 = 11)) fl11_318 (by decide +kernel) ?_
    refine sm_ifeq 19 (off := 15) C (by decide +kernel) (by decide) (fun _ => ?_) (fun _ => ?_)
    · exact sm_vret C hr (by decide +kernel)
    · refine sm_seg C [(.aload_n 0, 0)] (pc' := 8) (L' := [(0, .ref 0), (1, .int a1), (2, .int a2), (3, .int a3)]) (S' := [.ref 0]) (by decide +kernel) rfl ?_
      refine sm_getR 11 0 1 cls11 C (ltM (by decide +kernel : kdM 0 = 11) (by decide)) (by decide +kernel : kdM 0 = 11) (obM11 (by decide +kernel : kdM 0 = 11)) (by decide) (frM11_0 (by decide +kernel : kdM 0 = 11)) fl11_7 (by decide +kernel) ?_
      refine sm_seg C [(.iconst 4, 4)] (pc' := 12) (L' := [(0, .ref 0), (1, .int a1), (2, .int a2), (3, .int a3)]) (S' := [.int 4, .ref 1]) (by decide +kernel) rfl ?_
      refine sm_ald 2244 C (ltM (krM11_0 (by decide +kernel : kdM 0 = 11)) (by decide)) (krM11_0 (by decide +kernel : kdM 0 = 11)) (nrM11_0 (by decide +kernel : kdM 0 = 11)) (by decide +kernel) (fun v1 => ?_)
      refine sm_seg C [(.sipush 150, 150)] (pc' := 16) (L' := [(0, .ref 0), (1, .int a1), (2, .int a2), (3, .int a3)]) (S' := [.int 150, .int v1]) (by decide +kernel) rfl ?_
      refine sm_icmpne 20 (off := 4) C (by decide +kernel) (by decide) (fun _ => ?_) (fun _ => ?_)
      · exact sm_vret C hr (by decide +kernel)
      · refine sm_seg C [(.sipush 760, 760), (.iconst 4, 4), (.aload_n 0, 0)] (pc' := 25) (L' := [(0, .ref 0), (1, .int a1), (2, .int a2), (3, .int a3)]) (S' := [.ref 0, .int 4, .int 760]) (by decide +kernel) rfl ?_
        refine sm_getR 11 0 1 cls11 C (ltM (by decide +kernel : kdM 0 = 11) (by decide)) (by decide +kernel : kdM 0 = 11) (obM11 (by decide +kernel : kdM 0 = 11)) (by decide) (frM11_0 (by decide +kernel : kdM 0 = 11)) fl11_7 (by decide +kernel) ?_
        refine sm_seg C [(.iconst 4, 4)] (pc' := 29) (L' := [(0, .ref 0), (1, .int a1), (2, .int a2), (3, .int a3)]) (S' := [.int 4, .ref 1, .int 4, .int 760]) (by decide +kernel) rfl ?_
        refine sm_ald 2244 C (ltM (krM11_0 (by decide +kernel : kdM 0 = 11)) (by decide)) (krM11_0 (by decide +kernel : kdM 0 = 11)) (nrM11_0 (by decide +kernel : kdM 0 = 11)) (by decide +kernel) (fun v2 => ?_)
        refine sm_seg C [(.imul, 0), (.iadd, 0), (.istore 4, 0), (.aload_n 0, 0)] (pc' := 35) (L' := [(4, .int (760 + (4 * v2))), (0, .ref 0), (1, .int a1), (2, .int a2), (3, .int a3)]) (S' := [.ref 0]) (by decide +kernel) rfl ?_
        refine sm_getR 11 0 1 cls11 C (ltM (by decide +kernel : kdM 0 = 11) (by decide)) (by decide +kernel : kdM 0 = 11) (obM11 (by decide +kernel : kdM 0 = 11)) (by decide) (frM11_0 (by decide +kernel : kdM 0 = 11)) fl11_7 (by decide +kernel) ?_
        refine sm_seg C [(.iload 4, 0), (.aload_n 0, 0)] (pc' := 41) (L' := [(4, .int (760 + (4 * v2))), (0, .ref 0), (1, .int a1), (2, .int a2), (3, .int a3)]) (S' := [.ref 0, .int (760 + (4 * v2)), .ref 1]) (by decide +kernel) rfl ?_
        refine sm_getR 11 0 1 cls11 C (ltM (by decide +kernel : kdM 0 = 11) (by decide)) (by decide +kernel : kdM 0 = 11) (obM11 (by decide +kernel : kdM 0 = 11)) (by decide) (frM11_0 (by decide +kernel : kdM 0 = 11)) fl11_7 (by decide +kernel) ?_
        refine sm_seg C [(.iconst 2, 2)] (pc' := 45) (L' := [(4, .int (760 + (4 * v2))), (0, .ref 0), (1, .int a1), (2, .int a2), (3, .int a3)]) (S' := [.int 2, .ref 1, .int (760 + (4 * v2)), .ref 1]) (by decide +kernel) rfl ?_
        refine sm_ald 2244 C (ltM (krM11_0 (by decide +kernel : kdM 0 = 11)) (by decide)) (krM11_0 (by decide +kernel : kdM 0 = 11)) (nrM11_0 (by decide +kernel : kdM 0 = 11)) (by decide +kernel) (fun v3 => ?_)
        refine sm_ast 2244 C (ltM (krM11_0 (by decide +kernel : kdM 0 = 11)) (by decide)) (krM11_0 (by decide +kernel : kdM 0 = 11)) (nrM11_0 (by decide +kernel : kdM 0 = 11)) (by decide +kernel) (fun τ4 => ?_)
        refine sm_seg C [(.aload_n 0, 0)] (pc' := 48) (L' := [(4, .int (760 + (4 * v2))), (0, .ref 0), (1, .int a1), (2, .int a2), (3, .int a3)]) (S' := [.ref 0]) (by decide +kernel) rfl ?_
        refine sm_getR 11 0 1 cls11 C (ltM (by decide +kernel : kdM 0 = 11) (by decide)) (by decide +kernel : kdM 0 = 11) (obM11 (by decide +kernel : kdM 0 = 11)) (by decide) (frM11_0 (by decide +kernel : kdM 0 = 11)) fl11_7 (by decide +kernel) ?_
        refine sm_seg C [(.iload 4, 0), (.iconst 1, 1), (.iadd, 0), (.iload_n 1, 0)] (pc' := 56) (L' := [(4, .int (760 + (4 * v2))), (0, .ref 0), (1, .int a1), (2, .int a2), (3, .int a3)]) (S' := [.int a1, .int ((760 + (4 * v2)) + 1), .ref 1]) (by decide +kernel) rfl ?_
        refine sm_ast 2244 C (ltM (krM11_0 (by decide +kernel : kdM 0 = 11)) (by decide)) (krM11_0 (by decide +kernel : kdM 0 = 11)) (nrM11_0 (by decide +kernel : kdM 0 = 11)) (by decide +kernel) (fun τ5 => ?_)
        refine sm_seg C [(.aload_n 0, 0)] (pc' := 58) (L' := [(4, .int (760 + (4 * v2))), (0, .ref 0), (1, .int a1), (2, .int a2), (3, .int a3)]) (S' := [.ref 0]) (by decide +kernel) rfl ?_
        refine sm_getR 11 0 1 cls11 C (ltM (by decide +kernel : kdM 0 = 11) (by decide)) (by decide +kernel : kdM 0 = 11) (obM11 (by decide +kernel : kdM 0 = 11)) (by decide) (frM11_0 (by decide +kernel : kdM 0 = 11)) fl11_7 (by decide +kernel) ?_
        refine sm_seg C [(.iload 4, 0), (.iconst 2, 2), (.iadd, 0), (.iload_n 2, 0)] (pc' := 66) (L' := [(4, .int (760 + (4 * v2))), (0, .ref 0), (1, .int a1), (2, .int a2), (3, .int a3)]) (S' := [.int a2, .int ((760 + (4 * v2)) + 2), .ref 1]) (by decide +kernel) rfl ?_
        refine sm_ast 2244 C (ltM (krM11_0 (by decide +kernel : kdM 0 = 11)) (by decide)) (krM11_0 (by decide +kernel : kdM 0 = 11)) (nrM11_0 (by decide +kernel : kdM 0 = 11)) (by decide +kernel) (fun τ6 => ?_)
        refine sm_seg C [(.aload_n 0, 0)] (pc' := 68) (L' := [(4, .int (760 + (4 * v2))), (0, .ref 0), (1, .int a1), (2, .int a2), (3, .int a3)]) (S' := [.ref 0]) (by decide +kernel) rfl ?_
        refine sm_getR 11 0 1 cls11 C (ltM (by decide +kernel : kdM 0 = 11) (by decide)) (by decide +kernel : kdM 0 = 11) (obM11 (by decide +kernel : kdM 0 = 11)) (by decide) (frM11_0 (by decide +kernel : kdM 0 = 11)) fl11_7 (by decide +kernel) ?_
        refine sm_seg C [(.iload 4, 0), (.iconst 3, 3), (.iadd, 0), (.iload_n 3, 0)] (pc' := 76) (L' := [(4, .int (760 + (4 * v2))), (0, .ref 0), (1, .int a1), (2, .int a2), (3, .int a3)]) (S' := [.int a3, .int ((760 + (4 * v2)) + 3), .ref 1]) (by decide +kernel) rfl ?_
        refine sm_ast 2244 C (ltM (krM11_0 (by decide +kernel : kdM 0 = 11)) (by decide)) (krM11_0 (by decide +kernel : kdM 0 = 11)) (nrM11_0 (by decide +kernel : kdM 0 = 11)) (by decide +kernel) (fun τ7 => ?_)
        refine sm_seg C [(.aload_n 0, 0)] (pc' := 78) (L' := [(4, .int (760 + (4 * v2))), (0, .ref 0), (1, .int a1), (2, .int a2), (3, .int a3)]) (S' := [.ref 0]) (by decide +kernel) rfl ?_
        refine sm_getR 11 0 1 cls11 C (ltM (by decide +kernel : kdM 0 = 11) (by decide)) (by decide +kernel : kdM 0 = 11) (obM11 (by decide +kernel : kdM 0 = 11)) (by decide) (frM11_0 (by decide +kernel : kdM 0 = 11)) fl11_7 (by decide +kernel) ?_
        refine sm_seg C [(.iconst 4, 4), (.dup2, 0)] (pc' := 83) (L' := [(4, .int (760 + (4 * v2))), (0, .ref 0), (1, .int a1), (2, .int a2), (3, .int a3)]) (S' := [.int 4, .ref 1, .int 4, .ref 1]) (by decide +kernel) rfl ?_
        refine sm_ald 2244 C (ltM (krM11_0 (by decide +kernel : kdM 0 = 11)) (by decide)) (krM11_0 (by decide +kernel : kdM 0 = 11)) (nrM11_0 (by decide +kernel : kdM 0 = 11)) (by decide +kernel) (fun v8 => ?_)
        refine sm_seg C [(.iconst 1, 1), (.iadd, 0)] (pc' := 86) (L' := [(4, .int (760 + (4 * v2))), (0, .ref 0), (1, .int a1), (2, .int a2), (3, .int a3)]) (S' := [.int (v8 + 1), .int 4, .ref 1]) (by decide +kernel) rfl ?_
        refine sm_ast 2244 C (ltM (krM11_0 (by decide +kernel : kdM 0 = 11)) (by decide)) (krM11_0 (by decide +kernel : kdM 0 = 11)) (nrM11_0 (by decide +kernel : kdM 0 = 11)) (by decide +kernel) (fun τ9 => ?_)
        exact sm_vret C hr (by decide +kernel)) h
/-! BasketEnvoysModel.sends -/
def X11_sends (F : Nat) (a1 : Int32) (a2 : Int32) (τ : Tau) : Option (Int32 × Tau) :=
  ald τ 1 2244 (87 + a1) fun v1 => if v1 = (-1) then (ast τ 1 2244 (87 + a1) a2 fun τ2 => ast τ2 1 2244 (129 + a1) 0 fun τ3 => cal (X11_notes F 0 a1 a2 τ3) fun r4 τ5 => some (0, τ5)) else (some (0, τ))
set_option maxRecDepth 20000 in
set_option maxHeartbeats 4000000 in
theorem c_X11_sends (F : Nat) (a1 : Int32) (a2 : Int32) (τ : Tau) (r : Int32) (τ' : Tau) (h : X11_sends F a1 a2 τ = some (r, τ')) : MCv sysM yX11_sends cX11_sends 3 2 [.ref 0, .int a1, .int a2] τ τ' :=
  mcv_of (by decide +kernel) (Nat.le_of_ble_eq_true rfl) (fun K C hr => by
    show Sm K sysM 3 (Qv K sysM) (X11_sends F a1 a2 τ) 0 [(0, .ref 0), (1, .int a1), (2, .int a2)] [] τ
    unfold X11_sends
    refine sm_seg C [(.aload_n 0, 0)] (pc' := 1) (L' := [(0, .ref 0), (1, .int a1), (2, .int a2)]) (S' := [.ref 0]) (by decide +kernel) rfl ?_
    refine sm_getR 11 0 1 cls11 C (ltM (by decide +kernel : kdM 0 = 11) (by decide)) (by decide +kernel : kdM 0 = 11) (obM11 (by decide +kernel : kdM 0 = 11)) (by decide) (frM11_0 (by decide +kernel : kdM 0 = 11)) fl11_7 (by decide +kernel) ?_
    refine sm_seg C [(.bipush 87, 87), (.iload_n 1, 0), (.iadd, 0)] (pc' := 8) (L' := [(0, .ref 0), (1, .int a1), (2, .int a2)]) (S' := [.int (87 + a1), .ref 1]) (by decide +kernel) rfl ?_
    refine sm_ald 2244 C (ltM (krM11_0 (by decide +kernel : kdM 0 = 11)) (by decide)) (krM11_0 (by decide +kernel : kdM 0 = 11)) (nrM11_0 (by decide +kernel : kdM 0 = 11)) (by decide +kernel) (fun v1 => ?_)
    refine sm_seg C [(.iconst (-1), (-1))] (pc' := 10) (L' := [(0, .ref 0), (1, .int a1), (2, .int a2)]) (S' := [.int (-1), .int v1]) (by decide +kernel) rfl ?_
    refine sm_icmpeq 14 (off := 4) C (by decide +kernel) (by decide) (fun _ => ?_) (fun _ => ?_)
    · refine sm_seg C [(.aload_n 0, 0)] (pc' := 15) (L' := [(0, .ref 0), (1, .int a1), (2, .int a2)]) (S' := [.ref 0]) (by decide +kernel) rfl ?_
      refine sm_getR 11 0 1 cls11 C (ltM (by decide +kernel : kdM 0 = 11) (by decide)) (by decide +kernel : kdM 0 = 11) (obM11 (by decide +kernel : kdM 0 = 11)) (by decide) (frM11_0 (by decide +kernel : kdM 0 = 11)) fl11_7 (by decide +kernel) ?_
      refine sm_seg C [(.bipush 87, 87), (.iload_n 1, 0), (.iadd, 0), (.iload_n 2, 0)] (pc' := 23) (L' := [(0, .ref 0), (1, .int a1), (2, .int a2)]) (S' := [.int a2, .int (87 + a1), .ref 1]) (by decide +kernel) rfl ?_
      refine sm_ast 2244 C (ltM (krM11_0 (by decide +kernel : kdM 0 = 11)) (by decide)) (krM11_0 (by decide +kernel : kdM 0 = 11)) (nrM11_0 (by decide +kernel : kdM 0 = 11)) (by decide +kernel) (fun τ2 => ?_)
      refine sm_seg C [(.aload_n 0, 0)] (pc' := 25) (L' := [(0, .ref 0), (1, .int a1), (2, .int a2)]) (S' := [.ref 0]) (by decide +kernel) rfl ?_
      refine sm_getR 11 0 1 cls11 C (ltM (by decide +kernel : kdM 0 = 11) (by decide)) (by decide +kernel : kdM 0 = 11) (obM11 (by decide +kernel : kdM 0 = 11)) (by decide) (frM11_0 (by decide +kernel : kdM 0 = 11)) fl11_7 (by decide +kernel) ?_
      refine sm_seg C [(.sipush 129, 129), (.iload_n 1, 0), (.iadd, 0), (.iconst 0, 0)] (pc' := 34) (L' := [(0, .ref 0), (1, .int a1), (2, .int a2)]) (S' := [.int 0, .int (129 + a1), .ref 1]) (by decide +kernel) rfl ?_
      refine sm_ast 2244 C (ltM (krM11_0 (by decide +kernel : kdM 0 = 11)) (by decide)) (krM11_0 (by decide +kernel : kdM 0 = 11)) (nrM11_0 (by decide +kernel : kdM 0 = 11)) (by decide +kernel) (fun τ3 => ?_)
      refine sm_seg C [(.aload_n 0, 0), (.iconst 0, 0), (.iload_n 1, 0), (.iload_n 2, 0)] (pc' := 39) (L' := [(0, .ref 0), (1, .int a1), (2, .int a2)]) (S' := [.int a2, .int a1, .int 0, .ref 0]) (by decide +kernel) rfl ?_
      refine sm_vcalv [.int 0, .int a1, .int a2] [] rfl C mw_X11_notes ml_11_325 rfl (ci := 11) rfl (ltM (by decide +kernel : kdM 0 = 11) (by decide)) (by decide +kernel : kdM 0 = 11) (by decide) ⟨by decide, by decide⟩ (Nat.le_of_ble_eq_true rfl) (by decide +kernel) (c_X11_notes F 0 a1 a2 τ3) (fun r4 τ5 => ?_)
      exact sm_vret C hr (by decide +kernel)
    · exact sm_vret C hr (by decide +kernel)) h
/-! BasketEnvoysModel.calls -/
def X11_calls (F : Nat) (a1 : Int32) (τ : Tau) : Option (Int32 × Tau) :=
  ald τ 1 2244 (87 + a1) fun v1 => if v1 = (-1) then (some (0, τ)) else (ast τ 1 2244 (87 + a1) (-1) fun τ2 => ald τ2 1 2244 (129 + a1) fun v3 => cal (X11_notes F 5 a1 v3 τ2) fun r4 τ5 => some (0, τ5))
set_option maxRecDepth 20000 in
set_option maxHeartbeats 4000000 in
theorem c_X11_calls (F : Nat) (a1 : Int32) (τ : Tau) (r : Int32) (τ' : Tau) (h : X11_calls F a1 τ = some (r, τ')) : MCv sysM yX11_calls cX11_calls 2 2 [.ref 0, .int a1] τ τ' :=
  mcv_of (by decide +kernel) (Nat.le_of_ble_eq_true rfl) (fun K C hr => by
    show Sm K sysM 2 (Qv K sysM) (X11_calls F a1 τ) 0 [(0, .ref 0), (1, .int a1)] [] τ
    unfold X11_calls
    refine sm_seg C [(.aload_n 0, 0)] (pc' := 1) (L' := [(0, .ref 0), (1, .int a1)]) (S' := [.ref 0]) (by decide +kernel) rfl ?_
    refine sm_getR 11 0 1 cls11 C (ltM (by decide +kernel : kdM 0 = 11) (by decide)) (by decide +kernel : kdM 0 = 11) (obM11 (by decide +kernel : kdM 0 = 11)) (by decide) (frM11_0 (by decide +kernel : kdM 0 = 11)) fl11_7 (by decide +kernel) ?_
    refine sm_seg C [(.bipush 87, 87), (.iload_n 1, 0), (.iadd, 0)] (pc' := 8) (L' := [(0, .ref 0), (1, .int a1)]) (S' := [.int (87 + a1), .ref 1]) (by decide +kernel) rfl ?_
    refine sm_ald 2244 C (ltM (krM11_0 (by decide +kernel : kdM 0 = 11)) (by decide)) (krM11_0 (by decide +kernel : kdM 0 = 11)) (nrM11_0 (by decide +kernel : kdM 0 = 11)) (by decide +kernel) (fun v1 => ?_)
    refine sm_seg C [(.iconst (-1), (-1))] (pc' := 10) (L' := [(0, .ref 0), (1, .int a1)]) (S' := [.int (-1), .int v1]) (by decide +kernel) rfl ?_
    refine sm_icmpne 14 (off := 4) C (by decide +kernel) (by decide) (fun _ => ?_) (fun _ => ?_)
    · exact sm_vret C hr (by decide +kernel)
    · refine sm_seg C [(.aload_n 0, 0)] (pc' := 15) (L' := [(0, .ref 0), (1, .int a1)]) (S' := [.ref 0]) (by decide +kernel) rfl ?_
      refine sm_getR 11 0 1 cls11 C (ltM (by decide +kernel : kdM 0 = 11) (by decide)) (by decide +kernel : kdM 0 = 11) (obM11 (by decide +kernel : kdM 0 = 11)) (by decide) (frM11_0 (by decide +kernel : kdM 0 = 11)) fl11_7 (by decide +kernel) ?_
      refine sm_seg C [(.bipush 87, 87), (.iload_n 1, 0), (.iadd, 0), (.iconst (-1), (-1))] (pc' := 23) (L' := [(0, .ref 0), (1, .int a1)]) (S' := [.int (-1), .int (87 + a1), .ref 1]) (by decide +kernel) rfl ?_
      refine sm_ast 2244 C (ltM (krM11_0 (by decide +kernel : kdM 0 = 11)) (by decide)) (krM11_0 (by decide +kernel : kdM 0 = 11)) (nrM11_0 (by decide +kernel : kdM 0 = 11)) (by decide +kernel) (fun τ2 => ?_)
      refine sm_seg C [(.aload_n 0, 0), (.iconst 5, 5), (.iload_n 1, 0), (.aload_n 0, 0)] (pc' := 28) (L' := [(0, .ref 0), (1, .int a1)]) (S' := [.ref 0, .int a1, .int 5, .ref 0]) (by decide +kernel) rfl ?_
      refine sm_getR 11 0 1 cls11 C (ltM (by decide +kernel : kdM 0 = 11) (by decide)) (by decide +kernel : kdM 0 = 11) (obM11 (by decide +kernel : kdM 0 = 11)) (by decide) (frM11_0 (by decide +kernel : kdM 0 = 11)) fl11_7 (by decide +kernel) ?_
      refine sm_seg C [(.sipush 129, 129), (.iload_n 1, 0), (.iadd, 0)] (pc' := 36) (L' := [(0, .ref 0), (1, .int a1)]) (S' := [.int (129 + a1), .ref 1, .int a1, .int 5, .ref 0]) (by decide +kernel) rfl ?_
      refine sm_ald 2244 C (ltM (krM11_0 (by decide +kernel : kdM 0 = 11)) (by decide)) (krM11_0 (by decide +kernel : kdM 0 = 11)) (nrM11_0 (by decide +kernel : kdM 0 = 11)) (by decide +kernel) (fun v3 => ?_)
      refine sm_vcalv [.int 5, .int a1, .int v3] [] rfl C mw_X11_notes ml_11_325 rfl (ci := 11) rfl (ltM (by decide +kernel : kdM 0 = 11) (by decide)) (by decide +kernel : kdM 0 = 11) (by decide) ⟨by decide, by decide⟩ (Nat.le_of_ble_eq_true rfl) (by decide +kernel) (c_X11_notes F 5 a1 v3 τ2) (fun r4 τ5 => ?_)
      exact sm_vret C hr (by decide +kernel)) h
/-! BasketEnvoysModel.meaning -/
def X11_meaning (F : Nat) (a1 : Int32) (a2 : Int32) (τ : Tau) : Option (Int32 × Tau) :=
  ald τ 1 2244 ((261 + (12 * a1)) + a2) fun v1 => some (v1, τ)
set_option maxRecDepth 20000 in
set_option maxHeartbeats 4000000 in
theorem c_X11_meaning (F : Nat) (a1 : Int32) (a2 : Int32) (τ : Tau) (r : Int32) (τ' : Tau) (h : X11_meaning F a1 a2 τ = some (r, τ')) : MCi sysM yX11_meaning cX11_meaning 3 (some .int) 1 [.ref 0, .int a1, .int a2] τ r τ' :=
  mci_of (by decide +kernel) (Nat.le_of_ble_eq_true rfl) (fun K C hr => by
    show Sm K sysM 3 (Qi K sysM) (X11_meaning F a1 a2 τ) 0 [(0, .ref 0), (1, .int a1), (2, .int a2)] [] τ
    unfold X11_meaning
    refine sm_seg C [(.aload_n 0, 0)] (pc' := 1) (L' := [(0, .ref 0), (1, .int a1), (2, .int a2)]) (S' := [.ref 0]) (by decide +kernel) rfl ?_
    refine sm_getR 11 0 1 cls11 C (ltM (by decide +kernel : kdM 0 = 11) (by decide)) (by decide +kernel : kdM 0 = 11) (obM11 (by decide +kernel : kdM 0 = 11)) (by decide) (frM11_0 (by decide +kernel : kdM 0 = 11)) fl11_7 (by decide +kernel) ?_
    refine sm_seg C [(.sipush 261, 261), (.bipush 12, 12), (.iload_n 1, 0), (.imul, 0), (.iadd, 0), (.iload_n 2, 0), (.iadd, 0)] (pc' := 14) (L' := [(0, .ref 0), (1, .int a1), (2, .int a2)]) (S' := [.int ((261 + (12 * a1)) + a2), .ref 1]) (by decide +kernel) rfl ?_
    refine sm_ald 2244 C (ltM (krM11_0 (by decide +kernel : kdM 0 = 11)) (by decide)) (krM11_0 (by decide +kernel : kdM 0 = 11)) (nrM11_0 (by decide +kernel : kdM 0 = 11)) (by decide +kernel) (fun v1 => ?_)
    exact sm_iret C hr rfl (by decide +kernel)) h
/-! BasketEnvoysModel.asks -/
def X11_asks_j140 (F : Nat) (a1 : Int32) (z0 : Int32) (z1 : Int32) (τ : Tau) : Option (Int32 × Tau) :=
  ast τ 10 11 z1 z0 fun τ11 => ald τ11 1 2244 (129 + a1) fun v12 => ast τ11 10 11 8 v12 fun τ13 => ald τ13 1 2244 0 fun v14 => ast τ13 10 11 9 v14 fun τ15 => ald τ15 1 2244 2 fun v16 => ast τ15 10 11 10 v16 fun τ17 => some (0, τ17)
theorem s_X11_asks_j140 (F : Nat) {K : Ctx} (C : Cx K sysM RX11 cX11_asks 4 2) (hr : Rt K none) (a1 : Int32) (z0 : Int32) (z1 : Int32) (τ : Tau) : Sm K sysM 4 (Qv K sysM) (X11_asks_j140 F a1 z0 z1 τ) 140 [(0, .ref 0), (1, .int a1)] [.int z0, .int z1, .ref 10] τ := by
  unfold X11_asks_j140
  refine sm_ast 11 C (ltM (krM11_11 (by decide +kernel : kdM 0 = 11)) (by decide)) (krM11_11 (by decide +kernel : kdM 0 = 11)) (nrM11_11 (by decide +kernel : kdM 0 = 11)) (by decide +kernel) (fun τ11 => ?_)
  refine sm_seg C [(.aload_n 0, 0)] (pc' := 142) (L' := [(0, .ref 0), (1, .int a1)]) (S' := [.ref 0]) (by decide +kernel) rfl ?_
  refine sm_getR 11 11 10 cls11 C (ltM (by decide +kernel : kdM 0 = 11) (by decide)) (by decide +kernel : kdM 0 = 11) (obM11 (by decide +kernel : kdM 0 = 11)) (by decide) (frM11_11 (by decide +kernel : kdM 0 = 11)) fl11_37 (by decide +kernel) ?_
  refine sm_seg C [(.bipush 8, 8), (.aload_n 0, 0)] (pc' := 148) (L' := [(0, .ref 0), (1, .int a1)]) (S' := [.ref 0, .int 8, .ref 10]) (by decide +kernel) rfl ?_
  refine sm_getR 11 0 1 cls11 C (ltM (by decide +kernel : kdM 0 = 11) (by decide)) (by decide +kernel : kdM 0 = 11) (obM11 (by decide +kernel : kdM 0 = 11)) (by decide) (frM11_0 (by decide +kernel : kdM 0 = 11)) fl11_7 (by decide +kernel) ?_
  refine sm_seg C [(.sipush 129, 129), (.iload_n 1, 0), (.iadd, 0)] (pc' := 156) (L' := [(0, .ref 0), (1, .int a1)]) (S' := [.int (129 + a1), .ref 1, .int 8, .ref 10]) (by decide +kernel) rfl ?_
  refine sm_ald 2244 C (ltM (krM11_0 (by decide +kernel : kdM 0 = 11)) (by decide)) (krM11_0 (by decide +kernel : kdM 0 = 11)) (nrM11_0 (by decide +kernel : kdM 0 = 11)) (by decide +kernel) (fun v12 => ?_)
  refine sm_ast 11 C (ltM (krM11_11 (by decide +kernel : kdM 0 = 11)) (by decide)) (krM11_11 (by decide +kernel : kdM 0 = 11)) (nrM11_11 (by decide +kernel : kdM 0 = 11)) (by decide +kernel) (fun τ13 => ?_)
  refine sm_seg C [(.aload_n 0, 0)] (pc' := 159) (L' := [(0, .ref 0), (1, .int a1)]) (S' := [.ref 0]) (by decide +kernel) rfl ?_
  refine sm_getR 11 11 10 cls11 C (ltM (by decide +kernel : kdM 0 = 11) (by decide)) (by decide +kernel : kdM 0 = 11) (obM11 (by decide +kernel : kdM 0 = 11)) (by decide) (frM11_11 (by decide +kernel : kdM 0 = 11)) fl11_37 (by decide +kernel) ?_
  refine sm_seg C [(.bipush 9, 9), (.aload_n 0, 0)] (pc' := 165) (L' := [(0, .ref 0), (1, .int a1)]) (S' := [.ref 0, .int 9, .ref 10]) (by decide +kernel) rfl ?_
  refine sm_getR 11 0 1 cls11 C (ltM (by decide +kernel : kdM 0 = 11) (by decide)) (by decide +kernel : kdM 0 = 11) (obM11 (by decide +kernel : kdM 0 = 11)) (by decide) (frM11_0 (by decide +kernel : kdM 0 = 11)) fl11_7 (by decide +kernel) ?_
  refine sm_seg C [(.iconst 0, 0)] (pc' := 169) (L' := [(0, .ref 0), (1, .int a1)]) (S' := [.int 0, .ref 1, .int 9, .ref 10]) (by decide +kernel) rfl ?_
  refine sm_ald 2244 C (ltM (krM11_0 (by decide +kernel : kdM 0 = 11)) (by decide)) (krM11_0 (by decide +kernel : kdM 0 = 11)) (nrM11_0 (by decide +kernel : kdM 0 = 11)) (by decide +kernel) (fun v14 => ?_)
  refine sm_ast 11 C (ltM (krM11_11 (by decide +kernel : kdM 0 = 11)) (by decide)) (krM11_11 (by decide +kernel : kdM 0 = 11)) (nrM11_11 (by decide +kernel : kdM 0 = 11)) (by decide +kernel) (fun τ15 => ?_)
  refine sm_seg C [(.aload_n 0, 0)] (pc' := 172) (L' := [(0, .ref 0), (1, .int a1)]) (S' := [.ref 0]) (by decide +kernel) rfl ?_
  refine sm_getR 11 11 10 cls11 C (ltM (by decide +kernel : kdM 0 = 11) (by decide)) (by decide +kernel : kdM 0 = 11) (obM11 (by decide +kernel : kdM 0 = 11)) (by decide) (frM11_11 (by decide +kernel : kdM 0 = 11)) fl11_37 (by decide +kernel) ?_
  refine sm_seg C [(.bipush 10, 10), (.aload_n 0, 0)] (pc' := 178) (L' := [(0, .ref 0), (1, .int a1)]) (S' := [.ref 0, .int 10, .ref 10]) (by decide +kernel) rfl ?_
  refine sm_getR 11 0 1 cls11 C (ltM (by decide +kernel : kdM 0 = 11) (by decide)) (by decide +kernel : kdM 0 = 11) (obM11 (by decide +kernel : kdM 0 = 11)) (by decide) (frM11_0 (by decide +kernel : kdM 0 = 11)) fl11_7 (by decide +kernel) ?_
  refine sm_seg C [(.iconst 2, 2)] (pc' := 182) (L' := [(0, .ref 0), (1, .int a1)]) (S' := [.int 2, .ref 1, .int 10, .ref 10]) (by decide +kernel) rfl ?_
  refine sm_ald 2244 C (ltM (krM11_0 (by decide +kernel : kdM 0 = 11)) (by decide)) (krM11_0 (by decide +kernel : kdM 0 = 11)) (nrM11_0 (by decide +kernel : kdM 0 = 11)) (by decide +kernel) (fun v16 => ?_)
  refine sm_ast 11 C (ltM (krM11_11 (by decide +kernel : kdM 0 = 11)) (by decide)) (krM11_11 (by decide +kernel : kdM 0 = 11)) (nrM11_11 (by decide +kernel : kdM 0 = 11)) (by decide +kernel) (fun τ17 => ?_)
  exact sm_vret C hr (by decide +kernel)
def X11_asks_j115 (F : Nat) (a1 : Int32) (a3 : Int32) (z0 : Int32) (z1 : Int32) (τ : Tau) : Option (Int32 × Tau) :=
  ast τ 10 11 z1 z0 fun τ10 => if a3 = (-1) then (X11_asks_j140 F a1 0 7 τ10) else (ald τ10 1 2244 (15 + a3) fun v18 => X11_asks_j140 F a1 v18 7 τ10)
theorem s_X11_asks_j115 (F : Nat) {K : Ctx} (C : Cx K sysM RX11 cX11_asks 4 2) (hr : Rt K none) (a1 : Int32) (a3 : Int32) (z0 : Int32) (z1 : Int32) (τ : Tau) : Sm K sysM 4 (Qv K sysM) (X11_asks_j115 F a1 a3 z0 z1 τ) 115 [(0, .ref 0), (1, .int a1), (3, .int a3)] [.int z0, .int z1, .ref 10] τ := by
  unfold X11_asks_j115
  refine sm_ast 11 C (ltM (krM11_11 (by decide +kernel : kdM 0 = 11)) (by decide)) (krM11_11 (by decide +kernel : kdM 0 = 11)) (nrM11_11 (by decide +kernel : kdM 0 = 11)) (by decide +kernel) (fun τ10 => ?_)
  refine sm_seg C [(.aload_n 0, 0)] (pc' := 117) (L' := [(0, .ref 0), (1, .int a1), (3, .int a3)]) (S' := [.ref 0]) (by decide +kernel) rfl ?_
  refine sm_getR 11 11 10 cls11 C (ltM (by decide +kernel : kdM 0 = 11) (by decide)) (by decide +kernel : kdM 0 = 11) (obM11 (by decide +kernel : kdM 0 = 11)) (by decide) (frM11_11 (by decide +kernel : kdM 0 = 11)) fl11_37 (by decide +kernel) ?_
  refine sm_seg C [(.bipush 7, 7), (.iload_n 3, 0), (.iconst (-1), (-1))] (pc' := 124) (L' := [(0, .ref 0), (1, .int a1), (3, .int a3)]) (S' := [.int (-1), .int a3, .int 7, .ref 10]) (by decide +kernel) rfl ?_
  refine sm_icmpne 131 (off := 7) C (by decide +kernel) (by decide) (fun _ => ?_) (fun _ => ?_)
  · refine sm_seg C [(.iconst 0, 0), (.goto 12, 0)] (pc' := 140) (L' := [(0, .ref 0), (1, .int a1), (3, .int a3)]) (S' := [.int 0, .int 7, .ref 10]) (by decide +kernel) rfl ?_
    exact sm_sub [0, 1] rfl (s_X11_asks_j140 F C hr a1 0 7 τ10)
  · refine sm_seg C [(.aload_n 0, 0)] (pc' := 132) (L' := [(0, .ref 0), (1, .int a1), (3, .int a3)]) (S' := [.ref 0, .int 7, .ref 10]) (by decide +kernel) rfl ?_
    refine sm_getR 11 0 1 cls11 C (ltM (by decide +kernel : kdM 0 = 11) (by decide)) (by decide +kernel : kdM 0 = 11) (obM11 (by decide +kernel : kdM 0 = 11)) (by decide) (frM11_0 (by decide +kernel : kdM 0 = 11)) fl11_7 (by decide +kernel) ?_
    refine sm_seg C [(.bipush 15, 15), (.iload_n 3, 0), (.iadd, 0)] (pc' := 139) (L' := [(0, .ref 0), (1, .int a1), (3, .int a3)]) (S' := [.int (15 + a3), .ref 1, .int 7, .ref 10]) (by decide +kernel) rfl ?_
    refine sm_ald 2244 C (ltM (krM11_0 (by decide +kernel : kdM 0 = 11)) (by decide)) (krM11_0 (by decide +kernel : kdM 0 = 11)) (nrM11_0 (by decide +kernel : kdM 0 = 11)) (by decide +kernel) (fun v18 => ?_)
    exact sm_sub [0, 1] rfl (s_X11_asks_j140 F C hr a1 v18 7 τ10)
def X11_asks_j93 (F : Nat) (a1 : Int32) (a2 : Int32) (a3 : Int32) (z0 : Int32) (z1 : Int32) (τ : Tau) : Option (Int32 × Tau) :=
  ast τ 10 11 z1 z0 fun τ9 => if a2 = (-1) then (X11_asks_j115 F a1 a3 0 6 τ9) else (cal (X11_meaning F a3 a2 τ9) fun r19 τ20 => X11_asks_j115 F a1 a3 r19 6 τ20)
theorem s_X11_asks_j93 (F : Nat) {K : Ctx} (C : Cx K sysM RX11 cX11_asks 4 2) (hr : Rt K none) (a1 : Int32) (a2 : Int32) (a3 : Int32) (z0 : Int32) (z1 : Int32) (τ : Tau) : Sm K sysM 4 (Qv K sysM) (X11_asks_j93 F a1 a2 a3 z0 z1 τ) 93 [(0, .ref 0), (1, .int a1), (2, .int a2), (3, .int a3)] [.int z0, .int z1, .ref 10] τ := by
  unfold X11_asks_j93
  refine sm_ast 11 C (ltM (krM11_11 (by decide +kernel : kdM 0 = 11)) (by decide)) (krM11_11 (by decide +kernel : kdM 0 = 11)) (nrM11_11 (by decide +kernel : kdM 0 = 11)) (by decide +kernel) (fun τ9 => ?_)
  refine sm_seg C [(.aload_n 0, 0)] (pc' := 95) (L' := [(0, .ref 0), (1, .int a1), (2, .int a2), (3, .int a3)]) (S' := [.ref 0]) (by decide +kernel) rfl ?_
  refine sm_getR 11 11 10 cls11 C (ltM (by decide +kernel : kdM 0 = 11) (by decide)) (by decide +kernel : kdM 0 = 11) (obM11 (by decide +kernel : kdM 0 = 11)) (by decide) (frM11_11 (by decide +kernel : kdM 0 = 11)) fl11_37 (by decide +kernel) ?_
  refine sm_seg C [(.bipush 6, 6), (.iload_n 2, 0), (.iconst (-1), (-1))] (pc' := 102) (L' := [(0, .ref 0), (1, .int a1), (2, .int a2), (3, .int a3)]) (S' := [.int (-1), .int a2, .int 6, .ref 10]) (by decide +kernel) rfl ?_
  refine sm_icmpne 109 (off := 7) C (by decide +kernel) (by decide) (fun _ => ?_) (fun _ => ?_)
  · refine sm_seg C [(.iconst 0, 0), (.goto 9, 0)] (pc' := 115) (L' := [(0, .ref 0), (1, .int a1), (2, .int a2), (3, .int a3)]) (S' := [.int 0, .int 6, .ref 10]) (by decide +kernel) rfl ?_
    exact sm_sub [0, 1, 3] rfl (s_X11_asks_j115 F C hr a1 a3 0 6 τ9)
  · refine sm_seg C [(.aload_n 0, 0), (.iload_n 3, 0), (.iload_n 2, 0)] (pc' := 112) (L' := [(0, .ref 0), (1, .int a1), (2, .int a2), (3, .int a3)]) (S' := [.int a2, .int a3, .ref 0, .int 6, .ref 10]) (by decide +kernel) rfl ?_
    refine sm_vcal [.int a3, .int a2] [.int 6, .ref 10] rfl C mw_X11_meaning ml_11_309 rfl (ci := 11) rfl (ltM (by decide +kernel : kdM 0 = 11) (by decide)) (by decide +kernel : kdM 0 = 11) (by decide) ⟨by decide, by decide⟩ (Nat.le_of_ble_eq_true rfl) (by decide +kernel) (c_X11_meaning F a3 a2 τ9) (fun r19 τ20 => ?_)
    exact sm_sub [0, 1, 3] rfl (s_X11_asks_j115 F C hr a1 a3 r19 6 τ20)
def X11_asks_j77 (F : Nat) (a1 : Int32) (a2 : Int32) (a3 : Int32) (z0 : Int32) (z1 : Int32) (τ : Tau) : Option (Int32 × Tau) :=
  ast τ 10 11 z1 z0 fun τ8 => if a2 = (-1) then (X11_asks_j93 F a1 a2 a3 0 5 τ8) else (X11_asks_j93 F a1 a2 a3 a2 5 τ8)
theorem s_X11_asks_j77 (F : Nat) {K : Ctx} (C : Cx K sysM RX11 cX11_asks 4 2) (hr : Rt K none) (a1 : Int32) (a2 : Int32) (a3 : Int32) (z0 : Int32) (z1 : Int32) (τ : Tau) : Sm K sysM 4 (Qv K sysM) (X11_asks_j77 F a1 a2 a3 z0 z1 τ) 77 [(0, .ref 0), (1, .int a1), (2, .int a2), (3, .int a3)] [.int z0, .int z1, .ref 10] τ := by
  unfold X11_asks_j77
  refine sm_ast 11 C (ltM (krM11_11 (by decide +kernel : kdM 0 = 11)) (by decide)) (krM11_11 (by decide +kernel : kdM 0 = 11)) (nrM11_11 (by decide +kernel : kdM 0 = 11)) (by decide +kernel) (fun τ8 => ?_)
  refine sm_seg C [(.aload_n 0, 0)] (pc' := 79) (L' := [(0, .ref 0), (1, .int a1), (2, .int a2), (3, .int a3)]) (S' := [.ref 0]) (by decide +kernel) rfl ?_
  refine sm_getR 11 11 10 cls11 C (ltM (by decide +kernel : kdM 0 = 11) (by decide)) (by decide +kernel : kdM 0 = 11) (obM11 (by decide +kernel : kdM 0 = 11)) (by decide) (frM11_11 (by decide +kernel : kdM 0 = 11)) fl11_37 (by decide +kernel) ?_
  refine sm_seg C [(.iconst 5, 5), (.iload_n 2, 0), (.iconst (-1), (-1))] (pc' := 85) (L' := [(0, .ref 0), (1, .int a1), (2, .int a2), (3, .int a3)]) (S' := [.int (-1), .int a2, .int 5, .ref 10]) (by decide +kernel) rfl ?_
  refine sm_icmpne 92 (off := 7) C (by decide +kernel) (by decide) (fun _ => ?_) (fun _ => ?_)
  · refine sm_seg C [(.iconst 0, 0), (.goto 4, 0)] (pc' := 93) (L' := [(0, .ref 0), (1, .int a1), (2, .int a2), (3, .int a3)]) (S' := [.int 0, .int 5, .ref 10]) (by decide +kernel) rfl ?_
    exact sm_sub [0, 1, 2, 3] rfl (s_X11_asks_j93 F C hr a1 a2 a3 0 5 τ8)
  · refine sm_seg C [(.iload_n 2, 0)] (pc' := 93) (L' := [(0, .ref 0), (1, .int a1), (2, .int a2), (3, .int a3)]) (S' := [.int a2, .int 5, .ref 10]) (by decide +kernel) rfl ?_
    exact sm_sub [0, 1, 2, 3] rfl (s_X11_asks_j93 F C hr a1 a2 a3 a2 5 τ8)
def X11_asks (F : Nat) (a1 : Int32) (a2 : Int32) (τ : Tau) : Option (Int32 × Tau) :=
  ald τ 1 2244 (87 + a1) fun v1 => ald τ 1 2244 (45 + a1) fun v2 => ast τ 10 11 1 v2 fun τ3 => ald τ3 1 2244 (59 + a1) fun v4 => ast τ3 10 11 2 v4 fun τ5 => ald τ5 1 2244 (73 + a1) fun v6 => ast τ5 10 11 3 v6 fun τ7 => if v1 = (-1) then (X11_asks_j77 F a1 a2 v1 0 4 τ7) else (ald τ7 1 2244 (5 + v1) fun v21 => X11_asks_j77 F a1 a2 v1 v21 4 τ7)
set_option maxRecDepth 20000 in
set_option maxHeartbeats 4000000 in
theorem c_X11_asks (F : Nat) (a1 : Int32) (a2 : Int32) (τ : Tau) (r : Int32) (τ' : Tau) (h : X11_asks F a1 a2 τ = some (r, τ')) : MCv sysM yX11_asks cX11_asks 4 2 [.ref 0, .int a1, .int a2] τ τ' :=
  mcv_of (by decide +kernel) (Nat.le_of_ble_eq_true rfl) (fun K C hr => by
    show Sm K sysM 4 (Qv K sysM) (X11_asks F a1 a2 τ) 0 [(0, .ref 0), (1, .int a1), (2, .int a2)] [] τ
    unfold X11_asks
    refine sm_seg C [(.aload_n 0, 0)] (pc' := 1) (L' := [(0, .ref 0), (1, .int a1), (2, .int a2)]) (S' := [.ref 0]) (by decide +kernel) rfl ?_
    refine sm_getR 11 0 1 cls11 C (ltM (by decide +kernel : kdM 0 = 11) (by decide)) (by decide +kernel : kdM 0 = 11) (obM11 (by decide +kernel : kdM 0 = 11)) (by decide) (frM11_0 (by decide +kernel : kdM 0 = 11)) fl11_7 (by decide +kernel) ?_
    refine sm_seg C [(.bipush 87, 87), (.iload_n 1, 0), (.iadd, 0)] (pc' := 8) (L' := [(0, .ref 0), (1, .int a1), (2, .int a2)]) (S' := [.int (87 + a1), .ref 1]) (by decide +kernel) rfl ?_
    refine sm_ald 2244 C (ltM (krM11_0 (by decide +kernel : kdM 0 = 11)) (by decide)) (krM11_0 (by decide +kernel : kdM 0 = 11)) (nrM11_0 (by decide +kernel : kdM 0 = 11)) (by decide +kernel) (fun v1 => ?_)
    refine sm_seg C [(.istore_n 3, 0), (.aload_n 0, 0)] (pc' := 11) (L' := [(3, .int v1), (0, .ref 0), (1, .int a1), (2, .int a2)]) (S' := [.ref 0]) (by decide +kernel) rfl ?_
    refine sm_getR 11 11 10 cls11 C (ltM (by decide +kernel : kdM 0 = 11) (by decide)) (by decide +kernel : kdM 0 = 11) (obM11 (by decide +kernel : kdM 0 = 11)) (by decide) (frM11_11 (by decide +kernel : kdM 0 = 11)) fl11_37 (by decide +kernel) ?_
    refine sm_seg C [(.iconst 1, 1), (.aload_n 0, 0)] (pc' := 16) (L' := [(3, .int v1), (0, .ref 0), (1, .int a1), (2, .int a2)]) (S' := [.ref 0, .int 1, .ref 10]) (by decide +kernel) rfl ?_
    refine sm_getR 11 0 1 cls11 C (ltM (by decide +kernel : kdM 0 = 11) (by decide)) (by decide +kernel : kdM 0 = 11) (obM11 (by decide +kernel : kdM 0 = 11)) (by decide) (frM11_0 (by decide +kernel : kdM 0 = 11)) fl11_7 (by decide +kernel) ?_
    refine sm_seg C [(.bipush 45, 45), (.iload_n 1, 0), (.iadd, 0)] (pc' := 23) (L' := [(3, .int v1), (0, .ref 0), (1, .int a1), (2, .int a2)]) (S' := [.int (45 + a1), .ref 1, .int 1, .ref 10]) (by decide +kernel) rfl ?_
    refine sm_ald 2244 C (ltM (krM11_0 (by decide +kernel : kdM 0 = 11)) (by decide)) (krM11_0 (by decide +kernel : kdM 0 = 11)) (nrM11_0 (by decide +kernel : kdM 0 = 11)) (by decide +kernel) (fun v2 => ?_)
    refine sm_ast 11 C (ltM (krM11_11 (by decide +kernel : kdM 0 = 11)) (by decide)) (krM11_11 (by decide +kernel : kdM 0 = 11)) (nrM11_11 (by decide +kernel : kdM 0 = 11)) (by decide +kernel) (fun τ3 => ?_)
    refine sm_seg C [(.aload_n 0, 0)] (pc' := 26) (L' := [(3, .int v1), (0, .ref 0), (1, .int a1), (2, .int a2)]) (S' := [.ref 0]) (by decide +kernel) rfl ?_
    refine sm_getR 11 11 10 cls11 C (ltM (by decide +kernel : kdM 0 = 11) (by decide)) (by decide +kernel : kdM 0 = 11) (obM11 (by decide +kernel : kdM 0 = 11)) (by decide) (frM11_11 (by decide +kernel : kdM 0 = 11)) fl11_37 (by decide +kernel) ?_
    refine sm_seg C [(.iconst 2, 2), (.aload_n 0, 0)] (pc' := 31) (L' := [(3, .int v1), (0, .ref 0), (1, .int a1), (2, .int a2)]) (S' := [.ref 0, .int 2, .ref 10]) (by decide +kernel) rfl ?_
    refine sm_getR 11 0 1 cls11 C (ltM (by decide +kernel : kdM 0 = 11) (by decide)) (by decide +kernel : kdM 0 = 11) (obM11 (by decide +kernel : kdM 0 = 11)) (by decide) (frM11_0 (by decide +kernel : kdM 0 = 11)) fl11_7 (by decide +kernel) ?_
    refine sm_seg C [(.bipush 59, 59), (.iload_n 1, 0), (.iadd, 0)] (pc' := 38) (L' := [(3, .int v1), (0, .ref 0), (1, .int a1), (2, .int a2)]) (S' := [.int (59 + a1), .ref 1, .int 2, .ref 10]) (by decide +kernel) rfl ?_
    refine sm_ald 2244 C (ltM (krM11_0 (by decide +kernel : kdM 0 = 11)) (by decide)) (krM11_0 (by decide +kernel : kdM 0 = 11)) (nrM11_0 (by decide +kernel : kdM 0 = 11)) (by decide +kernel) (fun v4 => ?_)
    refine sm_ast 11 C (ltM (krM11_11 (by decide +kernel : kdM 0 = 11)) (by decide)) (krM11_11 (by decide +kernel : kdM 0 = 11)) (nrM11_11 (by decide +kernel : kdM 0 = 11)) (by decide +kernel) (fun τ5 => ?_)
    refine sm_seg C [(.aload_n 0, 0)] (pc' := 41) (L' := [(3, .int v1), (0, .ref 0), (1, .int a1), (2, .int a2)]) (S' := [.ref 0]) (by decide +kernel) rfl ?_
    refine sm_getR 11 11 10 cls11 C (ltM (by decide +kernel : kdM 0 = 11) (by decide)) (by decide +kernel : kdM 0 = 11) (obM11 (by decide +kernel : kdM 0 = 11)) (by decide) (frM11_11 (by decide +kernel : kdM 0 = 11)) fl11_37 (by decide +kernel) ?_
    refine sm_seg C [(.iconst 3, 3), (.aload_n 0, 0)] (pc' := 46) (L' := [(3, .int v1), (0, .ref 0), (1, .int a1), (2, .int a2)]) (S' := [.ref 0, .int 3, .ref 10]) (by decide +kernel) rfl ?_
    refine sm_getR 11 0 1 cls11 C (ltM (by decide +kernel : kdM 0 = 11) (by decide)) (by decide +kernel : kdM 0 = 11) (obM11 (by decide +kernel : kdM 0 = 11)) (by decide) (frM11_0 (by decide +kernel : kdM 0 = 11)) fl11_7 (by decide +kernel) ?_
    refine sm_seg C [(.bipush 73, 73), (.iload_n 1, 0), (.iadd, 0)] (pc' := 53) (L' := [(3, .int v1), (0, .ref 0), (1, .int a1), (2, .int a2)]) (S' := [.int (73 + a1), .ref 1, .int 3, .ref 10]) (by decide +kernel) rfl ?_
    refine sm_ald 2244 C (ltM (krM11_0 (by decide +kernel : kdM 0 = 11)) (by decide)) (krM11_0 (by decide +kernel : kdM 0 = 11)) (nrM11_0 (by decide +kernel : kdM 0 = 11)) (by decide +kernel) (fun v6 => ?_)
    refine sm_ast 11 C (ltM (krM11_11 (by decide +kernel : kdM 0 = 11)) (by decide)) (krM11_11 (by decide +kernel : kdM 0 = 11)) (nrM11_11 (by decide +kernel : kdM 0 = 11)) (by decide +kernel) (fun τ7 => ?_)
    refine sm_seg C [(.aload_n 0, 0)] (pc' := 56) (L' := [(3, .int v1), (0, .ref 0), (1, .int a1), (2, .int a2)]) (S' := [.ref 0]) (by decide +kernel) rfl ?_
    refine sm_getR 11 11 10 cls11 C (ltM (by decide +kernel : kdM 0 = 11) (by decide)) (by decide +kernel : kdM 0 = 11) (obM11 (by decide +kernel : kdM 0 = 11)) (by decide) (frM11_11 (by decide +kernel : kdM 0 = 11)) fl11_37 (by decide +kernel) ?_
    refine sm_seg C [(.iconst 4, 4), (.iload_n 3, 0), (.iconst (-1), (-1))] (pc' := 62) (L' := [(3, .int v1), (0, .ref 0), (1, .int a1), (2, .int a2)]) (S' := [.int (-1), .int v1, .int 4, .ref 10]) (by decide +kernel) rfl ?_
    refine sm_icmpne 69 (off := 7) C (by decide +kernel) (by decide) (fun _ => ?_) (fun _ => ?_)
    · refine sm_seg C [(.iconst 0, 0), (.goto 11, 0)] (pc' := 77) (L' := [(3, .int v1), (0, .ref 0), (1, .int a1), (2, .int a2)]) (S' := [.int 0, .int 4, .ref 10]) (by decide +kernel) rfl ?_
      exact sm_sub [1, 2, 3, 0] rfl (s_X11_asks_j77 F C hr a1 a2 v1 0 4 τ7)
    · refine sm_seg C [(.aload_n 0, 0)] (pc' := 70) (L' := [(3, .int v1), (0, .ref 0), (1, .int a1), (2, .int a2)]) (S' := [.ref 0, .int 4, .ref 10]) (by decide +kernel) rfl ?_
      refine sm_getR 11 0 1 cls11 C (ltM (by decide +kernel : kdM 0 = 11) (by decide)) (by decide +kernel : kdM 0 = 11) (obM11 (by decide +kernel : kdM 0 = 11)) (by decide) (frM11_0 (by decide +kernel : kdM 0 = 11)) fl11_7 (by decide +kernel) ?_
      refine sm_seg C [(.iconst 5, 5), (.iload_n 3, 0), (.iadd, 0)] (pc' := 76) (L' := [(3, .int v1), (0, .ref 0), (1, .int a1), (2, .int a2)]) (S' := [.int (5 + v1), .ref 1, .int 4, .ref 10]) (by decide +kernel) rfl ?_
      refine sm_ald 2244 C (ltM (krM11_0 (by decide +kernel : kdM 0 = 11)) (by decide)) (krM11_0 (by decide +kernel : kdM 0 = 11)) (nrM11_0 (by decide +kernel : kdM 0 = 11)) (by decide +kernel) (fun v21 => ?_)
      exact sm_sub [1, 2, 3, 0] rfl (s_X11_asks_j77 F C hr a1 a2 v1 v21 4 τ7)) h
