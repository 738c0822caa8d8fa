/-! the law, case by case -/
def bz (v : Int32) : Int32 := if v = 0 then 0 else 1
set_option maxRecDepth 20000 in
theorem law_0 (F : Nat) {K : Ctx} {Q : State → Prop} {Ln : Nat} {xs : Nat → Int32} {a3 r : Int32} {tx tm tx' tm' : Tau} (C : Cx K sysU "BasketEnvoysLaw" code 4 100) (hX : Scr K sysU Ln xs) (h1 : inb (a3 + 1) Ln = true) (h2 : inb (a3 + 2) Ln = true) (h3 : inb (a3 + 3) Ln = true) (h4 : inb (a3 + 4) Ln = true) (h5 : inb (a3 + 5) Ln = true) (hx : X10_state F (xs (ix (a3 + 1))) tx = some (r, tx')) (hm : X11_state F (xs (ix (a3 + 1))) tm = some (r, tm')) (kk : At K sysU 4 Q 18 [(3, .int (a3 + 6)), (2, .ref 222), (1, .ref 0), (0, .ref 400000)] [] (mkU tx' tm')) : At K sysU 4 Q 228 [(3, .int a3), (2, .ref 222), (1, .ref 0), (0, .ref 400000)] [] (mkU tx tm) := by
  refine at_seg (pc' := 233) (L' := [(3, .int a3), (2, .ref 222), (1, .ref 0), (0, .ref 400000)]) (S' := [.int (a3 + 1), .ref 400000, .ref 0]) C ?_ [(.aload_n 1, 0), (.aload_n 0, 0), (.iload_n 3, 0), (.iconst 1, 1), (.iadd, 0)] _ _ _ (by decide +kernel) rfl
  refine at_sld C hX h1 (by decide +kernel) ?_
  refine at_callX [.int (xs (ix (a3 + 1)))] [] rfl C mw_X10_state rfl ml_BasketEnvoysLaw_13 rfl ⟨by decide, by decide⟩ (Nat.le_of_ble_eq_true rfl) (by decide +kernel) (c_X10_state F (xs (ix (a3 + 1))) tx r tx' hx) ?_
  refine at_seg (pc' := 242) (L' := [(3, .int a3), (2, .ref 222), (1, .ref 0), (0, .ref 400000)]) (S' := [.int (a3 + 1), .ref 400000, .ref 222, .int r]) C ?_ [(.aload_n 2, 0), (.aload_n 0, 0), (.iload_n 3, 0), (.iconst 1, 1), (.iadd, 0)] _ _ _ (by decide +kernel) rfl
  refine at_sld C hX h1 (by decide +kernel) ?_
  refine at_callM [.int (xs (ix (a3 + 1)))] [.int r] rfl C mw_X11_state rfl ml_BasketEnvoysLaw_17 (by intro v hv; simp only [List.mem_cons, List.not_mem_nil, or_false] at hv; rcases hv with rfl <;> exact ⟨_, rfl⟩) rfl ⟨by decide, by decide⟩ (Nat.le_of_ble_eq_true rfl) (by decide +kernel) (c_X11_state F (xs (ix (a3 + 1))) tm r tm' hm) ?_
  refine at_icmpeq 1641 (off := 1395) C (by decide +kernel) (by decide) rfl ?_
  refine at_seg (pc' := 18) (L' := [(3, .int (a3 + 6)), (2, .ref 222), (1, .ref 0), (0, .ref 400000)]) (S' := []) C ?_ [(.iinc 3 6, 6), (.goto (-1626), 0)] _ _ _ (by decide +kernel) rfl
  exact kk
set_option maxRecDepth 20000 in
theorem law_1 (F : Nat) {K : Ctx} {Q : State → Prop} {Ln : Nat} {xs : Nat → Int32} {a3 r : Int32} {tx tm tx' tm' : Tau} (C : Cx K sysU "BasketEnvoysLaw" code 4 100) (hX : Scr K sysU Ln xs) (h1 : inb (a3 + 1) Ln = true) (h2 : inb (a3 + 2) Ln = true) (h3 : inb (a3 + 3) Ln = true) (h4 : inb (a3 + 4) Ln = true) (h5 : inb (a3 + 5) Ln = true) (hx : X10_power F (xs (ix (a3 + 1))) tx = some (r, tx')) (hm : X11_power F (xs (ix (a3 + 1))) tm = some (r, tm')) (kk : At K sysU 4 Q 18 [(3, .int (a3 + 6)), (2, .ref 222), (1, .ref 0), (0, .ref 400000)] [] (mkU tx' tm')) : At K sysU 4 Q 251 [(3, .int a3), (2, .ref 222), (1, .ref 0), (0, .ref 400000)] [] (mkU tx tm) := by
  refine at_seg (pc' := 256) (L' := [(3, .int a3), (2, .ref 222), (1, .ref 0), (0, .ref 400000)]) (S' := [.int (a3 + 1), .ref 400000, .ref 0]) C ?_ [(.aload_n 1, 0), (.aload_n 0, 0), (.iload_n 3, 0), (.iconst 1, 1), (.iadd, 0)] _ _ _ (by decide +kernel) rfl
  refine at_sld C hX h1 (by decide +kernel) ?_
  refine at_callX [.int (xs (ix (a3 + 1)))] [] rfl C mw_X10_power rfl ml_BasketEnvoysLaw_18 rfl ⟨by decide, by decide⟩ (Nat.le_of_ble_eq_true rfl) (by decide +kernel) (c_X10_power F (xs (ix (a3 + 1))) tx r tx' hx) ?_
  refine at_seg (pc' := 265) (L' := [(3, .int a3), (2, .ref 222), (1, .ref 0), (0, .ref 400000)]) (S' := [.int (a3 + 1), .ref 400000, .ref 222, .int r]) C ?_ [(.aload_n 2, 0), (.aload_n 0, 0), (.iload_n 3, 0), (.iconst 1, 1), (.iadd, 0)] _ _ _ (by decide +kernel) rfl
  refine at_sld C hX h1 (by decide +kernel) ?_
  refine at_callM [.int (xs (ix (a3 + 1)))] [.int r] rfl C mw_X11_power rfl ml_BasketEnvoysLaw_21 (by intro v hv; simp only [List.mem_cons, List.not_mem_nil, or_false] at hv; rcases hv with rfl <;> exact ⟨_, rfl⟩) rfl ⟨by decide, by decide⟩ (Nat.le_of_ble_eq_true rfl) (by decide +kernel) (c_X11_power F (xs (ix (a3 + 1))) tm r tm' hm) ?_
  refine at_icmpeq 1641 (off := 1372) C (by decide +kernel) (by decide) rfl ?_
  refine at_seg (pc' := 18) (L' := [(3, .int (a3 + 6)), (2, .ref 222), (1, .ref 0), (0, .ref 400000)]) (S' := []) C ?_ [(.iinc 3 6, 6), (.goto (-1626), 0)] _ _ _ (by decide +kernel) rfl
  exact kk
set_option maxRecDepth 20000 in
theorem law_2 (F : Nat) {K : Ctx} {Q : State → Prop} {Ln : Nat} {xs : Nat → Int32} {a3 r : Int32} {tx tm tx' tm' : Tau} (C : Cx K sysU "BasketEnvoysLaw" code 4 100) (hX : Scr K sysU Ln xs) (h1 : inb (a3 + 1) Ln = true) (h2 : inb (a3 + 2) Ln = true) (h3 : inb (a3 + 3) Ln = true) (h4 : inb (a3 + 4) Ln = true) (h5 : inb (a3 + 5) Ln = true) (hx : X10_mute F (xs (ix (a3 + 1))) (xs (ix (a3 + 2))) (bz (xs (ix (a3 + 3)))) tx = some (r, tx')) (hm : X11_mute F (xs (ix (a3 + 1))) (xs (ix (a3 + 2))) (bz (xs (ix (a3 + 3)))) tm = some (r, tm')) (kk : At K sysU 4 Q 18 [(3, .int (a3 + 6)), (2, .ref 222), (1, .ref 0), (0, .ref 400000)] [] (mkU tx' tm')) : At K sysU 4 Q 274 [(3, .int a3), (2, .ref 222), (1, .ref 0), (0, .ref 400000)] [] (mkU tx tm) := by
  by_cases e : (xs (ix (a3 + 3))) = 0
  · rw [show bz (xs (ix (a3 + 3))) = 0 from if_pos e] at hx hm
    refine at_seg (pc' := 279) (L' := [(3, .int a3), (2, .ref 222), (1, .ref 0), (0, .ref 400000)]) (S' := [.int (a3 + 1), .ref 400000, .ref 0]) C ?_ [(.aload_n 1, 0), (.aload_n 0, 0), (.iload_n 3, 0), (.iconst 1, 1), (.iadd, 0)] _ _ _ (by decide +kernel) rfl
    refine at_sld C hX h1 (by decide +kernel) ?_
    refine at_seg (pc' := 284) (L' := [(3, .int a3), (2, .ref 222), (1, .ref 0), (0, .ref 400000)]) (S' := [.int (a3 + 2), .ref 400000, .int (xs (ix (a3 + 1))), .ref 0]) C ?_ [(.aload_n 0, 0), (.iload_n 3, 0), (.iconst 2, 2), (.iadd, 0)] _ _ _ (by decide +kernel) rfl
    refine at_sld C hX h2 (by decide +kernel) ?_
    refine at_seg (pc' := 289) (L' := [(3, .int a3), (2, .ref 222), (1, .ref 0), (0, .ref 400000)]) (S' := [.int (a3 + 3), .ref 400000, .int (xs (ix (a3 + 2))), .int (xs (ix (a3 + 1))), .ref 0]) C ?_ [(.aload_n 0, 0), (.iload_n 3, 0), (.iconst 3, 3), (.iadd, 0)] _ _ _ (by decide +kernel) rfl
    refine at_sld C hX h3 (by decide +kernel) ?_
    refine at_ifeq 297 (off := 7) C (by decide +kernel) (by decide) (fun _ => ?_) (fun q => absurd e q)
    refine at_seg (pc' := 298) (L' := [(3, .int a3), (2, .ref 222), (1, .ref 0), (0, .ref 400000)]) (S' := [.int 0, .int (xs (ix (a3 + 2))), .int (xs (ix (a3 + 1))), .ref 0]) C ?_ [(.iconst 0, 0)] _ _ _ (by decide +kernel) rfl
    refine at_callX [.int (xs (ix (a3 + 1))), .int (xs (ix (a3 + 2))), .int 0] [] rfl C mw_X10_mute rfl ml_BasketEnvoysLaw_22 rfl ⟨by decide, by decide⟩ (Nat.le_of_ble_eq_true rfl) (by decide +kernel) (c_X10_mute F (xs (ix (a3 + 1))) (xs (ix (a3 + 2))) 0 tx r tx' hx) ?_
    refine at_seg (pc' := 306) (L' := [(3, .int a3), (2, .ref 222), (1, .ref 0), (0, .ref 400000)]) (S' := [.int (a3 + 1), .ref 400000, .ref 222, .int r]) C ?_ [(.aload_n 2, 0), (.aload_n 0, 0), (.iload_n 3, 0), (.iconst 1, 1), (.iadd, 0)] _ _ _ (by decide +kernel) rfl
    refine at_sld C hX h1 (by decide +kernel) ?_
    refine at_seg (pc' := 311) (L' := [(3, .int a3), (2, .ref 222), (1, .ref 0), (0, .ref 400000)]) (S' := [.int (a3 + 2), .ref 400000, .int (xs (ix (a3 + 1))), .ref 222, .int r]) C ?_ [(.aload_n 0, 0), (.iload_n 3, 0), (.iconst 2, 2), (.iadd, 0)] _ _ _ (by decide +kernel) rfl
    refine at_sld C hX h2 (by decide +kernel) ?_
    refine at_seg (pc' := 316) (L' := [(3, .int a3), (2, .ref 222), (1, .ref 0), (0, .ref 400000)]) (S' := [.int (a3 + 3), .ref 400000, .int (xs (ix (a3 + 2))), .int (xs (ix (a3 + 1))), .ref 222, .int r]) C ?_ [(.aload_n 0, 0), (.iload_n 3, 0), (.iconst 3, 3), (.iadd, 0)] _ _ _ (by decide +kernel) rfl
    refine at_sld C hX h3 (by decide +kernel) ?_
    refine at_ifeq 324 (off := 7) C (by decide +kernel) (by decide) (fun _ => ?_) (fun q => absurd e q)
    refine at_seg (pc' := 325) (L' := [(3, .int a3), (2, .ref 222), (1, .ref 0), (0, .ref 400000)]) (S' := [.int 0, .int (xs (ix (a3 + 2))), .int (xs (ix (a3 + 1))), .ref 222, .int r]) C ?_ [(.iconst 0, 0)] _ _ _ (by decide +kernel) rfl
    refine at_callM [.int (xs (ix (a3 + 1))), .int (xs (ix (a3 + 2))), .int 0] [.int r] rfl C mw_X11_mute rfl ml_BasketEnvoysLaw_26 (by intro v hv; simp only [List.mem_cons, List.not_mem_nil, or_false] at hv; rcases hv with rfl | rfl | rfl <;> exact ⟨_, rfl⟩) rfl ⟨by decide, by decide⟩ (Nat.le_of_ble_eq_true rfl) (by decide +kernel) (c_X11_mute F (xs (ix (a3 + 1))) (xs (ix (a3 + 2))) 0 tm r tm' hm) ?_
    refine at_icmpeq 1641 (off := 1313) C (by decide +kernel) (by decide) rfl ?_
    refine at_seg (pc' := 18) (L' := [(3, .int (a3 + 6)), (2, .ref 222), (1, .ref 0), (0, .ref 400000)]) (S' := []) C ?_ [(.iinc 3 6, 6), (.goto (-1626), 0)] _ _ _ (by decide +kernel) rfl
    exact kk
  · rw [show bz (xs (ix (a3 + 3))) = 1 from if_neg e] at hx hm
    refine at_seg (pc' := 279) (L' := [(3, .int a3), (2, .ref 222), (1, .ref 0), (0, .ref 400000)]) (S' := [.int (a3 + 1), .ref 400000, .ref 0]) C ?_ [(.aload_n 1, 0), (.aload_n 0, 0), (.iload_n 3, 0), (.iconst 1, 1), (.iadd, 0)] _ _ _ (by decide +kernel) rfl
    refine at_sld C hX h1 (by decide +kernel) ?_
    refine at_seg (pc' := 284) (L' := [(3, .int a3), (2, .ref 222), (1, .ref 0), (0, .ref 400000)]) (S' := [.int (a3 + 2), .ref 400000, .int (xs (ix (a3 + 1))), .ref 0]) C ?_ [(.aload_n 0, 0), (.iload_n 3, 0), (.iconst 2, 2), (.iadd, 0)] _ _ _ (by decide +kernel) rfl
    refine at_sld C hX h2 (by decide +kernel) ?_
    refine at_seg (pc' := 289) (L' := [(3, .int a3), (2, .ref 222), (1, .ref 0), (0, .ref 400000)]) (S' := [.int (a3 + 3), .ref 400000, .int (xs (ix (a3 + 2))), .int (xs (ix (a3 + 1))), .ref 0]) C ?_ [(.aload_n 0, 0), (.iload_n 3, 0), (.iconst 3, 3), (.iadd, 0)] _ _ _ (by decide +kernel) rfl
    refine at_sld C hX h3 (by decide +kernel) ?_
    refine at_ifeq 297 (off := 7) C (by decide +kernel) (by decide) (fun q => absurd q e) (fun _ => ?_)
    refine at_seg (pc' := 298) (L' := [(3, .int a3), (2, .ref 222), (1, .ref 0), (0, .ref 400000)]) (S' := [.int 1, .int (xs (ix (a3 + 2))), .int (xs (ix (a3 + 1))), .ref 0]) C ?_ [(.iconst 1, 1), (.goto 4, 0)] _ _ _ (by decide +kernel) rfl
    refine at_callX [.int (xs (ix (a3 + 1))), .int (xs (ix (a3 + 2))), .int 1] [] rfl C mw_X10_mute rfl ml_BasketEnvoysLaw_22 rfl ⟨by decide, by decide⟩ (Nat.le_of_ble_eq_true rfl) (by decide +kernel) (c_X10_mute F (xs (ix (a3 + 1))) (xs (ix (a3 + 2))) 1 tx r tx' hx) ?_
    refine at_seg (pc' := 306) (L' := [(3, .int a3), (2, .ref 222), (1, .ref 0), (0, .ref 400000)]) (S' := [.int (a3 + 1), .ref 400000, .ref 222, .int r]) C ?_ [(.aload_n 2, 0), (.aload_n 0, 0), (.iload_n 3, 0), (.iconst 1, 1), (.iadd, 0)] _ _ _ (by decide +kernel) rfl
    refine at_sld C hX h1 (by decide +kernel) ?_
    refine at_seg (pc' := 311) (L' := [(3, .int a3), (2, .ref 222), (1, .ref 0), (0, .ref 400000)]) (S' := [.int (a3 + 2), .ref 400000, .int (xs (ix (a3 + 1))), .ref 222, .int r]) C ?_ [(.aload_n 0, 0), (.iload_n 3, 0), (.iconst 2, 2), (.iadd, 0)] _ _ _ (by decide +kernel) rfl
    refine at_sld C hX h2 (by decide +kernel) ?_
    refine at_seg (pc' := 316) (L' := [(3, .int a3), (2, .ref 222), (1, .ref 0), (0, .ref 400000)]) (S' := [.int (a3 + 3), .ref 400000, .int (xs (ix (a3 + 2))), .int (xs (ix (a3 + 1))), .ref 222, .int r]) C ?_ [(.aload_n 0, 0), (.iload_n 3, 0), (.iconst 3, 3), (.iadd, 0)] _ _ _ (by decide +kernel) rfl
    refine at_sld C hX h3 (by decide +kernel) ?_
    refine at_ifeq 324 (off := 7) C (by decide +kernel) (by decide) (fun q => absurd q e) (fun _ => ?_)
    refine at_seg (pc' := 325) (L' := [(3, .int a3), (2, .ref 222), (1, .ref 0), (0, .ref 400000)]) (S' := [.int 1, .int (xs (ix (a3 + 2))), .int (xs (ix (a3 + 1))), .ref 222, .int r]) C ?_ [(.iconst 1, 1), (.goto 4, 0)] _ _ _ (by decide +kernel) rfl
    refine at_callM [.int (xs (ix (a3 + 1))), .int (xs (ix (a3 + 2))), .int 1] [.int r] rfl C mw_X11_mute rfl ml_BasketEnvoysLaw_26 (by intro v hv; simp only [List.mem_cons, List.not_mem_nil, or_false] at hv; rcases hv with rfl | rfl | rfl <;> exact ⟨_, rfl⟩) rfl ⟨by decide, by decide⟩ (Nat.le_of_ble_eq_true rfl) (by decide +kernel) (c_X11_mute F (xs (ix (a3 + 1))) (xs (ix (a3 + 2))) 1 tm r tm' hm) ?_
    refine at_icmpeq 1641 (off := 1313) C (by decide +kernel) (by decide) rfl ?_
    refine at_seg (pc' := 18) (L' := [(3, .int (a3 + 6)), (2, .ref 222), (1, .ref 0), (0, .ref 400000)]) (S' := []) C ?_ [(.iinc 3 6, 6), (.goto (-1626), 0)] _ _ _ (by decide +kernel) rfl
    exact kk
set_option maxRecDepth 20000 in
theorem law_3 (F : Nat) {K : Ctx} {Q : State → Prop} {Ln : Nat} {xs : Nat → Int32} {a3 r : Int32} {tx tm tx' tm' : Tau} (C : Cx K sysU "BasketEnvoysLaw" code 4 100) (hX : Scr K sysU Ln xs) (h1 : inb (a3 + 1) Ln = true) (h2 : inb (a3 + 2) Ln = true) (h3 : inb (a3 + 3) Ln = true) (h4 : inb (a3 + 4) Ln = true) (h5 : inb (a3 + 5) Ln = true) (hx : X10_set F (xs (ix (a3 + 1))) (xs (ix (a3 + 2))) (xs (ix (a3 + 3))) tx = some (r, tx')) (hm : X11_set F (xs (ix (a3 + 1))) (xs (ix (a3 + 2))) (xs (ix (a3 + 3))) tm = some (r, tm')) (kk : At K sysU 4 Q 18 [(3, .int (a3 + 6)), (2, .ref 222), (1, .ref 0), (0, .ref 400000)] [] (mkU tx' tm')) : At K sysU 4 Q 333 [(3, .int a3), (2, .ref 222), (1, .ref 0), (0, .ref 400000)] [] (mkU tx tm) := by
  refine at_seg (pc' := 338) (L' := [(3, .int a3), (2, .ref 222), (1, .ref 0), (0, .ref 400000)]) (S' := [.int (a3 + 1), .ref 400000, .ref 0]) C ?_ [(.aload_n 1, 0), (.aload_n 0, 0), (.iload_n 3, 0), (.iconst 1, 1), (.iadd, 0)] _ _ _ (by decide +kernel) rfl
  refine at_sld C hX h1 (by decide +kernel) ?_
  refine at_seg (pc' := 343) (L' := [(3, .int a3), (2, .ref 222), (1, .ref 0), (0, .ref 400000)]) (S' := [.int (a3 + 2), .ref 400000, .int (xs (ix (a3 + 1))), .ref 0]) C ?_ [(.aload_n 0, 0), (.iload_n 3, 0), (.iconst 2, 2), (.iadd, 0)] _ _ _ (by decide +kernel) rfl
  refine at_sld C hX h2 (by decide +kernel) ?_
  refine at_seg (pc' := 348) (L' := [(3, .int a3), (2, .ref 222), (1, .ref 0), (0, .ref 400000)]) (S' := [.int (a3 + 3), .ref 400000, .int (xs (ix (a3 + 2))), .int (xs (ix (a3 + 1))), .ref 0]) C ?_ [(.aload_n 0, 0), (.iload_n 3, 0), (.iconst 3, 3), (.iadd, 0)] _ _ _ (by decide +kernel) rfl
  refine at_sld C hX h3 (by decide +kernel) ?_
  refine at_callX [.int (xs (ix (a3 + 1))), .int (xs (ix (a3 + 2))), .int (xs (ix (a3 + 3)))] [] rfl C mw_X10_set rfl ml_BasketEnvoysLaw_27 rfl ⟨by decide, by decide⟩ (Nat.le_of_ble_eq_true rfl) (by decide +kernel) (c_X10_set F (xs (ix (a3 + 1))) (xs (ix (a3 + 2))) (xs (ix (a3 + 3))) tx r tx' hx) ?_
  refine at_seg (pc' := 357) (L' := [(3, .int a3), (2, .ref 222), (1, .ref 0), (0, .ref 400000)]) (S' := [.int (a3 + 1), .ref 400000, .ref 222, .int r]) C ?_ [(.aload_n 2, 0), (.aload_n 0, 0), (.iload_n 3, 0), (.iconst 1, 1), (.iadd, 0)] _ _ _ (by decide +kernel) rfl
  refine at_sld C hX h1 (by decide +kernel) ?_
  refine at_seg (pc' := 362) (L' := [(3, .int a3), (2, .ref 222), (1, .ref 0), (0, .ref 400000)]) (S' := [.int (a3 + 2), .ref 400000, .int (xs (ix (a3 + 1))), .ref 222, .int r]) C ?_ [(.aload_n 0, 0), (.iload_n 3, 0), (.iconst 2, 2), (.iadd, 0)] _ _ _ (by decide +kernel) rfl
  refine at_sld C hX h2 (by decide +kernel) ?_
  refine at_seg (pc' := 367) (L' := [(3, .int a3), (2, .ref 222), (1, .ref 0), (0, .ref 400000)]) (S' := [.int (a3 + 3), .ref 400000, .int (xs (ix (a3 + 2))), .int (xs (ix (a3 + 1))), .ref 222, .int r]) C ?_ [(.aload_n 0, 0), (.iload_n 3, 0), (.iconst 3, 3), (.iadd, 0)] _ _ _ (by decide +kernel) rfl
  refine at_sld C hX h3 (by decide +kernel) ?_
  refine at_callM [.int (xs (ix (a3 + 1))), .int (xs (ix (a3 + 2))), .int (xs (ix (a3 + 3)))] [.int r] rfl C mw_X11_set rfl ml_BasketEnvoysLaw_31 (by intro v hv; simp only [List.mem_cons, List.not_mem_nil, or_false] at hv; rcases hv with rfl | rfl | rfl <;> exact ⟨_, rfl⟩) rfl ⟨by decide, by decide⟩ (Nat.le_of_ble_eq_true rfl) (by decide +kernel) (c_X11_set F (xs (ix (a3 + 1))) (xs (ix (a3 + 2))) (xs (ix (a3 + 3))) tm r tm' hm) ?_
  refine at_icmpeq 1641 (off := 1270) C (by decide +kernel) (by decide) rfl ?_
  refine at_seg (pc' := 18) (L' := [(3, .int (a3 + 6)), (2, .ref 222), (1, .ref 0), (0, .ref 400000)]) (S' := []) C ?_ [(.iinc 3 6, 6), (.goto (-1626), 0)] _ _ _ (by decide +kernel) rfl
  exact kk
set_option maxRecDepth 20000 in
theorem law_4 (F : Nat) {K : Ctx} {Q : State → Prop} {Ln : Nat} {xs : Nat → Int32} {a3 r : Int32} {tx tm tx' tm' : Tau} (C : Cx K sysU "BasketEnvoysLaw" code 4 100) (hX : Scr K sysU Ln xs) (h1 : inb (a3 + 1) Ln = true) (h2 : inb (a3 + 2) Ln = true) (h3 : inb (a3 + 3) Ln = true) (h4 : inb (a3 + 4) Ln = true) (h5 : inb (a3 + 5) Ln = true) (hx : X10_act F (xs (ix (a3 + 1))) (xs (ix (a3 + 2))) (xs (ix (a3 + 3))) tx = some (r, tx')) (hm : X11_act F (xs (ix (a3 + 1))) (xs (ix (a3 + 2))) (xs (ix (a3 + 3))) tm = some (r, tm')) (kk : At K sysU 4 Q 18 [(3, .int (a3 + 6)), (2, .ref 222), (1, .ref 0), (0, .ref 400000)] [] (mkU tx' tm')) : At K sysU 4 Q 376 [(3, .int a3), (2, .ref 222), (1, .ref 0), (0, .ref 400000)] [] (mkU tx tm) := by
  refine at_seg (pc' := 381) (L' := [(3, .int a3), (2, .ref 222), (1, .ref 0), (0, .ref 400000)]) (S' := [.int (a3 + 1), .ref 400000, .ref 0]) C ?_ [(.aload_n 1, 0), (.aload_n 0, 0), (.iload_n 3, 0), (.iconst 1, 1), (.iadd, 0)] _ _ _ (by decide +kernel) rfl
  refine at_sld C hX h1 (by decide +kernel) ?_
  refine at_seg (pc' := 386) (L' := [(3, .int a3), (2, .ref 222), (1, .ref 0), (0, .ref 400000)]) (S' := [.int (a3 + 2), .ref 400000, .int (xs (ix (a3 + 1))), .ref 0]) C ?_ [(.aload_n 0, 0), (.iload_n 3, 0), (.iconst 2, 2), (.iadd, 0)] _ _ _ (by decide +kernel) rfl
  refine at_sld C hX h2 (by decide +kernel) ?_
  refine at_seg (pc' := 391) (L' := [(3, .int a3), (2, .ref 222), (1, .ref 0), (0, .ref 400000)]) (S' := [.int (a3 + 3), .ref 400000, .int (xs (ix (a3 + 2))), .int (xs (ix (a3 + 1))), .ref 0]) C ?_ [(.aload_n 0, 0), (.iload_n 3, 0), (.iconst 3, 3), (.iadd, 0)] _ _ _ (by decide +kernel) rfl
  refine at_sld C hX h3 (by decide +kernel) ?_
  refine at_callX [.int (xs (ix (a3 + 1))), .int (xs (ix (a3 + 2))), .int (xs (ix (a3 + 3)))] [] rfl C mw_X10_act rfl ml_BasketEnvoysLaw_32 rfl ⟨by decide, by decide⟩ (Nat.le_of_ble_eq_true rfl) (by decide +kernel) (c_X10_act F (xs (ix (a3 + 1))) (xs (ix (a3 + 2))) (xs (ix (a3 + 3))) tx r tx' hx) ?_
  refine at_seg (pc' := 400) (L' := [(3, .int a3), (2, .ref 222), (1, .ref 0), (0, .ref 400000)]) (S' := [.int (a3 + 1), .ref 400000, .ref 222, .int r]) C ?_ [(.aload_n 2, 0), (.aload_n 0, 0), (.iload_n 3, 0), (.iconst 1, 1), (.iadd, 0)] _ _ _ (by decide +kernel) rfl
  refine at_sld C hX h1 (by decide +kernel) ?_
  refine at_seg (pc' := 405) (L' := [(3, .int a3), (2, .ref 222), (1, .ref 0), (0, .ref 400000)]) (S' := [.int (a3 + 2), .ref 400000, .int (xs (ix (a3 + 1))), .ref 222, .int r]) C ?_ [(.aload_n 0, 0), (.iload_n 3, 0), (.iconst 2, 2), (.iadd, 0)] _ _ _ (by decide +kernel) rfl
  refine at_sld C hX h2 (by decide +kernel) ?_
  refine at_seg (pc' := 410) (L' := [(3, .int a3), (2, .ref 222), (1, .ref 0), (0, .ref 400000)]) (S' := [.int (a3 + 3), .ref 400000, .int (xs (ix (a3 + 2))), .int (xs (ix (a3 + 1))), .ref 222, .int r]) C ?_ [(.aload_n 0, 0), (.iload_n 3, 0), (.iconst 3, 3), (.iadd, 0)] _ _ _ (by decide +kernel) rfl
  refine at_sld C hX h3 (by decide +kernel) ?_
  refine at_callM [.int (xs (ix (a3 + 1))), .int (xs (ix (a3 + 2))), .int (xs (ix (a3 + 3)))] [.int r] rfl C mw_X11_act rfl ml_BasketEnvoysLaw_35 (by intro v hv; simp only [List.mem_cons, List.not_mem_nil, or_false] at hv; rcases hv with rfl | rfl | rfl <;> exact ⟨_, rfl⟩) rfl ⟨by decide, by decide⟩ (Nat.le_of_ble_eq_true rfl) (by decide +kernel) (c_X11_act F (xs (ix (a3 + 1))) (xs (ix (a3 + 2))) (xs (ix (a3 + 3))) tm r tm' hm) ?_
  refine at_icmpeq 1641 (off := 1227) C (by decide +kernel) (by decide) rfl ?_
  refine at_seg (pc' := 18) (L' := [(3, .int (a3 + 6)), (2, .ref 222), (1, .ref 0), (0, .ref 400000)]) (S' := []) C ?_ [(.iinc 3 6, 6), (.goto (-1626), 0)] _ _ _ (by decide +kernel) rfl
  exact kk
set_option maxRecDepth 20000 in
theorem law_5 (F : Nat) {K : Ctx} {Q : State → Prop} {Ln : Nat} {xs : Nat → Int32} {a3 r : Int32} {tx tm tx' tm' : Tau} (C : Cx K sysU "BasketEnvoysLaw" code 4 100) (hX : Scr K sysU Ln xs) (h1 : inb (a3 + 1) Ln = true) (h2 : inb (a3 + 2) Ln = true) (h3 : inb (a3 + 3) Ln = true) (h4 : inb (a3 + 4) Ln = true) (h5 : inb (a3 + 5) Ln = true) (hx : X10_days F (xs (ix (a3 + 1))) tx = some (r, tx')) (hm : X11_days F (xs (ix (a3 + 1))) tm = some (r, tm')) (kk : At K sysU 4 Q 18 [(3, .int (a3 + 6)), (2, .ref 222), (1, .ref 0), (0, .ref 400000)] [] (mkU tx' tm')) : At K sysU 4 Q 419 [(3, .int a3), (2, .ref 222), (1, .ref 0), (0, .ref 400000)] [] (mkU tx tm) := by
  refine at_seg (pc' := 424) (L' := [(3, .int a3), (2, .ref 222), (1, .ref 0), (0, .ref 400000)]) (S' := [.int (a3 + 1), .ref 400000, .ref 0]) C ?_ [(.aload_n 1, 0), (.aload_n 0, 0), (.iload_n 3, 0), (.iconst 1, 1), (.iadd, 0)] _ _ _ (by decide +kernel) rfl
  refine at_sld C hX h1 (by decide +kernel) ?_
  refine at_callX [.int (xs (ix (a3 + 1)))] [] rfl C mw_X10_days rfl ml_BasketEnvoysLaw_36 rfl ⟨by decide, by decide⟩ (Nat.le_of_ble_eq_true rfl) (by decide +kernel) (c_X10_days F (xs (ix (a3 + 1))) tx r tx' hx) ?_
  refine at_seg (pc' := 433) (L' := [(3, .int a3), (2, .ref 222), (1, .ref 0), (0, .ref 400000)]) (S' := [.int (a3 + 1), .ref 400000, .ref 222, .int r]) C ?_ [(.aload_n 2, 0), (.aload_n 0, 0), (.iload_n 3, 0), (.iconst 1, 1), (.iadd, 0)] _ _ _ (by decide +kernel) rfl
  refine at_sld C hX h1 (by decide +kernel) ?_
  refine at_callM [.int (xs (ix (a3 + 1)))] [.int r] rfl C mw_X11_days rfl ml_BasketEnvoysLaw_39 (by intro v hv; simp only [List.mem_cons, List.not_mem_nil, or_false] at hv; rcases hv with rfl <;> exact ⟨_, rfl⟩) rfl ⟨by decide, by decide⟩ (Nat.le_of_ble_eq_true rfl) (by decide +kernel) (c_X11_days F (xs (ix (a3 + 1))) tm r tm' hm) ?_
  refine at_icmpeq 1641 (off := 1204) C (by decide +kernel) (by decide) rfl ?_
  refine at_seg (pc' := 18) (L' := [(3, .int (a3 + 6)), (2, .ref 222), (1, .ref 0), (0, .ref 400000)]) (S' := []) C ?_ [(.iinc 3 6, 6), (.goto (-1626), 0)] _ _ _ (by decide +kernel) rfl
  exact kk
set_option maxRecDepth 20000 in
theorem law_6 (F : Nat) {K : Ctx} {Q : State → Prop} {Ln : Nat} {xs : Nat → Int32} {a3 r : Int32} {tx tm tx' tm' : Tau} (C : Cx K sysU "BasketEnvoysLaw" code 4 100) (hX : Scr K sysU Ln xs) (h1 : inb (a3 + 1) Ln = true) (h2 : inb (a3 + 2) Ln = true) (h3 : inb (a3 + 3) Ln = true) (h4 : inb (a3 + 4) Ln = true) (h5 : inb (a3 + 5) Ln = true) (hx : X10_feed F (xs (ix (a3 + 1))) (xs (ix (a3 + 2))) (xs (ix (a3 + 3))) (xs (ix (a3 + 4))) (xs (ix (a3 + 5))) tx = some (r, tx')) (hm : X11_feed F (xs (ix (a3 + 1))) (xs (ix (a3 + 2))) (xs (ix (a3 + 3))) (xs (ix (a3 + 4))) (xs (ix (a3 + 5))) tm = some (r, tm')) (kk : At K sysU 4 Q 18 [(3, .int (a3 + 6)), (2, .ref 222), (1, .ref 0), (0, .ref 400000)] [] (mkU tx' tm')) : At K sysU 4 Q 442 [(3, .int a3), (2, .ref 222), (1, .ref 0), (0, .ref 400000)] [] (mkU tx tm) := by
  refine at_seg (pc' := 447) (L' := [(3, .int a3), (2, .ref 222), (1, .ref 0), (0, .ref 400000)]) (S' := [.int (a3 + 1), .ref 400000, .ref 0]) C ?_ [(.aload_n 1, 0), (.aload_n 0, 0), (.iload_n 3, 0), (.iconst 1, 1), (.iadd, 0)] _ _ _ (by decide +kernel) rfl
  refine at_sld C hX h1 (by decide +kernel) ?_
  refine at_seg (pc' := 452) (L' := [(3, .int a3), (2, .ref 222), (1, .ref 0), (0, .ref 400000)]) (S' := [.int (a3 + 2), .ref 400000, .int (xs (ix (a3 + 1))), .ref 0]) C ?_ [(.aload_n 0, 0), (.iload_n 3, 0), (.iconst 2, 2), (.iadd, 0)] _ _ _ (by decide +kernel) rfl
  refine at_sld C hX h2 (by decide +kernel) ?_
  refine at_seg (pc' := 457) (L' := [(3, .int a3), (2, .ref 222), (1, .ref 0), (0, .ref 400000)]) (S' := [.int (a3 + 3), .ref 400000, .int (xs (ix (a3 + 2))), .int (xs (ix (a3 + 1))), .ref 0]) C ?_ [(.aload_n 0, 0), (.iload_n 3, 0), (.iconst 3, 3), (.iadd, 0)] _ _ _ (by decide +kernel) rfl
  refine at_sld C hX h3 (by decide +kernel) ?_
  refine at_seg (pc' := 462) (L' := [(3, .int a3), (2, .ref 222), (1, .ref 0), (0, .ref 400000)]) (S' := [.int (a3 + 4), .ref 400000, .int (xs (ix (a3 + 3))), .int (xs (ix (a3 + 2))), .int (xs (ix (a3 + 1))), .ref 0]) C ?_ [(.aload_n 0, 0), (.iload_n 3, 0), (.iconst 4, 4), (.iadd, 0)] _ _ _ (by decide +kernel) rfl
  refine at_sld C hX h4 (by decide +kernel) ?_
  refine at_seg (pc' := 467) (L' := [(3, .int a3), (2, .ref 222), (1, .ref 0), (0, .ref 400000)]) (S' := [.int (a3 + 5), .ref 400000, .int (xs (ix (a3 + 4))), .int (xs (ix (a3 + 3))), .int (xs (ix (a3 + 2))), .int (xs (ix (a3 + 1))), .ref 0]) C ?_ [(.aload_n 0, 0), (.iload_n 3, 0), (.iconst 5, 5), (.iadd, 0)] _ _ _ (by decide +kernel) rfl
  refine at_sld C hX h5 (by decide +kernel) ?_
  refine at_callX [.int (xs (ix (a3 + 1))), .int (xs (ix (a3 + 2))), .int (xs (ix (a3 + 3))), .int (xs (ix (a3 + 4))), .int (xs (ix (a3 + 5)))] [] rfl C mw_X10_feed rfl ml_BasketEnvoysLaw_40 rfl ⟨by decide, by decide⟩ (Nat.le_of_ble_eq_true rfl) (by decide +kernel) (c_X10_feed F (xs (ix (a3 + 1))) (xs (ix (a3 + 2))) (xs (ix (a3 + 3))) (xs (ix (a3 + 4))) (xs (ix (a3 + 5))) tx r tx' hx) ?_
  refine at_seg (pc' := 476) (L' := [(3, .int a3), (2, .ref 222), (1, .ref 0), (0, .ref 400000)]) (S' := [.int (a3 + 1), .ref 400000, .ref 222, .int r]) C ?_ [(.aload_n 2, 0), (.aload_n 0, 0), (.iload_n 3, 0), (.iconst 1, 1), (.iadd, 0)] _ _ _ (by decide +kernel) rfl
  refine at_sld C hX h1 (by decide +kernel) ?_
  refine at_seg (pc' := 481) (L' := [(3, .int a3), (2, .ref 222), (1, .ref 0), (0, .ref 400000)]) (S' := [.int (a3 + 2), .ref 400000, .int (xs (ix (a3 + 1))), .ref 222, .int r]) C ?_ [(.aload_n 0, 0), (.iload_n 3, 0), (.iconst 2, 2), (.iadd, 0)] _ _ _ (by decide +kernel) rfl
  refine at_sld C hX h2 (by decide +kernel) ?_
  refine at_seg (pc' := 486) (L' := [(3, .int a3), (2, .ref 222), (1, .ref 0), (0, .ref 400000)]) (S' := [.int (a3 + 3), .ref 400000, .int (xs (ix (a3 + 2))), .int (xs (ix (a3 + 1))), .ref 222, .int r]) C ?_ [(.aload_n 0, 0), (.iload_n 3, 0), (.iconst 3, 3), (.iadd, 0)] _ _ _ (by decide +kernel) rfl
  refine at_sld C hX h3 (by decide +kernel) ?_
  refine at_seg (pc' := 491) (L' := [(3, .int a3), (2, .ref 222), (1, .ref 0), (0, .ref 400000)]) (S' := [.int (a3 + 4), .ref 400000, .int (xs (ix (a3 + 3))), .int (xs (ix (a3 + 2))), .int (xs (ix (a3 + 1))), .ref 222, .int r]) C ?_ [(.aload_n 0, 0), (.iload_n 3, 0), (.iconst 4, 4), (.iadd, 0)] _ _ _ (by decide +kernel) rfl
  refine at_sld C hX h4 (by decide +kernel) ?_
  refine at_seg (pc' := 496) (L' := [(3, .int a3), (2, .ref 222), (1, .ref 0), (0, .ref 400000)]) (S' := [.int (a3 + 5), .ref 400000, .int (xs (ix (a3 + 4))), .int (xs (ix (a3 + 3))), .int (xs (ix (a3 + 2))), .int (xs (ix (a3 + 1))), .ref 222, .int r]) C ?_ [(.aload_n 0, 0), (.iload_n 3, 0), (.iconst 5, 5), (.iadd, 0)] _ _ _ (by decide +kernel) rfl
  refine at_sld C hX h5 (by decide +kernel) ?_
  refine at_callM [.int (xs (ix (a3 + 1))), .int (xs (ix (a3 + 2))), .int (xs (ix (a3 + 3))), .int (xs (ix (a3 + 4))), .int (xs (ix (a3 + 5)))] [.int r] rfl C mw_X11_feed rfl ml_BasketEnvoysLaw_44 (by intro v hv; simp only [List.mem_cons, List.not_mem_nil, or_false] at hv; rcases hv with rfl | rfl | rfl | rfl | rfl <;> exact ⟨_, rfl⟩) rfl ⟨by decide, by decide⟩ (Nat.le_of_ble_eq_true rfl) (by decide +kernel) (c_X11_feed F (xs (ix (a3 + 1))) (xs (ix (a3 + 2))) (xs (ix (a3 + 3))) (xs (ix (a3 + 4))) (xs (ix (a3 + 5))) tm r tm' hm) ?_
  refine at_icmpeq 1641 (off := 1141) C (by decide +kernel) (by decide) rfl ?_
  refine at_seg (pc' := 18) (L' := [(3, .int (a3 + 6)), (2, .ref 222), (1, .ref 0), (0, .ref 400000)]) (S' := []) C ?_ [(.iinc 3 6, 6), (.goto (-1626), 0)] _ _ _ (by decide +kernel) rfl
  exact kk
set_option maxRecDepth 20000 in
theorem law_7 (F : Nat) {K : Ctx} {Q : State → Prop} {Ln : Nat} {xs : Nat → Int32} {a3 r : Int32} {tx tm tx' tm' : Tau} (C : Cx K sysU "BasketEnvoysLaw" code 4 100) (hX : Scr K sysU Ln xs) (h1 : inb (a3 + 1) Ln = true) (h2 : inb (a3 + 2) Ln = true) (h3 : inb (a3 + 3) Ln = true) (h4 : inb (a3 + 4) Ln = true) (h5 : inb (a3 + 5) Ln = true) (hx : X10_end F (xs (ix (a3 + 1))) tx = some (r, tx')) (hm : X11_end F (xs (ix (a3 + 1))) tm = some (r, tm')) (kk : At K sysU 4 Q 18 [(3, .int (a3 + 6)), (2, .ref 222), (1, .ref 0), (0, .ref 400000)] [] (mkU tx' tm')) : At K sysU 4 Q 505 [(3, .int a3), (2, .ref 222), (1, .ref 0), (0, .ref 400000)] [] (mkU tx tm) := by
  refine at_seg (pc' := 510) (L' := [(3, .int a3), (2, .ref 222), (1, .ref 0), (0, .ref 400000)]) (S' := [.int (a3 + 1), .ref 400000, .ref 0]) C ?_ [(.aload_n 1, 0), (.aload_n 0, 0), (.iload_n 3, 0), (.iconst 1, 1), (.iadd, 0)] _ _ _ (by decide +kernel) rfl
  refine at_sld C hX h1 (by decide +kernel) ?_
  refine at_callX [.int (xs (ix (a3 + 1)))] [] rfl C mw_X10_end rfl ml_BasketEnvoysLaw_45 rfl ⟨by decide, by decide⟩ (Nat.le_of_ble_eq_true rfl) (by decide +kernel) (c_X10_end F (xs (ix (a3 + 1))) tx r tx' hx) ?_
  refine at_seg (pc' := 519) (L' := [(3, .int a3), (2, .ref 222), (1, .ref 0), (0, .ref 400000)]) (S' := [.int (a3 + 1), .ref 400000, .ref 222, .int r]) C ?_ [(.aload_n 2, 0), (.aload_n 0, 0), (.iload_n 3, 0), (.iconst 1, 1), (.iadd, 0)] _ _ _ (by decide +kernel) rfl
  refine at_sld C hX h1 (by decide +kernel) ?_
  refine at_callM [.int (xs (ix (a3 + 1)))] [.int r] rfl C mw_X11_end rfl ml_BasketEnvoysLaw_49 (by intro v hv; simp only [List.mem_cons, List.not_mem_nil, or_false] at hv; rcases hv with rfl <;> exact ⟨_, rfl⟩) rfl ⟨by decide, by decide⟩ (Nat.le_of_ble_eq_true rfl) (by decide +kernel) (c_X11_end F (xs (ix (a3 + 1))) tm r tm' hm) ?_
  refine at_icmpeq 1641 (off := 1118) C (by decide +kernel) (by decide) rfl ?_
  refine at_seg (pc' := 18) (L' := [(3, .int (a3 + 6)), (2, .ref 222), (1, .ref 0), (0, .ref 400000)]) (S' := []) C ?_ [(.iinc 3 6, 6), (.goto (-1626), 0)] _ _ _ (by decide +kernel) rfl
  exact kk
set_option maxRecDepth 20000 in
theorem law_8 (F : Nat) {K : Ctx} {Q : State → Prop} {Ln : Nat} {xs : Nat → Int32} {a3 r : Int32} {tx tm tx' tm' : Tau} (C : Cx K sysU "BasketEnvoysLaw" code 4 100) (hX : Scr K sysU Ln xs) (h1 : inb (a3 + 1) Ln = true) (h2 : inb (a3 + 2) Ln = true) (h3 : inb (a3 + 3) Ln = true) (h4 : inb (a3 + 4) Ln = true) (h5 : inb (a3 + 5) Ln = true) (hx : X10_text F (xs (ix (a3 + 1))) tx = some (r, tx')) (hm : X11_text F (xs (ix (a3 + 1))) tm = some (r, tm')) (kk : At K sysU 4 Q 18 [(3, .int (a3 + 6)), (2, .ref 222), (1, .ref 0), (0, .ref 400000)] [] (mkU tx' tm')) : At K sysU 4 Q 528 [(3, .int a3), (2, .ref 222), (1, .ref 0), (0, .ref 400000)] [] (mkU tx tm) := by
  refine at_seg (pc' := 533) (L' := [(3, .int a3), (2, .ref 222), (1, .ref 0), (0, .ref 400000)]) (S' := [.int (a3 + 1), .ref 400000, .ref 0]) C ?_ [(.aload_n 1, 0), (.aload_n 0, 0), (.iload_n 3, 0), (.iconst 1, 1), (.iadd, 0)] _ _ _ (by decide +kernel) rfl
  refine at_sld C hX h1 (by decide +kernel) ?_
  refine at_callX [.int (xs (ix (a3 + 1)))] [] rfl C mw_X10_text rfl ml_BasketEnvoysLaw_50 rfl ⟨by decide, by decide⟩ (Nat.le_of_ble_eq_true rfl) (by decide +kernel) (c_X10_text F (xs (ix (a3 + 1))) tx r tx' hx) ?_
  refine at_seg (pc' := 542) (L' := [(3, .int a3), (2, .ref 222), (1, .ref 0), (0, .ref 400000)]) (S' := [.int (a3 + 1), .ref 400000, .ref 222, .int r]) C ?_ [(.aload_n 2, 0), (.aload_n 0, 0), (.iload_n 3, 0), (.iconst 1, 1), (.iadd, 0)] _ _ _ (by decide +kernel) rfl
  refine at_sld C hX h1 (by decide +kernel) ?_
  refine at_callM [.int (xs (ix (a3 + 1)))] [.int r] rfl C mw_X11_text rfl ml_BasketEnvoysLaw_53 (by intro v hv; simp only [List.mem_cons, List.not_mem_nil, or_false] at hv; rcases hv with rfl <;> exact ⟨_, rfl⟩) rfl ⟨by decide, by decide⟩ (Nat.le_of_ble_eq_true rfl) (by decide +kernel) (c_X11_text F (xs (ix (a3 + 1))) tm r tm' hm) ?_
  refine at_icmpeq 1641 (off := 1095) C (by decide +kernel) (by decide) rfl ?_
  refine at_seg (pc' := 18) (L' := [(3, .int (a3 + 6)), (2, .ref 222), (1, .ref 0), (0, .ref 400000)]) (S' := []) C ?_ [(.iinc 3 6, 6), (.goto (-1626), 0)] _ _ _ (by decide +kernel) rfl
  exact kk
set_option maxRecDepth 20000 in
theorem law_9 (F : Nat) {K : Ctx} {Q : State → Prop} {Ln : Nat} {xs : Nat → Int32} {a3 r : Int32} {tx tm tx' tm' : Tau} (C : Cx K sysU "BasketEnvoysLaw" code 4 100) (hX : Scr K sysU Ln xs) (h1 : inb (a3 + 1) Ln = true) (h2 : inb (a3 + 2) Ln = true) (h3 : inb (a3 + 3) Ln = true) (h4 : inb (a3 + 4) Ln = true) (h5 : inb (a3 + 5) Ln = true) (hx : X10_fault F (xs (ix (a3 + 1))) tx = some (r, tx')) (hm : X11_fault F (xs (ix (a3 + 1))) tm = some (r, tm')) (kk : At K sysU 4 Q 18 [(3, .int (a3 + 6)), (2, .ref 222), (1, .ref 0), (0, .ref 400000)] [] (mkU tx' tm')) : At K sysU 4 Q 551 [(3, .int a3), (2, .ref 222), (1, .ref 0), (0, .ref 400000)] [] (mkU tx tm) := by
  refine at_seg (pc' := 556) (L' := [(3, .int a3), (2, .ref 222), (1, .ref 0), (0, .ref 400000)]) (S' := [.int (a3 + 1), .ref 400000, .ref 0]) C ?_ [(.aload_n 1, 0), (.aload_n 0, 0), (.iload_n 3, 0), (.iconst 1, 1), (.iadd, 0)] _ _ _ (by decide +kernel) rfl
  refine at_sld C hX h1 (by decide +kernel) ?_
  refine at_callX [.int (xs (ix (a3 + 1)))] [] rfl C mw_X10_fault rfl ml_BasketEnvoysLaw_54 rfl ⟨by decide, by decide⟩ (Nat.le_of_ble_eq_true rfl) (by decide +kernel) (c_X10_fault F (xs (ix (a3 + 1))) tx r tx' hx) ?_
  refine at_seg (pc' := 565) (L' := [(3, .int a3), (2, .ref 222), (1, .ref 0), (0, .ref 400000)]) (S' := [.int (a3 + 1), .ref 400000, .ref 222, .int r]) C ?_ [(.aload_n 2, 0), (.aload_n 0, 0), (.iload_n 3, 0), (.iconst 1, 1), (.iadd, 0)] _ _ _ (by decide +kernel) rfl
  refine at_sld C hX h1 (by decide +kernel) ?_
  refine at_callM [.int (xs (ix (a3 + 1)))] [.int r] rfl C mw_X11_fault rfl ml_BasketEnvoysLaw_57 (by intro v hv; simp only [List.mem_cons, List.not_mem_nil, or_false] at hv; rcases hv with rfl <;> exact ⟨_, rfl⟩) rfl ⟨by decide, by decide⟩ (Nat.le_of_ble_eq_true rfl) (by decide +kernel) (c_X11_fault F (xs (ix (a3 + 1))) tm r tm' hm) ?_
  refine at_icmpeq 1641 (off := 1072) C (by decide +kernel) (by decide) rfl ?_
  refine at_seg (pc' := 18) (L' := [(3, .int (a3 + 6)), (2, .ref 222), (1, .ref 0), (0, .ref 400000)]) (S' := []) C ?_ [(.iinc 3 6, 6), (.goto (-1626), 0)] _ _ _ (by decide +kernel) rfl
  exact kk
set_option maxRecDepth 20000 in
theorem law_10 (F : Nat) {K : Ctx} {Q : State → Prop} {Ln : Nat} {xs : Nat → Int32} {a3 r : Int32} {tx tm tx' tm' : Tau} (C : Cx K sysU "BasketEnvoysLaw" code 4 100) (hX : Scr K sysU Ln xs) (h1 : inb (a3 + 1) Ln = true) (h2 : inb (a3 + 2) Ln = true) (h3 : inb (a3 + 3) Ln = true) (h4 : inb (a3 + 4) Ln = true) (h5 : inb (a3 + 5) Ln = true) (hx : X10_of F (xs (ix (a3 + 1))) (xs (ix (a3 + 2))) tx = some (r, tx')) (hm : X11_of F (xs (ix (a3 + 1))) (xs (ix (a3 + 2))) tm = some (r, tm')) (kk : At K sysU 4 Q 18 [(3, .int (a3 + 6)), (2, .ref 222), (1, .ref 0), (0, .ref 400000)] [] (mkU tx' tm')) : At K sysU 4 Q 574 [(3, .int a3), (2, .ref 222), (1, .ref 0), (0, .ref 400000)] [] (mkU tx tm) := by
  refine at_seg (pc' := 579) (L' := [(3, .int a3), (2, .ref 222), (1, .ref 0), (0, .ref 400000)]) (S' := [.int (a3 + 1), .ref 400000, .ref 0]) C ?_ [(.aload_n 1, 0), (.aload_n 0, 0), (.iload_n 3, 0), (.iconst 1, 1), (.iadd, 0)] _ _ _ (by decide +kernel) rfl
  refine at_sld C hX h1 (by decide +kernel) ?_
  refine at_seg (pc' := 584) (L' := [(3, .int a3), (2, .ref 222), (1, .ref 0), (0, .ref 400000)]) (S' := [.int (a3 + 2), .ref 400000, .int (xs (ix (a3 + 1))), .ref 0]) C ?_ [(.aload_n 0, 0), (.iload_n 3, 0), (.iconst 2, 2), (.iadd, 0)] _ _ _ (by decide +kernel) rfl
  refine at_sld C hX h2 (by decide +kernel) ?_
  refine at_callX [.int (xs (ix (a3 + 1))), .int (xs (ix (a3 + 2)))] [] rfl C mw_X10_of rfl ml_BasketEnvoysLaw_58 rfl ⟨by decide, by decide⟩ (Nat.le_of_ble_eq_true rfl) (by decide +kernel) (c_X10_of F (xs (ix (a3 + 1))) (xs (ix (a3 + 2))) tx r tx' hx) ?_
  refine at_seg (pc' := 593) (L' := [(3, .int a3), (2, .ref 222), (1, .ref 0), (0, .ref 400000)]) (S' := [.int (a3 + 1), .ref 400000, .ref 222, .int r]) C ?_ [(.aload_n 2, 0), (.aload_n 0, 0), (.iload_n 3, 0), (.iconst 1, 1), (.iadd, 0)] _ _ _ (by decide +kernel) rfl
  refine at_sld C hX h1 (by decide +kernel) ?_
  refine at_seg (pc' := 598) (L' := [(3, .int a3), (2, .ref 222), (1, .ref 0), (0, .ref 400000)]) (S' := [.int (a3 + 2), .ref 400000, .int (xs (ix (a3 + 1))), .ref 222, .int r]) C ?_ [(.aload_n 0, 0), (.iload_n 3, 0), (.iconst 2, 2), (.iadd, 0)] _ _ _ (by decide +kernel) rfl
  refine at_sld C hX h2 (by decide +kernel) ?_
  refine at_callM [.int (xs (ix (a3 + 1))), .int (xs (ix (a3 + 2)))] [.int r] rfl C mw_X11_of rfl ml_BasketEnvoysLaw_62 (by intro v hv; simp only [List.mem_cons, List.not_mem_nil, or_false] at hv; rcases hv with rfl | rfl <;> exact ⟨_, rfl⟩) rfl ⟨by decide, by decide⟩ (Nat.le_of_ble_eq_true rfl) (by decide +kernel) (c_X11_of F (xs (ix (a3 + 1))) (xs (ix (a3 + 2))) tm r tm' hm) ?_
  refine at_icmpeq 1641 (off := 1039) C (by decide +kernel) (by decide) rfl ?_
  refine at_seg (pc' := 18) (L' := [(3, .int (a3 + 6)), (2, .ref 222), (1, .ref 0), (0, .ref 400000)]) (S' := []) C ?_ [(.iinc 3 6, 6), (.goto (-1626), 0)] _ _ _ (by decide +kernel) rfl
  exact kk
set_option maxRecDepth 20000 in
theorem law_11 (F : Nat) {K : Ctx} {Q : State → Prop} {Ln : Nat} {xs : Nat → Int32} {a3 r : Int32} {tx tm tx' tm' : Tau} (C : Cx K sysU "BasketEnvoysLaw" code 4 100) (hX : Scr K sysU Ln xs) (h1 : inb (a3 + 1) Ln = true) (h2 : inb (a3 + 2) Ln = true) (h3 : inb (a3 + 3) Ln = true) (h4 : inb (a3 + 4) Ln = true) (h5 : inb (a3 + 5) Ln = true) (hx : X10_powerOf F (xs (ix (a3 + 1))) (xs (ix (a3 + 2))) tx = some (r, tx')) (hm : X11_powerOf F (xs (ix (a3 + 1))) (xs (ix (a3 + 2))) tm = some (r, tm')) (kk : At K sysU 4 Q 18 [(3, .int (a3 + 6)), (2, .ref 222), (1, .ref 0), (0, .ref 400000)] [] (mkU tx' tm')) : At K sysU 4 Q 607 [(3, .int a3), (2, .ref 222), (1, .ref 0), (0, .ref 400000)] [] (mkU tx tm) := by
  refine at_seg (pc' := 612) (L' := [(3, .int a3), (2, .ref 222), (1, .ref 0), (0, .ref 400000)]) (S' := [.int (a3 + 1), .ref 400000, .ref 0]) C ?_ [(.aload_n 1, 0), (.aload_n 0, 0), (.iload_n 3, 0), (.iconst 1, 1), (.iadd, 0)] _ _ _ (by decide +kernel) rfl
  refine at_sld C hX h1 (by decide +kernel) ?_
  refine at_seg (pc' := 617) (L' := [(3, .int a3), (2, .ref 222), (1, .ref 0), (0, .ref 400000)]) (S' := [.int (a3 + 2), .ref 400000, .int (xs (ix (a3 + 1))), .ref 0]) C ?_ [(.aload_n 0, 0), (.iload_n 3, 0), (.iconst 2, 2), (.iadd, 0)] _ _ _ (by decide +kernel) rfl
  refine at_sld C hX h2 (by decide +kernel) ?_
  refine at_callX [.int (xs (ix (a3 + 1))), .int (xs (ix (a3 + 2)))] [] rfl C mw_X10_powerOf rfl ml_BasketEnvoysLaw_63 rfl ⟨by decide, by decide⟩ (Nat.le_of_ble_eq_true rfl) (by decide +kernel) (c_X10_powerOf F (xs (ix (a3 + 1))) (xs (ix (a3 + 2))) tx r tx' hx) ?_
  refine at_seg (pc' := 626) (L' := [(3, .int a3), (2, .ref 222), (1, .ref 0), (0, .ref 400000)]) (S' := [.int (a3 + 1), .ref 400000, .ref 222, .int r]) C ?_ [(.aload_n 2, 0), (.aload_n 0, 0), (.iload_n 3, 0), (.iconst 1, 1), (.iadd, 0)] _ _ _ (by decide +kernel) rfl
  refine at_sld C hX h1 (by decide +kernel) ?_
  refine at_seg (pc' := 631) (L' := [(3, .int a3), (2, .ref 222), (1, .ref 0), (0, .ref 400000)]) (S' := [.int (a3 + 2), .ref 400000, .int (xs (ix (a3 + 1))), .ref 222, .int r]) C ?_ [(.aload_n 0, 0), (.iload_n 3, 0), (.iconst 2, 2), (.iadd, 0)] _ _ _ (by decide +kernel) rfl
  refine at_sld C hX h2 (by decide +kernel) ?_
  refine at_callM [.int (xs (ix (a3 + 1))), .int (xs (ix (a3 + 2)))] [.int r] rfl C mw_X11_powerOf rfl ml_BasketEnvoysLaw_66 (by intro v hv; simp only [List.mem_cons, List.not_mem_nil, or_false] at hv; rcases hv with rfl | rfl <;> exact ⟨_, rfl⟩) rfl ⟨by decide, by decide⟩ (Nat.le_of_ble_eq_true rfl) (by decide +kernel) (c_X11_powerOf F (xs (ix (a3 + 1))) (xs (ix (a3 + 2))) tm r tm' hm) ?_
  refine at_icmpeq 1641 (off := 1006) C (by decide +kernel) (by decide) rfl ?_
  refine at_seg (pc' := 18) (L' := [(3, .int (a3 + 6)), (2, .ref 222), (1, .ref 0), (0, .ref 400000)]) (S' := []) C ?_ [(.iinc 3 6, 6), (.goto (-1626), 0)] _ _ _ (by decide +kernel) rfl
  exact kk
set_option maxRecDepth 20000 in
theorem law_12 (F : Nat) {K : Ctx} {Q : State → Prop} {Ln : Nat} {xs : Nat → Int32} {a3 r : Int32} {tx tm tx' tm' : Tau} (C : Cx K sysU "BasketEnvoysLaw" code 4 100) (hX : Scr K sysU Ln xs) (h1 : inb (a3 + 1) Ln = true) (h2 : inb (a3 + 2) Ln = true) (h3 : inb (a3 + 3) Ln = true) (h4 : inb (a3 + 4) Ln = true) (h5 : inb (a3 + 5) Ln = true) (hx : X10_book F (xs (ix (a3 + 1))) (xs (ix (a3 + 2))) tx = some (r, tx')) (hm : X11_book F (xs (ix (a3 + 1))) (xs (ix (a3 + 2))) tm = some (r, tm')) (kk : At K sysU 4 Q 18 [(3, .int (a3 + 6)), (2, .ref 222), (1, .ref 0), (0, .ref 400000)] [] (mkU tx' tm')) : At K sysU 4 Q 640 [(3, .int a3), (2, .ref 222), (1, .ref 0), (0, .ref 400000)] [] (mkU tx tm) := by
  refine at_seg (pc' := 645) (L' := [(3, .int a3), (2, .ref 222), (1, .ref 0), (0, .ref 400000)]) (S' := [.int (a3 + 1), .ref 400000, .ref 0]) C ?_ [(.aload_n 1, 0), (.aload_n 0, 0), (.iload_n 3, 0), (.iconst 1, 1), (.iadd, 0)] _ _ _ (by decide +kernel) rfl
  refine at_sld C hX h1 (by decide +kernel) ?_
  refine at_seg (pc' := 650) (L' := [(3, .int a3), (2, .ref 222), (1, .ref 0), (0, .ref 400000)]) (S' := [.int (a3 + 2), .ref 400000, .int (xs (ix (a3 + 1))), .ref 0]) C ?_ [(.aload_n 0, 0), (.iload_n 3, 0), (.iconst 2, 2), (.iadd, 0)] _ _ _ (by decide +kernel) rfl
  refine at_sld C hX h2 (by decide +kernel) ?_
  refine at_callX [.int (xs (ix (a3 + 1))), .int (xs (ix (a3 + 2)))] [] rfl C mw_X10_book rfl ml_BasketEnvoysLaw_67 rfl ⟨by decide, by decide⟩ (Nat.le_of_ble_eq_true rfl) (by decide +kernel) (c_X10_book F (xs (ix (a3 + 1))) (xs (ix (a3 + 2))) tx r tx' hx) ?_
  refine at_seg (pc' := 659) (L' := [(3, .int a3), (2, .ref 222), (1, .ref 0), (0, .ref 400000)]) (S' := [.int (a3 + 1), .ref 400000, .ref 222, .int r]) C ?_ [(.aload_n 2, 0), (.aload_n 0, 0), (.iload_n 3, 0), (.iconst 1, 1), (.iadd, 0)] _ _ _ (by decide +kernel) rfl
  refine at_sld C hX h1 (by decide +kernel) ?_
  refine at_seg (pc' := 664) (L' := [(3, .int a3), (2, .ref 222), (1, .ref 0), (0, .ref 400000)]) (S' := [.int (a3 + 2), .ref 400000, .int (xs (ix (a3 + 1))), .ref 222, .int r]) C ?_ [(.aload_n 0, 0), (.iload_n 3, 0), (.iconst 2, 2), (.iadd, 0)] _ _ _ (by decide +kernel) rfl
  refine at_sld C hX h2 (by decide +kernel) ?_
  refine at_callM [.int (xs (ix (a3 + 1))), .int (xs (ix (a3 + 2)))] [.int r] rfl C mw_X11_book rfl ml_BasketEnvoysLaw_70 (by intro v hv; simp only [List.mem_cons, List.not_mem_nil, or_false] at hv; rcases hv with rfl | rfl <;> exact ⟨_, rfl⟩) rfl ⟨by decide, by decide⟩ (Nat.le_of_ble_eq_true rfl) (by decide +kernel) (c_X11_book F (xs (ix (a3 + 1))) (xs (ix (a3 + 2))) tm r tm' hm) ?_
  refine at_icmpeq 1641 (off := 973) C (by decide +kernel) (by decide) rfl ?_
  refine at_seg (pc' := 18) (L' := [(3, .int (a3 + 6)), (2, .ref 222), (1, .ref 0), (0, .ref 400000)]) (S' := []) C ?_ [(.iinc 3 6, 6), (.goto (-1626), 0)] _ _ _ (by decide +kernel) rfl
  exact kk
set_option maxRecDepth 20000 in
theorem law_13 (F : Nat) {K : Ctx} {Q : State → Prop} {Ln : Nat} {xs : Nat → Int32} {a3 r : Int32} {tx tm tx' tm' : Tau} (C : Cx K sysU "BasketEnvoysLaw" code 4 100) (hX : Scr K sysU Ln xs) (h1 : inb (a3 + 1) Ln = true) (h2 : inb (a3 + 2) Ln = true) (h3 : inb (a3 + 3) Ln = true) (h4 : inb (a3 + 4) Ln = true) (h5 : inb (a3 + 5) Ln = true) (hx : X10_goes F (xs (ix (a3 + 1))) (xs (ix (a3 + 2))) tx = some (r, tx')) (hm : X11_goes F (xs (ix (a3 + 1))) (xs (ix (a3 + 2))) tm = some (r, tm')) (kk : At K sysU 4 Q 18 [(3, .int (a3 + 6)), (2, .ref 222), (1, .ref 0), (0, .ref 400000)] [] (mkU tx' tm')) : At K sysU 4 Q 673 [(3, .int a3), (2, .ref 222), (1, .ref 0), (0, .ref 400000)] [] (mkU tx tm) := by
  refine at_seg (pc' := 678) (L' := [(3, .int a3), (2, .ref 222), (1, .ref 0), (0, .ref 400000)]) (S' := [.int (a3 + 1), .ref 400000, .ref 0]) C ?_ [(.aload_n 1, 0), (.aload_n 0, 0), (.iload_n 3, 0), (.iconst 1, 1), (.iadd, 0)] _ _ _ (by decide +kernel) rfl
  refine at_sld C hX h1 (by decide +kernel) ?_
  refine at_seg (pc' := 683) (L' := [(3, .int a3), (2, .ref 222), (1, .ref 0), (0, .ref 400000)]) (S' := [.int (a3 + 2), .ref 400000, .int (xs (ix (a3 + 1))), .ref 0]) C ?_ [(.aload_n 0, 0), (.iload_n 3, 0), (.iconst 2, 2), (.iadd, 0)] _ _ _ (by decide +kernel) rfl
  refine at_sld C hX h2 (by decide +kernel) ?_
  refine at_callX [.int (xs (ix (a3 + 1))), .int (xs (ix (a3 + 2)))] [] rfl C mw_X10_goes rfl ml_BasketEnvoysLaw_71 rfl ⟨by decide, by decide⟩ (Nat.le_of_ble_eq_true rfl) (by decide +kernel) (c_X10_goes F (xs (ix (a3 + 1))) (xs (ix (a3 + 2))) tx r tx' hx) ?_
  refine at_seg (pc' := 692) (L' := [(3, .int a3), (2, .ref 222), (1, .ref 0), (0, .ref 400000)]) (S' := [.int (a3 + 1), .ref 400000, .ref 222, .int r]) C ?_ [(.aload_n 2, 0), (.aload_n 0, 0), (.iload_n 3, 0), (.iconst 1, 1), (.iadd, 0)] _ _ _ (by decide +kernel) rfl
  refine at_sld C hX h1 (by decide +kernel) ?_
  refine at_seg (pc' := 697) (L' := [(3, .int a3), (2, .ref 222), (1, .ref 0), (0, .ref 400000)]) (S' := [.int (a3 + 2), .ref 400000, .int (xs (ix (a3 + 1))), .ref 222, .int r]) C ?_ [(.aload_n 0, 0), (.iload_n 3, 0), (.iconst 2, 2), (.iadd, 0)] _ _ _ (by decide +kernel) rfl
  refine at_sld C hX h2 (by decide +kernel) ?_
  refine at_callM [.int (xs (ix (a3 + 1))), .int (xs (ix (a3 + 2)))] [.int r] rfl C mw_X11_goes rfl ml_BasketEnvoysLaw_74 (by intro v hv; simp only [List.mem_cons, List.not_mem_nil, or_false] at hv; rcases hv with rfl | rfl <;> exact ⟨_, rfl⟩) rfl ⟨by decide, by decide⟩ (Nat.le_of_ble_eq_true rfl) (by decide +kernel) (c_X11_goes F (xs (ix (a3 + 1))) (xs (ix (a3 + 2))) tm r tm' hm) ?_
  refine at_icmpeq 1641 (off := 940) C (by decide +kernel) (by decide) rfl ?_
  refine at_seg (pc' := 18) (L' := [(3, .int (a3 + 6)), (2, .ref 222), (1, .ref 0), (0, .ref 400000)]) (S' := []) C ?_ [(.iinc 3 6, 6), (.goto (-1626), 0)] _ _ _ (by decide +kernel) rfl
  exact kk
set_option maxRecDepth 20000 in
theorem law_14 (F : Nat) {K : Ctx} {Q : State → Prop} {Ln : Nat} {xs : Nat → Int32} {a3 r : Int32} {tx tm tx' tm' : Tau} (C : Cx K sysU "BasketEnvoysLaw" code 4 100) (hX : Scr K sysU Ln xs) (h1 : inb (a3 + 1) Ln = true) (h2 : inb (a3 + 2) Ln = true) (h3 : inb (a3 + 3) Ln = true) (h4 : inb (a3 + 4) Ln = true) (h5 : inb (a3 + 5) Ln = true) (hx : X10_peace F (xs (ix (a3 + 1))) tx = some (r, tx')) (hm : X11_peace F (xs (ix (a3 + 1))) tm = some (r, tm')) (kk : At K sysU 4 Q 18 [(3, .int (a3 + 6)), (2, .ref 222), (1, .ref 0), (0, .ref 400000)] [] (mkU tx' tm')) : At K sysU 4 Q 706 [(3, .int a3), (2, .ref 222), (1, .ref 0), (0, .ref 400000)] [] (mkU tx tm) := by
  refine at_seg (pc' := 711) (L' := [(3, .int a3), (2, .ref 222), (1, .ref 0), (0, .ref 400000)]) (S' := [.int (a3 + 1), .ref 400000, .ref 0]) C ?_ [(.aload_n 1, 0), (.aload_n 0, 0), (.iload_n 3, 0), (.iconst 1, 1), (.iadd, 0)] _ _ _ (by decide +kernel) rfl
  refine at_sld C hX h1 (by decide +kernel) ?_
  refine at_callX [.int (xs (ix (a3 + 1)))] [] rfl C mw_X10_peace rfl ml_BasketEnvoysLaw_75 rfl ⟨by decide, by decide⟩ (Nat.le_of_ble_eq_true rfl) (by decide +kernel) (c_X10_peace F (xs (ix (a3 + 1))) tx r tx' hx) ?_
  refine at_seg (pc' := 720) (L' := [(3, .int a3), (2, .ref 222), (1, .ref 0), (0, .ref 400000)]) (S' := [.int (a3 + 1), .ref 400000, .ref 222, .int r]) C ?_ [(.aload_n 2, 0), (.aload_n 0, 0), (.iload_n 3, 0), (.iconst 1, 1), (.iadd, 0)] _ _ _ (by decide +kernel) rfl
  refine at_sld C hX h1 (by decide +kernel) ?_
  refine at_callM [.int (xs (ix (a3 + 1)))] [.int r] rfl C mw_X11_peace rfl ml_BasketEnvoysLaw_78 (by intro v hv; simp only [List.mem_cons, List.not_mem_nil, or_false] at hv; rcases hv with rfl <;> exact ⟨_, rfl⟩) rfl ⟨by decide, by decide⟩ (Nat.le_of_ble_eq_true rfl) (by decide +kernel) (c_X11_peace F (xs (ix (a3 + 1))) tm r tm' hm) ?_
  refine at_icmpeq 1641 (off := 917) C (by decide +kernel) (by decide) rfl ?_
  refine at_seg (pc' := 18) (L' := [(3, .int (a3 + 6)), (2, .ref 222), (1, .ref 0), (0, .ref 400000)]) (S' := []) C ?_ [(.iinc 3 6, 6), (.goto (-1626), 0)] _ _ _ (by decide +kernel) rfl
  exact kk
set_option maxRecDepth 20000 in
theorem law_15 (F : Nat) {K : Ctx} {Q : State → Prop} {Ln : Nat} {xs : Nat → Int32} {a3 r : Int32} {tx tm tx' tm' : Tau} (C : Cx K sysU "BasketEnvoysLaw" code 4 100) (hX : Scr K sysU Ln xs) (h1 : inb (a3 + 1) Ln = true) (h2 : inb (a3 + 2) Ln = true) (h3 : inb (a3 + 3) Ln = true) (h4 : inb (a3 + 4) Ln = true) (h5 : inb (a3 + 5) Ln = true) (hx : X10_shows F (xs (ix (a3 + 1))) tx = some (r, tx')) (hm : X11_shows F (xs (ix (a3 + 1))) tm = some (r, tm')) (kk : At K sysU 4 Q 18 [(3, .int (a3 + 6)), (2, .ref 222), (1, .ref 0), (0, .ref 400000)] [] (mkU tx' tm')) : At K sysU 4 Q 729 [(3, .int a3), (2, .ref 222), (1, .ref 0), (0, .ref 400000)] [] (mkU tx tm) := by
  refine at_seg (pc' := 734) (L' := [(3, .int a3), (2, .ref 222), (1, .ref 0), (0, .ref 400000)]) (S' := [.int (a3 + 1), .ref 400000, .ref 0]) C ?_ [(.aload_n 1, 0), (.aload_n 0, 0), (.iload_n 3, 0), (.iconst 1, 1), (.iadd, 0)] _ _ _ (by decide +kernel) rfl
  refine at_sld C hX h1 (by decide +kernel) ?_
  refine at_callX [.int (xs (ix (a3 + 1)))] [] rfl C mw_X10_shows rfl ml_BasketEnvoysLaw_79 rfl ⟨by decide, by decide⟩ (Nat.le_of_ble_eq_true rfl) (by decide +kernel) (c_X10_shows F (xs (ix (a3 + 1))) tx r tx' hx) ?_
  refine at_seg (pc' := 743) (L' := [(3, .int a3), (2, .ref 222), (1, .ref 0), (0, .ref 400000)]) (S' := [.int (a3 + 1), .ref 400000, .ref 222, .int r]) C ?_ [(.aload_n 2, 0), (.aload_n 0, 0), (.iload_n 3, 0), (.iconst 1, 1), (.iadd, 0)] _ _ _ (by decide +kernel) rfl
  refine at_sld C hX h1 (by decide +kernel) ?_
  refine at_callM [.int (xs (ix (a3 + 1)))] [.int r] rfl C mw_X11_shows rfl ml_BasketEnvoysLaw_82 (by intro v hv; simp only [List.mem_cons, List.not_mem_nil, or_false] at hv; rcases hv with rfl <;> exact ⟨_, rfl⟩) rfl ⟨by decide, by decide⟩ (Nat.le_of_ble_eq_true rfl) (by decide +kernel) (c_X11_shows F (xs (ix (a3 + 1))) tm r tm' hm) ?_
  refine at_icmpeq 1641 (off := 894) C (by decide +kernel) (by decide) rfl ?_
  refine at_seg (pc' := 18) (L' := [(3, .int (a3 + 6)), (2, .ref 222), (1, .ref 0), (0, .ref 400000)]) (S' := []) C ?_ [(.iinc 3 6, 6), (.goto (-1626), 0)] _ _ _ (by decide +kernel) rfl
  exact kk
set_option maxRecDepth 20000 in
theorem law_16 (F : Nat) {K : Ctx} {Q : State → Prop} {Ln : Nat} {xs : Nat → Int32} {a3 r : Int32} {tx tm tx' tm' : Tau} (C : Cx K sysU "BasketEnvoysLaw" code 4 100) (hX : Scr K sysU Ln xs) (h1 : inb (a3 + 1) Ln = true) (h2 : inb (a3 + 2) Ln = true) (h3 : inb (a3 + 3) Ln = true) (h4 : inb (a3 + 4) Ln = true) (h5 : inb (a3 + 5) Ln = true) (hx : X10_alike F (xs (ix (a3 + 1))) tx = some (r, tx')) (hm : X11_alike F (xs (ix (a3 + 1))) tm = some (r, tm')) (kk : At K sysU 4 Q 18 [(3, .int (a3 + 6)), (2, .ref 222), (1, .ref 0), (0, .ref 400000)] [] (mkU tx' tm')) : At K sysU 4 Q 752 [(3, .int a3), (2, .ref 222), (1, .ref 0), (0, .ref 400000)] [] (mkU tx tm) := by
  refine at_seg (pc' := 757) (L' := [(3, .int a3), (2, .ref 222), (1, .ref 0), (0, .ref 400000)]) (S' := [.int (a3 + 1), .ref 400000, .ref 0]) C ?_ [(.aload_n 1, 0), (.aload_n 0, 0), (.iload_n 3, 0), (.iconst 1, 1), (.iadd, 0)] _ _ _ (by decide +kernel) rfl
  refine at_sld C hX h1 (by decide +kernel) ?_
  refine at_callX [.int (xs (ix (a3 + 1)))] [] rfl C mw_X10_alike rfl ml_BasketEnvoysLaw_83 rfl ⟨by decide, by decide⟩ (Nat.le_of_ble_eq_true rfl) (by decide +kernel) (c_X10_alike F (xs (ix (a3 + 1))) tx r tx' hx) ?_
  refine at_seg (pc' := 766) (L' := [(3, .int a3), (2, .ref 222), (1, .ref 0), (0, .ref 400000)]) (S' := [.int (a3 + 1), .ref 400000, .ref 222, .int r]) C ?_ [(.aload_n 2, 0), (.aload_n 0, 0), (.iload_n 3, 0), (.iconst 1, 1), (.iadd, 0)] _ _ _ (by decide +kernel) rfl
  refine at_sld C hX h1 (by decide +kernel) ?_
  refine at_callM [.int (xs (ix (a3 + 1)))] [.int r] rfl C mw_X11_alike rfl ml_BasketEnvoysLaw_86 (by intro v hv; simp only [List.mem_cons, List.not_mem_nil, or_false] at hv; rcases hv with rfl <;> exact ⟨_, rfl⟩) rfl ⟨by decide, by decide⟩ (Nat.le_of_ble_eq_true rfl) (by decide +kernel) (c_X11_alike F (xs (ix (a3 + 1))) tm r tm' hm) ?_
  refine at_icmpeq 1641 (off := 871) C (by decide +kernel) (by decide) rfl ?_
  refine at_seg (pc' := 18) (L' := [(3, .int (a3 + 6)), (2, .ref 222), (1, .ref 0), (0, .ref 400000)]) (S' := []) C ?_ [(.iinc 3 6, 6), (.goto (-1626), 0)] _ _ _ (by decide +kernel) rfl
  exact kk
set_option maxRecDepth 20000 in
theorem law_17 (F : Nat) {K : Ctx} {Q : State → Prop} {Ln : Nat} {xs : Nat → Int32} {a3 r : Int32} {tx tm tx' tm' : Tau} (C : Cx K sysU "BasketEnvoysLaw" code 4 100) (hX : Scr K sysU Ln xs) (h1 : inb (a3 + 1) Ln = true) (h2 : inb (a3 + 2) Ln = true) (h3 : inb (a3 + 3) Ln = true) (h4 : inb (a3 + 4) Ln = true) (h5 : inb (a3 + 5) Ln = true) (hx : X10_weighs F (xs (ix (a3 + 1))) (xs (ix (a3 + 2))) tx = some (r, tx')) (hm : X11_weighs F (xs (ix (a3 + 1))) (xs (ix (a3 + 2))) tm = some (r, tm')) (kk : At K sysU 4 Q 18 [(3, .int (a3 + 6)), (2, .ref 222), (1, .ref 0), (0, .ref 400000)] [] (mkU tx' tm')) : At K sysU 4 Q 775 [(3, .int a3), (2, .ref 222), (1, .ref 0), (0, .ref 400000)] [] (mkU tx tm) := by
  refine at_seg (pc' := 780) (L' := [(3, .int a3), (2, .ref 222), (1, .ref 0), (0, .ref 400000)]) (S' := [.int (a3 + 1), .ref 400000, .ref 0]) C ?_ [(.aload_n 1, 0), (.aload_n 0, 0), (.iload_n 3, 0), (.iconst 1, 1), (.iadd, 0)] _ _ _ (by decide +kernel) rfl
  refine at_sld C hX h1 (by decide +kernel) ?_
  refine at_seg (pc' := 785) (L' := [(3, .int a3), (2, .ref 222), (1, .ref 0), (0, .ref 400000)]) (S' := [.int (a3 + 2), .ref 400000, .int (xs (ix (a3 + 1))), .ref 0]) C ?_ [(.aload_n 0, 0), (.iload_n 3, 0), (.iconst 2, 2), (.iadd, 0)] _ _ _ (by decide +kernel) rfl
  refine at_sld C hX h2 (by decide +kernel) ?_
  refine at_callX [.int (xs (ix (a3 + 1))), .int (xs (ix (a3 + 2)))] [] rfl C mw_X10_weighs rfl ml_BasketEnvoysLaw_87 rfl ⟨by decide, by decide⟩ (Nat.le_of_ble_eq_true rfl) (by decide +kernel) (c_X10_weighs F (xs (ix (a3 + 1))) (xs (ix (a3 + 2))) tx r tx' hx) ?_
  refine at_seg (pc' := 794) (L' := [(3, .int a3), (2, .ref 222), (1, .ref 0), (0, .ref 400000)]) (S' := [.int (a3 + 1), .ref 400000, .ref 222, .int r]) C ?_ [(.aload_n 2, 0), (.aload_n 0, 0), (.iload_n 3, 0), (.iconst 1, 1), (.iadd, 0)] _ _ _ (by decide +kernel) rfl
  refine at_sld C hX h1 (by decide +kernel) ?_
  refine at_seg (pc' := 799) (L' := [(3, .int a3), (2, .ref 222), (1, .ref 0), (0, .ref 400000)]) (S' := [.int (a3 + 2), .ref 400000, .int (xs (ix (a3 + 1))), .ref 222, .int r]) C ?_ [(.aload_n 0, 0), (.iload_n 3, 0), (.iconst 2, 2), (.iadd, 0)] _ _ _ (by decide +kernel) rfl
  refine at_sld C hX h2 (by decide +kernel) ?_
  refine at_callM [.int (xs (ix (a3 + 1))), .int (xs (ix (a3 + 2)))] [.int r] rfl C mw_X11_weighs rfl ml_BasketEnvoysLaw_91 (by intro v hv; simp only [List.mem_cons, List.not_mem_nil, or_false] at hv; rcases hv with rfl | rfl <;> exact ⟨_, rfl⟩) rfl ⟨by decide, by decide⟩ (Nat.le_of_ble_eq_true rfl) (by decide +kernel) (c_X11_weighs F (xs (ix (a3 + 1))) (xs (ix (a3 + 2))) tm r tm' hm) ?_
  refine at_icmpeq 1641 (off := 838) C (by decide +kernel) (by decide) rfl ?_
  refine at_seg (pc' := 18) (L' := [(3, .int (a3 + 6)), (2, .ref 222), (1, .ref 0), (0, .ref 400000)]) (S' := []) C ?_ [(.iinc 3 6, 6), (.goto (-1626), 0)] _ _ _ (by decide +kernel) rfl
  exact kk
set_option maxRecDepth 20000 in
theorem law_18 (F : Nat) {K : Ctx} {Q : State → Prop} {Ln : Nat} {xs : Nat → Int32} {a3 r : Int32} {tx tm tx' tm' : Tau} (C : Cx K sysU "BasketEnvoysLaw" code 4 100) (hX : Scr K sysU Ln xs) (h1 : inb (a3 + 1) Ln = true) (h2 : inb (a3 + 2) Ln = true) (h3 : inb (a3 + 3) Ln = true) (h4 : inb (a3 + 4) Ln = true) (h5 : inb (a3 + 5) Ln = true) (hx : X10_lightest F (xs (ix (a3 + 1))) (xs (ix (a3 + 2))) tx = some (r, tx')) (hm : X11_lightest F (xs (ix (a3 + 1))) (xs (ix (a3 + 2))) tm = some (r, tm')) (kk : At K sysU 4 Q 18 [(3, .int (a3 + 6)), (2, .ref 222), (1, .ref 0), (0, .ref 400000)] [] (mkU tx' tm')) : At K sysU 4 Q 808 [(3, .int a3), (2, .ref 222), (1, .ref 0), (0, .ref 400000)] [] (mkU tx tm) := by
  refine at_seg (pc' := 813) (L' := [(3, .int a3), (2, .ref 222), (1, .ref 0), (0, .ref 400000)]) (S' := [.int (a3 + 1), .ref 400000, .ref 0]) C ?_ [(.aload_n 1, 0), (.aload_n 0, 0), (.iload_n 3, 0), (.iconst 1, 1), (.iadd, 0)] _ _ _ (by decide +kernel) rfl
  refine at_sld C hX h1 (by decide +kernel) ?_
  refine at_seg (pc' := 818) (L' := [(3, .int a3), (2, .ref 222), (1, .ref 0), (0, .ref 400000)]) (S' := [.int (a3 + 2), .ref 400000, .int (xs (ix (a3 + 1))), .ref 0]) C ?_ [(.aload_n 0, 0), (.iload_n 3, 0), (.iconst 2, 2), (.iadd, 0)] _ _ _ (by decide +kernel) rfl
  refine at_sld C hX h2 (by decide +kernel) ?_
  refine at_callX [.int (xs (ix (a3 + 1))), .int (xs (ix (a3 + 2)))] [] rfl C mw_X10_lightest rfl ml_BasketEnvoysLaw_92 rfl ⟨by decide, by decide⟩ (Nat.le_of_ble_eq_true rfl) (by decide +kernel) (c_X10_lightest F (xs (ix (a3 + 1))) (xs (ix (a3 + 2))) tx r tx' hx) ?_
  refine at_seg (pc' := 827) (L' := [(3, .int a3), (2, .ref 222), (1, .ref 0), (0, .ref 400000)]) (S' := [.int (a3 + 1), .ref 400000, .ref 222, .int r]) C ?_ [(.aload_n 2, 0), (.aload_n 0, 0), (.iload_n 3, 0), (.iconst 1, 1), (.iadd, 0)] _ _ _ (by decide +kernel) rfl
  refine at_sld C hX h1 (by decide +kernel) ?_
  refine at_seg (pc' := 832) (L' := [(3, .int a3), (2, .ref 222), (1, .ref 0), (0, .ref 400000)]) (S' := [.int (a3 + 2), .ref 400000, .int (xs (ix (a3 + 1))), .ref 222, .int r]) C ?_ [(.aload_n 0, 0), (.iload_n 3, 0), (.iconst 2, 2), (.iadd, 0)] _ _ _ (by decide +kernel) rfl
  refine at_sld C hX h2 (by decide +kernel) ?_
  refine at_callM [.int (xs (ix (a3 + 1))), .int (xs (ix (a3 + 2)))] [.int r] rfl C mw_X11_lightest rfl ml_BasketEnvoysLaw_95 (by intro v hv; simp only [List.mem_cons, List.not_mem_nil, or_false] at hv; rcases hv with rfl | rfl <;> exact ⟨_, rfl⟩) rfl ⟨by decide, by decide⟩ (Nat.le_of_ble_eq_true rfl) (by decide +kernel) (c_X11_lightest F (xs (ix (a3 + 1))) (xs (ix (a3 + 2))) tm r tm' hm) ?_
  refine at_icmpeq 1641 (off := 805) C (by decide +kernel) (by decide) rfl ?_
  refine at_seg (pc' := 18) (L' := [(3, .int (a3 + 6)), (2, .ref 222), (1, .ref 0), (0, .ref 400000)]) (S' := []) C ?_ [(.iinc 3 6, 6), (.goto (-1626), 0)] _ _ _ (by decide +kernel) rfl
  exact kk
set_option maxRecDepth 20000 in
theorem law_19 (F : Nat) {K : Ctx} {Q : State → Prop} {Ln : Nat} {xs : Nat → Int32} {a3 r : Int32} {tx tm tx' tm' : Tau} (C : Cx K sysU "BasketEnvoysLaw" code 4 100) (hX : Scr K sysU Ln xs) (h1 : inb (a3 + 1) Ln = true) (h2 : inb (a3 + 2) Ln = true) (h3 : inb (a3 + 3) Ln = true) (h4 : inb (a3 + 4) Ln = true) (h5 : inb (a3 + 5) Ln = true) (hx : X10_hears F (xs (ix (a3 + 1))) tx = some (r, tx')) (hm : X11_hears F (xs (ix (a3 + 1))) tm = some (r, tm')) (kk : At K sysU 4 Q 18 [(3, .int (a3 + 6)), (2, .ref 222), (1, .ref 0), (0, .ref 400000)] [] (mkU tx' tm')) : At K sysU 4 Q 841 [(3, .int a3), (2, .ref 222), (1, .ref 0), (0, .ref 400000)] [] (mkU tx tm) := by
  refine at_seg (pc' := 846) (L' := [(3, .int a3), (2, .ref 222), (1, .ref 0), (0, .ref 400000)]) (S' := [.int (a3 + 1), .ref 400000, .ref 0]) C ?_ [(.aload_n 1, 0), (.aload_n 0, 0), (.iload_n 3, 0), (.iconst 1, 1), (.iadd, 0)] _ _ _ (by decide +kernel) rfl
  refine at_sld C hX h1 (by decide +kernel) ?_
  refine at_callX [.int (xs (ix (a3 + 1)))] [] rfl C mw_X10_hears rfl ml_BasketEnvoysLaw_96 rfl ⟨by decide, by decide⟩ (Nat.le_of_ble_eq_true rfl) (by decide +kernel) (c_X10_hears F (xs (ix (a3 + 1))) tx r tx' hx) ?_
  refine at_seg (pc' := 855) (L' := [(3, .int a3), (2, .ref 222), (1, .ref 0), (0, .ref 400000)]) (S' := [.int (a3 + 1), .ref 400000, .ref 222, .int r]) C ?_ [(.aload_n 2, 0), (.aload_n 0, 0), (.iload_n 3, 0), (.iconst 1, 1), (.iadd, 0)] _ _ _ (by decide +kernel) rfl
  refine at_sld C hX h1 (by decide +kernel) ?_
  refine at_callM [.int (xs (ix (a3 + 1)))] [.int r] rfl C mw_X11_hears rfl ml_BasketEnvoysLaw_99 (by intro v hv; simp only [List.mem_cons, List.not_mem_nil, or_false] at hv; rcases hv with rfl <;> exact ⟨_, rfl⟩) rfl ⟨by decide, by decide⟩ (Nat.le_of_ble_eq_true rfl) (by decide +kernel) (c_X11_hears F (xs (ix (a3 + 1))) tm r tm' hm) ?_
  refine at_icmpeq 1641 (off := 782) C (by decide +kernel) (by decide) rfl ?_
  refine at_seg (pc' := 18) (L' := [(3, .int (a3 + 6)), (2, .ref 222), (1, .ref 0), (0, .ref 400000)]) (S' := []) C ?_ [(.iinc 3 6, 6), (.goto (-1626), 0)] _ _ _ (by decide +kernel) rfl
  exact kk
set_option maxRecDepth 20000 in
theorem law_20 (F : Nat) {K : Ctx} {Q : State → Prop} {Ln : Nat} {xs : Nat → Int32} {a3 r : Int32} {tx tm tx' tm' : Tau} (C : Cx K sysU "BasketEnvoysLaw" code 4 100) (hX : Scr K sysU Ln xs) (h1 : inb (a3 + 1) Ln = true) (h2 : inb (a3 + 2) Ln = true) (h3 : inb (a3 + 3) Ln = true) (h4 : inb (a3 + 4) Ln = true) (h5 : inb (a3 + 5) Ln = true) (hx : X10_heard F (xs (ix (a3 + 1))) (xs (ix (a3 + 2))) tx = some (r, tx')) (hm : X11_heard F (xs (ix (a3 + 1))) (xs (ix (a3 + 2))) tm = some (r, tm')) (kk : At K sysU 4 Q 18 [(3, .int (a3 + 6)), (2, .ref 222), (1, .ref 0), (0, .ref 400000)] [] (mkU tx' tm')) : At K sysU 4 Q 864 [(3, .int a3), (2, .ref 222), (1, .ref 0), (0, .ref 400000)] [] (mkU tx tm) := by
  refine at_seg (pc' := 869) (L' := [(3, .int a3), (2, .ref 222), (1, .ref 0), (0, .ref 400000)]) (S' := [.int (a3 + 1), .ref 400000, .ref 0]) C ?_ [(.aload_n 1, 0), (.aload_n 0, 0), (.iload_n 3, 0), (.iconst 1, 1), (.iadd, 0)] _ _ _ (by decide +kernel) rfl
  refine at_sld C hX h1 (by decide +kernel) ?_
  refine at_seg (pc' := 874) (L' := [(3, .int a3), (2, .ref 222), (1, .ref 0), (0, .ref 400000)]) (S' := [.int (a3 + 2), .ref 400000, .int (xs (ix (a3 + 1))), .ref 0]) C ?_ [(.aload_n 0, 0), (.iload_n 3, 0), (.iconst 2, 2), (.iadd, 0)] _ _ _ (by decide +kernel) rfl
  refine at_sld C hX h2 (by decide +kernel) ?_
  refine at_callX [.int (xs (ix (a3 + 1))), .int (xs (ix (a3 + 2)))] [] rfl C mw_X10_heard rfl ml_BasketEnvoysLaw_100 rfl ⟨by decide, by decide⟩ (Nat.le_of_ble_eq_true rfl) (by decide +kernel) (c_X10_heard F (xs (ix (a3 + 1))) (xs (ix (a3 + 2))) tx r tx' hx) ?_
  refine at_seg (pc' := 883) (L' := [(3, .int a3), (2, .ref 222), (1, .ref 0), (0, .ref 400000)]) (S' := [.int (a3 + 1), .ref 400000, .ref 222, .int r]) C ?_ [(.aload_n 2, 0), (.aload_n 0, 0), (.iload_n 3, 0), (.iconst 1, 1), (.iadd, 0)] _ _ _ (by decide +kernel) rfl
  refine at_sld C hX h1 (by decide +kernel) ?_
  refine at_seg (pc' := 888) (L' := [(3, .int a3), (2, .ref 222), (1, .ref 0), (0, .ref 400000)]) (S' := [.int (a3 + 2), .ref 400000, .int (xs (ix (a3 + 1))), .ref 222, .int r]) C ?_ [(.aload_n 0, 0), (.iload_n 3, 0), (.iconst 2, 2), (.iadd, 0)] _ _ _ (by decide +kernel) rfl
  refine at_sld C hX h2 (by decide +kernel) ?_
  refine at_callM [.int (xs (ix (a3 + 1))), .int (xs (ix (a3 + 2)))] [.int r] rfl C mw_X11_heard rfl ml_BasketEnvoysLaw_103 (by intro v hv; simp only [List.mem_cons, List.not_mem_nil, or_false] at hv; rcases hv with rfl | rfl <;> exact ⟨_, rfl⟩) rfl ⟨by decide, by decide⟩ (Nat.le_of_ble_eq_true rfl) (by decide +kernel) (c_X11_heard F (xs (ix (a3 + 1))) (xs (ix (a3 + 2))) tm r tm' hm) ?_
  refine at_icmpeq 1641 (off := 749) C (by decide +kernel) (by decide) rfl ?_
  refine at_seg (pc' := 18) (L' := [(3, .int (a3 + 6)), (2, .ref 222), (1, .ref 0), (0, .ref 400000)]) (S' := []) C ?_ [(.iinc 3 6, 6), (.goto (-1626), 0)] _ _ _ (by decide +kernel) rfl
  exact kk
set_option maxRecDepth 20000 in
theorem law_21 (F : Nat) {K : Ctx} {Q : State → Prop} {Ln : Nat} {xs : Nat → Int32} {a3 r : Int32} {tx tm tx' tm' : Tau} (C : Cx K sysU "BasketEnvoysLaw" code 4 100) (hX : Scr K sysU Ln xs) (h1 : inb (a3 + 1) Ln = true) (h2 : inb (a3 + 2) Ln = true) (h3 : inb (a3 + 3) Ln = true) (h4 : inb (a3 + 4) Ln = true) (h5 : inb (a3 + 5) Ln = true) (hx : X10_count F (xs (ix (a3 + 1))) tx = some (r, tx')) (hm : X11_count F (xs (ix (a3 + 1))) tm = some (r, tm')) (kk : At K sysU 4 Q 18 [(3, .int (a3 + 6)), (2, .ref 222), (1, .ref 0), (0, .ref 400000)] [] (mkU tx' tm')) : At K sysU 4 Q 897 [(3, .int a3), (2, .ref 222), (1, .ref 0), (0, .ref 400000)] [] (mkU tx tm) := by
  refine at_seg (pc' := 902) (L' := [(3, .int a3), (2, .ref 222), (1, .ref 0), (0, .ref 400000)]) (S' := [.int (a3 + 1), .ref 400000, .ref 0]) C ?_ [(.aload_n 1, 0), (.aload_n 0, 0), (.iload_n 3, 0), (.iconst 1, 1), (.iadd, 0)] _ _ _ (by decide +kernel) rfl
  refine at_sld C hX h1 (by decide +kernel) ?_
  refine at_callX [.int (xs (ix (a3 + 1)))] [] rfl C mw_X10_count rfl ml_BasketEnvoysLaw_104 rfl ⟨by decide, by decide⟩ (Nat.le_of_ble_eq_true rfl) (by decide +kernel) (c_X10_count F (xs (ix (a3 + 1))) tx r tx' hx) ?_
  refine at_seg (pc' := 911) (L' := [(3, .int a3), (2, .ref 222), (1, .ref 0), (0, .ref 400000)]) (S' := [.int (a3 + 1), .ref 400000, .ref 222, .int r]) C ?_ [(.aload_n 2, 0), (.aload_n 0, 0), (.iload_n 3, 0), (.iconst 1, 1), (.iadd, 0)] _ _ _ (by decide +kernel) rfl
  refine at_sld C hX h1 (by decide +kernel) ?_
  refine at_callM [.int (xs (ix (a3 + 1)))] [.int r] rfl C mw_X11_count rfl ml_BasketEnvoysLaw_107 (by intro v hv; simp only [List.mem_cons, List.not_mem_nil, or_false] at hv; rcases hv with rfl <;> exact ⟨_, rfl⟩) rfl ⟨by decide, by decide⟩ (Nat.le_of_ble_eq_true rfl) (by decide +kernel) (c_X11_count F (xs (ix (a3 + 1))) tm r tm' hm) ?_
  refine at_icmpeq 1641 (off := 726) C (by decide +kernel) (by decide) rfl ?_
  refine at_seg (pc' := 18) (L' := [(3, .int (a3 + 6)), (2, .ref 222), (1, .ref 0), (0, .ref 400000)]) (S' := []) C ?_ [(.iinc 3 6, 6), (.goto (-1626), 0)] _ _ _ (by decide +kernel) rfl
  exact kk
set_option maxRecDepth 20000 in
theorem law_22 (F : Nat) {K : Ctx} {Q : State → Prop} {Ln : Nat} {xs : Nat → Int32} {a3 r : Int32} {tx tm tx' tm' : Tau} (C : Cx K sysU "BasketEnvoysLaw" code 4 100) (hX : Scr K sysU Ln xs) (h1 : inb (a3 + 1) Ln = true) (h2 : inb (a3 + 2) Ln = true) (h3 : inb (a3 + 3) Ln = true) (h4 : inb (a3 + 4) Ln = true) (h5 : inb (a3 + 5) Ln = true) (hx : X10_signs F  tx = some (r, tx')) (hm : X11_signs F  tm = some (r, tm')) (kk : At K sysU 4 Q 18 [(3, .int (a3 + 6)), (2, .ref 222), (1, .ref 0), (0, .ref 400000)] [] (mkU tx' tm')) : At K sysU 4 Q 920 [(3, .int a3), (2, .ref 222), (1, .ref 0), (0, .ref 400000)] [] (mkU tx tm) := by
  refine at_seg (pc' := 921) (L' := [(3, .int a3), (2, .ref 222), (1, .ref 0), (0, .ref 400000)]) (S' := [.ref 0]) C ?_ [(.aload_n 1, 0)] _ _ _ (by decide +kernel) rfl
  refine at_callX [] [] rfl C mw_X10_signs rfl ml_BasketEnvoysLaw_108 rfl ⟨by decide, by decide⟩ (Nat.le_of_ble_eq_true rfl) (by decide +kernel) (c_X10_signs F  tx r tx' hx) ?_
  refine at_seg (pc' := 925) (L' := [(3, .int a3), (2, .ref 222), (1, .ref 0), (0, .ref 400000)]) (S' := [.ref 222, .int r]) C ?_ [(.aload_n 2, 0)] _ _ _ (by decide +kernel) rfl
  refine at_callM [] [.int r] rfl C mw_X11_signs rfl ml_BasketEnvoysLaw_112 (fun v hv => absurd hv List.not_mem_nil) rfl ⟨by decide, by decide⟩ (Nat.le_of_ble_eq_true rfl) (by decide +kernel) (c_X11_signs F tm r tm' hm) ?_
  refine at_icmpeq 1641 (off := 713) C (by decide +kernel) (by decide) rfl ?_
  refine at_seg (pc' := 18) (L' := [(3, .int (a3 + 6)), (2, .ref 222), (1, .ref 0), (0, .ref 400000)]) (S' := []) C ?_ [(.iinc 3 6, 6), (.goto (-1626), 0)] _ _ _ (by decide +kernel) rfl
  exact kk
set_option maxRecDepth 20000 in
theorem law_23 (F : Nat) {K : Ctx} {Q : State → Prop} {Ln : Nat} {xs : Nat → Int32} {a3 r : Int32} {tx tm tx' tm' : Tau} (C : Cx K sysU "BasketEnvoysLaw" code 4 100) (hX : Scr K sysU Ln xs) (h1 : inb (a3 + 1) Ln = true) (h2 : inb (a3 + 2) Ln = true) (h3 : inb (a3 + 3) Ln = true) (h4 : inb (a3 + 4) Ln = true) (h5 : inb (a3 + 5) Ln = true) (hx : X10_pins F (xs (ix (a3 + 1))) (xs (ix (a3 + 2))) tx = some (r, tx')) (hm : X11_pins F (xs (ix (a3 + 1))) (xs (ix (a3 + 2))) tm = some (r, tm')) (kk : At K sysU 4 Q 18 [(3, .int (a3 + 6)), (2, .ref 222), (1, .ref 0), (0, .ref 400000)] [] (mkU tx' tm')) : At K sysU 4 Q 933 [(3, .int a3), (2, .ref 222), (1, .ref 0), (0, .ref 400000)] [] (mkU tx tm) := by
  refine at_seg (pc' := 938) (L' := [(3, .int a3), (2, .ref 222), (1, .ref 0), (0, .ref 400000)]) (S' := [.int (a3 + 1), .ref 400000, .ref 0]) C ?_ [(.aload_n 1, 0), (.aload_n 0, 0), (.iload_n 3, 0), (.iconst 1, 1), (.iadd, 0)] _ _ _ (by decide +kernel) rfl
  refine at_sld C hX h1 (by decide +kernel) ?_
  refine at_seg (pc' := 943) (L' := [(3, .int a3), (2, .ref 222), (1, .ref 0), (0, .ref 400000)]) (S' := [.int (a3 + 2), .ref 400000, .int (xs (ix (a3 + 1))), .ref 0]) C ?_ [(.aload_n 0, 0), (.iload_n 3, 0), (.iconst 2, 2), (.iadd, 0)] _ _ _ (by decide +kernel) rfl
  refine at_sld C hX h2 (by decide +kernel) ?_
  refine at_callX [.int (xs (ix (a3 + 1))), .int (xs (ix (a3 + 2)))] [] rfl C mw_X10_pins rfl ml_BasketEnvoysLaw_113 rfl ⟨by decide, by decide⟩ (Nat.le_of_ble_eq_true rfl) (by decide +kernel) (c_X10_pins F (xs (ix (a3 + 1))) (xs (ix (a3 + 2))) tx r tx' hx) ?_
  refine at_seg (pc' := 952) (L' := [(3, .int a3), (2, .ref 222), (1, .ref 0), (0, .ref 400000)]) (S' := [.int (a3 + 1), .ref 400000, .ref 222, .int r]) C ?_ [(.aload_n 2, 0), (.aload_n 0, 0), (.iload_n 3, 0), (.iconst 1, 1), (.iadd, 0)] _ _ _ (by decide +kernel) rfl
  refine at_sld C hX h1 (by decide +kernel) ?_
  refine at_seg (pc' := 957) (L' := [(3, .int a3), (2, .ref 222), (1, .ref 0), (0, .ref 400000)]) (S' := [.int (a3 + 2), .ref 400000, .int (xs (ix (a3 + 1))), .ref 222, .int r]) C ?_ [(.aload_n 0, 0), (.iload_n 3, 0), (.iconst 2, 2), (.iadd, 0)] _ _ _ (by decide +kernel) rfl
  refine at_sld C hX h2 (by decide +kernel) ?_
  refine at_callM [.int (xs (ix (a3 + 1))), .int (xs (ix (a3 + 2)))] [.int r] rfl C mw_X11_pins rfl ml_BasketEnvoysLaw_116 (by intro v hv; simp only [List.mem_cons, List.not_mem_nil, or_false] at hv; rcases hv with rfl | rfl <;> exact ⟨_, rfl⟩) rfl ⟨by decide, by decide⟩ (Nat.le_of_ble_eq_true rfl) (by decide +kernel) (c_X11_pins F (xs (ix (a3 + 1))) (xs (ix (a3 + 2))) tm r tm' hm) ?_
  refine at_icmpeq 1641 (off := 680) C (by decide +kernel) (by decide) rfl ?_
  refine at_seg (pc' := 18) (L' := [(3, .int (a3 + 6)), (2, .ref 222), (1, .ref 0), (0, .ref 400000)]) (S' := []) C ?_ [(.iinc 3 6, 6), (.goto (-1626), 0)] _ _ _ (by decide +kernel) rfl
  exact kk
set_option maxRecDepth 20000 in
theorem law_24 (F : Nat) {K : Ctx} {Q : State → Prop} {Ln : Nat} {xs : Nat → Int32} {a3 r : Int32} {tx tm tx' tm' : Tau} (C : Cx K sysU "BasketEnvoysLaw" code 4 100) (hX : Scr K sysU Ln xs) (h1 : inb (a3 + 1) Ln = true) (h2 : inb (a3 + 2) Ln = true) (h3 : inb (a3 + 3) Ln = true) (h4 : inb (a3 + 4) Ln = true) (h5 : inb (a3 + 5) Ln = true) (hx : X10_table F (xs (ix (a3 + 1))) (xs (ix (a3 + 2))) (xs (ix (a3 + 3))) tx = some (r, tx')) (hm : X11_table F (xs (ix (a3 + 1))) (xs (ix (a3 + 2))) (xs (ix (a3 + 3))) tm = some (r, tm')) (kk : At K sysU 4 Q 18 [(3, .int (a3 + 6)), (2, .ref 222), (1, .ref 0), (0, .ref 400000)] [] (mkU tx' tm')) : At K sysU 4 Q 966 [(3, .int a3), (2, .ref 222), (1, .ref 0), (0, .ref 400000)] [] (mkU tx tm) := by
  refine at_seg (pc' := 971) (L' := [(3, .int a3), (2, .ref 222), (1, .ref 0), (0, .ref 400000)]) (S' := [.int (a3 + 1), .ref 400000, .ref 0]) C ?_ [(.aload_n 1, 0), (.aload_n 0, 0), (.iload_n 3, 0), (.iconst 1, 1), (.iadd, 0)] _ _ _ (by decide +kernel) rfl
  refine at_sld C hX h1 (by decide +kernel) ?_
  refine at_seg (pc' := 976) (L' := [(3, .int a3), (2, .ref 222), (1, .ref 0), (0, .ref 400000)]) (S' := [.int (a3 + 2), .ref 400000, .int (xs (ix (a3 + 1))), .ref 0]) C ?_ [(.aload_n 0, 0), (.iload_n 3, 0), (.iconst 2, 2), (.iadd, 0)] _ _ _ (by decide +kernel) rfl
  refine at_sld C hX h2 (by decide +kernel) ?_
  refine at_seg (pc' := 981) (L' := [(3, .int a3), (2, .ref 222), (1, .ref 0), (0, .ref 400000)]) (S' := [.int (a3 + 3), .ref 400000, .int (xs (ix (a3 + 2))), .int (xs (ix (a3 + 1))), .ref 0]) C ?_ [(.aload_n 0, 0), (.iload_n 3, 0), (.iconst 3, 3), (.iadd, 0)] _ _ _ (by decide +kernel) rfl
  refine at_sld C hX h3 (by decide +kernel) ?_
  refine at_callX [.int (xs (ix (a3 + 1))), .int (xs (ix (a3 + 2))), .int (xs (ix (a3 + 3)))] [] rfl C mw_X10_table rfl ml_BasketEnvoysLaw_117 rfl ⟨by decide, by decide⟩ (Nat.le_of_ble_eq_true rfl) (by decide +kernel) (c_X10_table F (xs (ix (a3 + 1))) (xs (ix (a3 + 2))) (xs (ix (a3 + 3))) tx r tx' hx) ?_
  refine at_seg (pc' := 990) (L' := [(3, .int a3), (2, .ref 222), (1, .ref 0), (0, .ref 400000)]) (S' := [.int (a3 + 1), .ref 400000, .ref 222, .int r]) C ?_ [(.aload_n 2, 0), (.aload_n 0, 0), (.iload_n 3, 0), (.iconst 1, 1), (.iadd, 0)] _ _ _ (by decide +kernel) rfl
  refine at_sld C hX h1 (by decide +kernel) ?_
  refine at_seg (pc' := 995) (L' := [(3, .int a3), (2, .ref 222), (1, .ref 0), (0, .ref 400000)]) (S' := [.int (a3 + 2), .ref 400000, .int (xs (ix (a3 + 1))), .ref 222, .int r]) C ?_ [(.aload_n 0, 0), (.iload_n 3, 0), (.iconst 2, 2), (.iadd, 0)] _ _ _ (by decide +kernel) rfl
  refine at_sld C hX h2 (by decide +kernel) ?_
  refine at_seg (pc' := 1000) (L' := [(3, .int a3), (2, .ref 222), (1, .ref 0), (0, .ref 400000)]) (S' := [.int (a3 + 3), .ref 400000, .int (xs (ix (a3 + 2))), .int (xs (ix (a3 + 1))), .ref 222, .int r]) C ?_ [(.aload_n 0, 0), (.iload_n 3, 0), (.iconst 3, 3), (.iadd, 0)] _ _ _ (by decide +kernel) rfl
  refine at_sld C hX h3 (by decide +kernel) ?_
  refine at_callM [.int (xs (ix (a3 + 1))), .int (xs (ix (a3 + 2))), .int (xs (ix (a3 + 3)))] [.int r] rfl C mw_X11_table rfl ml_BasketEnvoysLaw_120 (by intro v hv; simp only [List.mem_cons, List.not_mem_nil, or_false] at hv; rcases hv with rfl | rfl | rfl <;> exact ⟨_, rfl⟩) rfl ⟨by decide, by decide⟩ (Nat.le_of_ble_eq_true rfl) (by decide +kernel) (c_X11_table F (xs (ix (a3 + 1))) (xs (ix (a3 + 2))) (xs (ix (a3 + 3))) tm r tm' hm) ?_
  refine at_icmpeq 1641 (off := 637) C (by decide +kernel) (by decide) rfl ?_
  refine at_seg (pc' := 18) (L' := [(3, .int (a3 + 6)), (2, .ref 222), (1, .ref 0), (0, .ref 400000)]) (S' := []) C ?_ [(.iinc 3 6, 6), (.goto (-1626), 0)] _ _ _ (by decide +kernel) rfl
  exact kk
set_option maxRecDepth 20000 in
theorem law_25 (F : Nat) {K : Ctx} {Q : State → Prop} {Ln : Nat} {xs : Nat → Int32} {a3 r : Int32} {tx tm tx' tm' : Tau} (C : Cx K sysU "BasketEnvoysLaw" code 4 100) (hX : Scr K sysU Ln xs) (h1 : inb (a3 + 1) Ln = true) (h2 : inb (a3 + 2) Ln = true) (h3 : inb (a3 + 3) Ln = true) (h4 : inb (a3 + 4) Ln = true) (h5 : inb (a3 + 5) Ln = true) (hx : X10_tables F (xs (ix (a3 + 1))) tx = some (r, tx')) (hm : X11_tables F (xs (ix (a3 + 1))) tm = some (r, tm')) (kk : At K sysU 4 Q 18 [(3, .int (a3 + 6)), (2, .ref 222), (1, .ref 0), (0, .ref 400000)] [] (mkU tx' tm')) : At K sysU 4 Q 1009 [(3, .int a3), (2, .ref 222), (1, .ref 0), (0, .ref 400000)] [] (mkU tx tm) := by
  refine at_seg (pc' := 1014) (L' := [(3, .int a3), (2, .ref 222), (1, .ref 0), (0, .ref 400000)]) (S' := [.int (a3 + 1), .ref 400000, .ref 0]) C ?_ [(.aload_n 1, 0), (.aload_n 0, 0), (.iload_n 3, 0), (.iconst 1, 1), (.iadd, 0)] _ _ _ (by decide +kernel) rfl
  refine at_sld C hX h1 (by decide +kernel) ?_
  refine at_callX [.int (xs (ix (a3 + 1)))] [] rfl C mw_X10_tables rfl ml_BasketEnvoysLaw_121 rfl ⟨by decide, by decide⟩ (Nat.le_of_ble_eq_true rfl) (by decide +kernel) (c_X10_tables F (xs (ix (a3 + 1))) tx r tx' hx) ?_
  refine at_seg (pc' := 1023) (L' := [(3, .int a3), (2, .ref 222), (1, .ref 0), (0, .ref 400000)]) (S' := [.int (a3 + 1), .ref 400000, .ref 222, .int r]) C ?_ [(.aload_n 2, 0), (.aload_n 0, 0), (.iload_n 3, 0), (.iconst 1, 1), (.iadd, 0)] _ _ _ (by decide +kernel) rfl
  refine at_sld C hX h1 (by decide +kernel) ?_
  refine at_callM [.int (xs (ix (a3 + 1)))] [.int r] rfl C mw_X11_tables rfl ml_BasketEnvoysLaw_124 (by intro v hv; simp only [List.mem_cons, List.not_mem_nil, or_false] at hv; rcases hv with rfl <;> exact ⟨_, rfl⟩) rfl ⟨by decide, by decide⟩ (Nat.le_of_ble_eq_true rfl) (by decide +kernel) (c_X11_tables F (xs (ix (a3 + 1))) tm r tm' hm) ?_
  refine at_icmpeq 1641 (off := 614) C (by decide +kernel) (by decide) rfl ?_
  refine at_seg (pc' := 18) (L' := [(3, .int (a3 + 6)), (2, .ref 222), (1, .ref 0), (0, .ref 400000)]) (S' := []) C ?_ [(.iinc 3 6, 6), (.goto (-1626), 0)] _ _ _ (by decide +kernel) rfl
  exact kk
set_option maxRecDepth 20000 in
theorem law_26 (F : Nat) {K : Ctx} {Q : State → Prop} {Ln : Nat} {xs : Nat → Int32} {a3 r : Int32} {tx tm tx' tm' : Tau} (C : Cx K sysU "BasketEnvoysLaw" code 4 100) (hX : Scr K sysU Ln xs) (h1 : inb (a3 + 1) Ln = true) (h2 : inb (a3 + 2) Ln = true) (h3 : inb (a3 + 3) Ln = true) (h4 : inb (a3 + 4) Ln = true) (h5 : inb (a3 + 5) Ln = true) (hx : X10_stand F (xs (ix (a3 + 1))) (xs (ix (a3 + 2))) (xs (ix (a3 + 3))) tx = some (r, tx')) (hm : X11_stand F (xs (ix (a3 + 1))) (xs (ix (a3 + 2))) (xs (ix (a3 + 3))) tm = some (r, tm')) (kk : At K sysU 4 Q 18 [(3, .int (a3 + 6)), (2, .ref 222), (1, .ref 0), (0, .ref 400000)] [] (mkU tx' tm')) : At K sysU 4 Q 1032 [(3, .int a3), (2, .ref 222), (1, .ref 0), (0, .ref 400000)] [] (mkU tx tm) := by
  refine at_seg (pc' := 1037) (L' := [(3, .int a3), (2, .ref 222), (1, .ref 0), (0, .ref 400000)]) (S' := [.int (a3 + 1), .ref 400000, .ref 0]) C ?_ [(.aload_n 1, 0), (.aload_n 0, 0), (.iload_n 3, 0), (.iconst 1, 1), (.iadd, 0)] _ _ _ (by decide +kernel) rfl
  refine at_sld C hX h1 (by decide +kernel) ?_
  refine at_seg (pc' := 1042) (L' := [(3, .int a3), (2, .ref 222), (1, .ref 0), (0, .ref 400000)]) (S' := [.int (a3 + 2), .ref 400000, .int (xs (ix (a3 + 1))), .ref 0]) C ?_ [(.aload_n 0, 0), (.iload_n 3, 0), (.iconst 2, 2), (.iadd, 0)] _ _ _ (by decide +kernel) rfl
  refine at_sld C hX h2 (by decide +kernel) ?_
  refine at_seg (pc' := 1047) (L' := [(3, .int a3), (2, .ref 222), (1, .ref 0), (0, .ref 400000)]) (S' := [.int (a3 + 3), .ref 400000, .int (xs (ix (a3 + 2))), .int (xs (ix (a3 + 1))), .ref 0]) C ?_ [(.aload_n 0, 0), (.iload_n 3, 0), (.iconst 3, 3), (.iadd, 0)] _ _ _ (by decide +kernel) rfl
  refine at_sld C hX h3 (by decide +kernel) ?_
  refine at_callX [.int (xs (ix (a3 + 1))), .int (xs (ix (a3 + 2))), .int (xs (ix (a3 + 3)))] [] rfl C mw_X10_stand rfl ml_BasketEnvoysLaw_125 rfl ⟨by decide, by decide⟩ (Nat.le_of_ble_eq_true rfl) (by decide +kernel) (c_X10_stand F (xs (ix (a3 + 1))) (xs (ix (a3 + 2))) (xs (ix (a3 + 3))) tx r tx' hx) ?_
  refine at_seg (pc' := 1056) (L' := [(3, .int a3), (2, .ref 222), (1, .ref 0), (0, .ref 400000)]) (S' := [.int (a3 + 1), .ref 400000, .ref 222, .int r]) C ?_ [(.aload_n 2, 0), (.aload_n 0, 0), (.iload_n 3, 0), (.iconst 1, 1), (.iadd, 0)] _ _ _ (by decide +kernel) rfl
  refine at_sld C hX h1 (by decide +kernel) ?_
  refine at_seg (pc' := 1061) (L' := [(3, .int a3), (2, .ref 222), (1, .ref 0), (0, .ref 400000)]) (S' := [.int (a3 + 2), .ref 400000, .int (xs (ix (a3 + 1))), .ref 222, .int r]) C ?_ [(.aload_n 0, 0), (.iload_n 3, 0), (.iconst 2, 2), (.iadd, 0)] _ _ _ (by decide +kernel) rfl
  refine at_sld C hX h2 (by decide +kernel) ?_
  refine at_seg (pc' := 1066) (L' := [(3, .int a3), (2, .ref 222), (1, .ref 0), (0, .ref 400000)]) (S' := [.int (a3 + 3), .ref 400000, .int (xs (ix (a3 + 2))), .int (xs (ix (a3 + 1))), .ref 222, .int r]) C ?_ [(.aload_n 0, 0), (.iload_n 3, 0), (.iconst 3, 3), (.iadd, 0)] _ _ _ (by decide +kernel) rfl
  refine at_sld C hX h3 (by decide +kernel) ?_
  refine at_callM [.int (xs (ix (a3 + 1))), .int (xs (ix (a3 + 2))), .int (xs (ix (a3 + 3)))] [.int r] rfl C mw_X11_stand rfl ml_BasketEnvoysLaw_129 (by intro v hv; simp only [List.mem_cons, List.not_mem_nil, or_false] at hv; rcases hv with rfl | rfl | rfl <;> exact ⟨_, rfl⟩) rfl ⟨by decide, by decide⟩ (Nat.le_of_ble_eq_true rfl) (by decide +kernel) (c_X11_stand F (xs (ix (a3 + 1))) (xs (ix (a3 + 2))) (xs (ix (a3 + 3))) tm r tm' hm) ?_
  refine at_icmpeq 1641 (off := 571) C (by decide +kernel) (by decide) rfl ?_
  refine at_seg (pc' := 18) (L' := [(3, .int (a3 + 6)), (2, .ref 222), (1, .ref 0), (0, .ref 400000)]) (S' := []) C ?_ [(.iinc 3 6, 6), (.goto (-1626), 0)] _ _ _ (by decide +kernel) rfl
  exact kk
set_option maxRecDepth 20000 in
theorem law_27 (F : Nat) {K : Ctx} {Q : State → Prop} {Ln : Nat} {xs : Nat → Int32} {a3 r : Int32} {tx tm tx' tm' : Tau} (C : Cx K sysU "BasketEnvoysLaw" code 4 100) (hX : Scr K sysU Ln xs) (h1 : inb (a3 + 1) Ln = true) (h2 : inb (a3 + 2) Ln = true) (h3 : inb (a3 + 3) Ln = true) (h4 : inb (a3 + 4) Ln = true) (h5 : inb (a3 + 5) Ln = true) (hx : X10_worth F (xs (ix (a3 + 1))) (xs (ix (a3 + 2))) (xs (ix (a3 + 3))) tx = some (r, tx')) (hm : X11_worth F (xs (ix (a3 + 1))) (xs (ix (a3 + 2))) (xs (ix (a3 + 3))) tm = some (r, tm')) (kk : At K sysU 4 Q 18 [(3, .int (a3 + 6)), (2, .ref 222), (1, .ref 0), (0, .ref 400000)] [] (mkU tx' tm')) : At K sysU 4 Q 1075 [(3, .int a3), (2, .ref 222), (1, .ref 0), (0, .ref 400000)] [] (mkU tx tm) := by
  refine at_seg (pc' := 1080) (L' := [(3, .int a3), (2, .ref 222), (1, .ref 0), (0, .ref 400000)]) (S' := [.int (a3 + 1), .ref 400000, .ref 0]) C ?_ [(.aload_n 1, 0), (.aload_n 0, 0), (.iload_n 3, 0), (.iconst 1, 1), (.iadd, 0)] _ _ _ (by decide +kernel) rfl
  refine at_sld C hX h1 (by decide +kernel) ?_
  refine at_seg (pc' := 1085) (L' := [(3, .int a3), (2, .ref 222), (1, .ref 0), (0, .ref 400000)]) (S' := [.int (a3 + 2), .ref 400000, .int (xs (ix (a3 + 1))), .ref 0]) C ?_ [(.aload_n 0, 0), (.iload_n 3, 0), (.iconst 2, 2), (.iadd, 0)] _ _ _ (by decide +kernel) rfl
  refine at_sld C hX h2 (by decide +kernel) ?_
  refine at_seg (pc' := 1090) (L' := [(3, .int a3), (2, .ref 222), (1, .ref 0), (0, .ref 400000)]) (S' := [.int (a3 + 3), .ref 400000, .int (xs (ix (a3 + 2))), .int (xs (ix (a3 + 1))), .ref 0]) C ?_ [(.aload_n 0, 0), (.iload_n 3, 0), (.iconst 3, 3), (.iadd, 0)] _ _ _ (by decide +kernel) rfl
  refine at_sld C hX h3 (by decide +kernel) ?_
  refine at_callX [.int (xs (ix (a3 + 1))), .int (xs (ix (a3 + 2))), .int (xs (ix (a3 + 3)))] [] rfl C mw_X10_worth rfl ml_BasketEnvoysLaw_130 rfl ⟨by decide, by decide⟩ (Nat.le_of_ble_eq_true rfl) (by decide +kernel) (c_X10_worth F (xs (ix (a3 + 1))) (xs (ix (a3 + 2))) (xs (ix (a3 + 3))) tx r tx' hx) ?_
  refine at_seg (pc' := 1099) (L' := [(3, .int a3), (2, .ref 222), (1, .ref 0), (0, .ref 400000)]) (S' := [.int (a3 + 1), .ref 400000, .ref 222, .int r]) C ?_ [(.aload_n 2, 0), (.aload_n 0, 0), (.iload_n 3, 0), (.iconst 1, 1), (.iadd, 0)] _ _ _ (by decide +kernel) rfl
  refine at_sld C hX h1 (by decide +kernel) ?_
  refine at_seg (pc' := 1104) (L' := [(3, .int a3), (2, .ref 222), (1, .ref 0), (0, .ref 400000)]) (S' := [.int (a3 + 2), .ref 400000, .int (xs (ix (a3 + 1))), .ref 222, .int r]) C ?_ [(.aload_n 0, 0), (.iload_n 3, 0), (.iconst 2, 2), (.iadd, 0)] _ _ _ (by decide +kernel) rfl
  refine at_sld C hX h2 (by decide +kernel) ?_
  refine at_seg (pc' := 1109) (L' := [(3, .int a3), (2, .ref 222), (1, .ref 0), (0, .ref 400000)]) (S' := [.int (a3 + 3), .ref 400000, .int (xs (ix (a3 + 2))), .int (xs (ix (a3 + 1))), .ref 222, .int r]) C ?_ [(.aload_n 0, 0), (.iload_n 3, 0), (.iconst 3, 3), (.iadd, 0)] _ _ _ (by decide +kernel) rfl
  refine at_sld C hX h3 (by decide +kernel) ?_
  refine at_callM [.int (xs (ix (a3 + 1))), .int (xs (ix (a3 + 2))), .int (xs (ix (a3 + 3)))] [.int r] rfl C mw_X11_worth rfl ml_BasketEnvoysLaw_133 (by intro v hv; simp only [List.mem_cons, List.not_mem_nil, or_false] at hv; rcases hv with rfl | rfl | rfl <;> exact ⟨_, rfl⟩) rfl ⟨by decide, by decide⟩ (Nat.le_of_ble_eq_true rfl) (by decide +kernel) (c_X11_worth F (xs (ix (a3 + 1))) (xs (ix (a3 + 2))) (xs (ix (a3 + 3))) tm r tm' hm) ?_
  refine at_icmpeq 1641 (off := 528) C (by decide +kernel) (by decide) rfl ?_
  refine at_seg (pc' := 18) (L' := [(3, .int (a3 + 6)), (2, .ref 222), (1, .ref 0), (0, .ref 400000)]) (S' := []) C ?_ [(.iinc 3 6, 6), (.goto (-1626), 0)] _ _ _ (by decide +kernel) rfl
  exact kk
set_option maxRecDepth 20000 in
theorem law_28 (F : Nat) {K : Ctx} {Q : State → Prop} {Ln : Nat} {xs : Nat → Int32} {a3 r : Int32} {tx tm tx' tm' : Tau} (C : Cx K sysU "BasketEnvoysLaw" code 4 100) (hX : Scr K sysU Ln xs) (h1 : inb (a3 + 1) Ln = true) (h2 : inb (a3 + 2) Ln = true) (h3 : inb (a3 + 3) Ln = true) (h4 : inb (a3 + 4) Ln = true) (h5 : inb (a3 + 5) Ln = true) (hx : X10_sent F (xs (ix (a3 + 1))) (xs (ix (a3 + 2))) tx = some (r, tx')) (hm : X11_sent F (xs (ix (a3 + 1))) (xs (ix (a3 + 2))) tm = some (r, tm')) (kk : At K sysU 4 Q 18 [(3, .int (a3 + 6)), (2, .ref 222), (1, .ref 0), (0, .ref 400000)] [] (mkU tx' tm')) : At K sysU 4 Q 1118 [(3, .int a3), (2, .ref 222), (1, .ref 0), (0, .ref 400000)] [] (mkU tx tm) := by
  refine at_seg (pc' := 1123) (L' := [(3, .int a3), (2, .ref 222), (1, .ref 0), (0, .ref 400000)]) (S' := [.int (a3 + 1), .ref 400000, .ref 0]) C ?_ [(.aload_n 1, 0), (.aload_n 0, 0), (.iload_n 3, 0), (.iconst 1, 1), (.iadd, 0)] _ _ _ (by decide +kernel) rfl
  refine at_sld C hX h1 (by decide +kernel) ?_
  refine at_seg (pc' := 1128) (L' := [(3, .int a3), (2, .ref 222), (1, .ref 0), (0, .ref 400000)]) (S' := [.int (a3 + 2), .ref 400000, .int (xs (ix (a3 + 1))), .ref 0]) C ?_ [(.aload_n 0, 0), (.iload_n 3, 0), (.iconst 2, 2), (.iadd, 0)] _ _ _ (by decide +kernel) rfl
  refine at_sld C hX h2 (by decide +kernel) ?_
  refine at_callX [.int (xs (ix (a3 + 1))), .int (xs (ix (a3 + 2)))] [] rfl C mw_X10_sent rfl ml_BasketEnvoysLaw_134 rfl ⟨by decide, by decide⟩ (Nat.le_of_ble_eq_true rfl) (by decide +kernel) (c_X10_sent F (xs (ix (a3 + 1))) (xs (ix (a3 + 2))) tx r tx' hx) ?_
  refine at_seg (pc' := 1137) (L' := [(3, .int a3), (2, .ref 222), (1, .ref 0), (0, .ref 400000)]) (S' := [.int (a3 + 1), .ref 400000, .ref 222, .int r]) C ?_ [(.aload_n 2, 0), (.aload_n 0, 0), (.iload_n 3, 0), (.iconst 1, 1), (.iadd, 0)] _ _ _ (by decide +kernel) rfl
  refine at_sld C hX h1 (by decide +kernel) ?_
  refine at_seg (pc' := 1142) (L' := [(3, .int a3), (2, .ref 222), (1, .ref 0), (0, .ref 400000)]) (S' := [.int (a3 + 2), .ref 400000, .int (xs (ix (a3 + 1))), .ref 222, .int r]) C ?_ [(.aload_n 0, 0), (.iload_n 3, 0), (.iconst 2, 2), (.iadd, 0)] _ _ _ (by decide +kernel) rfl
  refine at_sld C hX h2 (by decide +kernel) ?_
  refine at_callM [.int (xs (ix (a3 + 1))), .int (xs (ix (a3 + 2)))] [.int r] rfl C mw_X11_sent rfl ml_BasketEnvoysLaw_137 (by intro v hv; simp only [List.mem_cons, List.not_mem_nil, or_false] at hv; rcases hv with rfl | rfl <;> exact ⟨_, rfl⟩) rfl ⟨by decide, by decide⟩ (Nat.le_of_ble_eq_true rfl) (by decide +kernel) (c_X11_sent F (xs (ix (a3 + 1))) (xs (ix (a3 + 2))) tm r tm' hm) ?_
  refine at_icmpeq 1641 (off := 495) C (by decide +kernel) (by decide) rfl ?_
  refine at_seg (pc' := 18) (L' := [(3, .int (a3 + 6)), (2, .ref 222), (1, .ref 0), (0, .ref 400000)]) (S' := []) C ?_ [(.iinc 3 6, 6), (.goto (-1626), 0)] _ _ _ (by decide +kernel) rfl
  exact kk
set_option maxRecDepth 20000 in
theorem law_29 (F : Nat) {K : Ctx} {Q : State → Prop} {Ln : Nat} {xs : Nat → Int32} {a3 r : Int32} {tx tm tx' tm' : Tau} (C : Cx K sysU "BasketEnvoysLaw" code 4 100) (hX : Scr K sysU Ln xs) (h1 : inb (a3 + 1) Ln = true) (h2 : inb (a3 + 2) Ln = true) (h3 : inb (a3 + 3) Ln = true) (h4 : inb (a3 + 4) Ln = true) (h5 : inb (a3 + 5) Ln = true) (hx : X10_load F (xs (ix (a3 + 1))) (xs (ix (a3 + 2))) tx = some (r, tx')) (hm : X11_load F (xs (ix (a3 + 1))) (xs (ix (a3 + 2))) tm = some (r, tm')) (kk : At K sysU 4 Q 18 [(3, .int (a3 + 6)), (2, .ref 222), (1, .ref 0), (0, .ref 400000)] [] (mkU tx' tm')) : At K sysU 4 Q 1151 [(3, .int a3), (2, .ref 222), (1, .ref 0), (0, .ref 400000)] [] (mkU tx tm) := by
  refine at_seg (pc' := 1156) (L' := [(3, .int a3), (2, .ref 222), (1, .ref 0), (0, .ref 400000)]) (S' := [.int (a3 + 1), .ref 400000, .ref 0]) C ?_ [(.aload_n 1, 0), (.aload_n 0, 0), (.iload_n 3, 0), (.iconst 1, 1), (.iadd, 0)] _ _ _ (by decide +kernel) rfl
  refine at_sld C hX h1 (by decide +kernel) ?_
  refine at_seg (pc' := 1161) (L' := [(3, .int a3), (2, .ref 222), (1, .ref 0), (0, .ref 400000)]) (S' := [.int (a3 + 2), .ref 400000, .int (xs (ix (a3 + 1))), .ref 0]) C ?_ [(.aload_n 0, 0), (.iload_n 3, 0), (.iconst 2, 2), (.iadd, 0)] _ _ _ (by decide +kernel) rfl
  refine at_sld C hX h2 (by decide +kernel) ?_
  refine at_callX [.int (xs (ix (a3 + 1))), .int (xs (ix (a3 + 2)))] [] rfl C mw_X10_load rfl ml_BasketEnvoysLaw_138 rfl ⟨by decide, by decide⟩ (Nat.le_of_ble_eq_true rfl) (by decide +kernel) (c_X10_load F (xs (ix (a3 + 1))) (xs (ix (a3 + 2))) tx r tx' hx) ?_
  refine at_seg (pc' := 1170) (L' := [(3, .int a3), (2, .ref 222), (1, .ref 0), (0, .ref 400000)]) (S' := [.int (a3 + 1), .ref 400000, .ref 222, .int r]) C ?_ [(.aload_n 2, 0), (.aload_n 0, 0), (.iload_n 3, 0), (.iconst 1, 1), (.iadd, 0)] _ _ _ (by decide +kernel) rfl
  refine at_sld C hX h1 (by decide +kernel) ?_
  refine at_seg (pc' := 1175) (L' := [(3, .int a3), (2, .ref 222), (1, .ref 0), (0, .ref 400000)]) (S' := [.int (a3 + 2), .ref 400000, .int (xs (ix (a3 + 1))), .ref 222, .int r]) C ?_ [(.aload_n 0, 0), (.iload_n 3, 0), (.iconst 2, 2), (.iadd, 0)] _ _ _ (by decide +kernel) rfl
  refine at_sld C hX h2 (by decide +kernel) ?_
  refine at_callM [.int (xs (ix (a3 + 1))), .int (xs (ix (a3 + 2)))] [.int r] rfl C mw_X11_load rfl ml_BasketEnvoysLaw_141 (by intro v hv; simp only [List.mem_cons, List.not_mem_nil, or_false] at hv; rcases hv with rfl | rfl <;> exact ⟨_, rfl⟩) rfl ⟨by decide, by decide⟩ (Nat.le_of_ble_eq_true rfl) (by decide +kernel) (c_X11_load F (xs (ix (a3 + 1))) (xs (ix (a3 + 2))) tm r tm' hm) ?_
  refine at_icmpeq 1641 (off := 462) C (by decide +kernel) (by decide) rfl ?_
  refine at_seg (pc' := 18) (L' := [(3, .int (a3 + 6)), (2, .ref 222), (1, .ref 0), (0, .ref 400000)]) (S' := []) C ?_ [(.iinc 3 6, 6), (.goto (-1626), 0)] _ _ _ (by decide +kernel) rfl
  exact kk
set_option maxRecDepth 20000 in
theorem law_30 (F : Nat) {K : Ctx} {Q : State → Prop} {Ln : Nat} {xs : Nat → Int32} {a3 r : Int32} {tx tm tx' tm' : Tau} (C : Cx K sysU "BasketEnvoysLaw" code 4 100) (hX : Scr K sysU Ln xs) (h1 : inb (a3 + 1) Ln = true) (h2 : inb (a3 + 2) Ln = true) (h3 : inb (a3 + 3) Ln = true) (h4 : inb (a3 + 4) Ln = true) (h5 : inb (a3 + 5) Ln = true) (hx : X10_carried F (xs (ix (a3 + 1))) (xs (ix (a3 + 2))) tx = some (r, tx')) (hm : X11_carried F (xs (ix (a3 + 1))) (xs (ix (a3 + 2))) tm = some (r, tm')) (kk : At K sysU 4 Q 18 [(3, .int (a3 + 6)), (2, .ref 222), (1, .ref 0), (0, .ref 400000)] [] (mkU tx' tm')) : At K sysU 4 Q 1184 [(3, .int a3), (2, .ref 222), (1, .ref 0), (0, .ref 400000)] [] (mkU tx tm) := by
  refine at_seg (pc' := 1189) (L' := [(3, .int a3), (2, .ref 222), (1, .ref 0), (0, .ref 400000)]) (S' := [.int (a3 + 1), .ref 400000, .ref 0]) C ?_ [(.aload_n 1, 0), (.aload_n 0, 0), (.iload_n 3, 0), (.iconst 1, 1), (.iadd, 0)] _ _ _ (by decide +kernel) rfl
  refine at_sld C hX h1 (by decide +kernel) ?_
  refine at_seg (pc' := 1194) (L' := [(3, .int a3), (2, .ref 222), (1, .ref 0), (0, .ref 400000)]) (S' := [.int (a3 + 2), .ref 400000, .int (xs (ix (a3 + 1))), .ref 0]) C ?_ [(.aload_n 0, 0), (.iload_n 3, 0), (.iconst 2, 2), (.iadd, 0)] _ _ _ (by decide +kernel) rfl
  refine at_sld C hX h2 (by decide +kernel) ?_
  refine at_callX [.int (xs (ix (a3 + 1))), .int (xs (ix (a3 + 2)))] [] rfl C mw_X10_carried rfl ml_BasketEnvoysLaw_142 rfl ⟨by decide, by decide⟩ (Nat.le_of_ble_eq_true rfl) (by decide +kernel) (c_X10_carried F (xs (ix (a3 + 1))) (xs (ix (a3 + 2))) tx r tx' hx) ?_
  refine at_seg (pc' := 1203) (L' := [(3, .int a3), (2, .ref 222), (1, .ref 0), (0, .ref 400000)]) (S' := [.int (a3 + 1), .ref 400000, .ref 222, .int r]) C ?_ [(.aload_n 2, 0), (.aload_n 0, 0), (.iload_n 3, 0), (.iconst 1, 1), (.iadd, 0)] _ _ _ (by decide +kernel) rfl
  refine at_sld C hX h1 (by decide +kernel) ?_
  refine at_seg (pc' := 1208) (L' := [(3, .int a3), (2, .ref 222), (1, .ref 0), (0, .ref 400000)]) (S' := [.int (a3 + 2), .ref 400000, .int (xs (ix (a3 + 1))), .ref 222, .int r]) C ?_ [(.aload_n 0, 0), (.iload_n 3, 0), (.iconst 2, 2), (.iadd, 0)] _ _ _ (by decide +kernel) rfl
  refine at_sld C hX h2 (by decide +kernel) ?_
  refine at_callM [.int (xs (ix (a3 + 1))), .int (xs (ix (a3 + 2)))] [.int r] rfl C mw_X11_carried rfl ml_BasketEnvoysLaw_145 (by intro v hv; simp only [List.mem_cons, List.not_mem_nil, or_false] at hv; rcases hv with rfl | rfl <;> exact ⟨_, rfl⟩) rfl ⟨by decide, by decide⟩ (Nat.le_of_ble_eq_true rfl) (by decide +kernel) (c_X11_carried F (xs (ix (a3 + 1))) (xs (ix (a3 + 2))) tm r tm' hm) ?_
  refine at_icmpeq 1641 (off := 429) C (by decide +kernel) (by decide) rfl ?_
  refine at_seg (pc' := 18) (L' := [(3, .int (a3 + 6)), (2, .ref 222), (1, .ref 0), (0, .ref 400000)]) (S' := []) C ?_ [(.iinc 3 6, 6), (.goto (-1626), 0)] _ _ _ (by decide +kernel) rfl
  exact kk
set_option maxRecDepth 20000 in
theorem law_31 (F : Nat) {K : Ctx} {Q : State → Prop} {Ln : Nat} {xs : Nat → Int32} {a3 r : Int32} {tx tm tx' tm' : Tau} (C : Cx K sysU "BasketEnvoysLaw" code 4 100) (hX : Scr K sysU Ln xs) (h1 : inb (a3 + 1) Ln = true) (h2 : inb (a3 + 2) Ln = true) (h3 : inb (a3 + 3) Ln = true) (h4 : inb (a3 + 4) Ln = true) (h5 : inb (a3 + 5) Ln = true) (hx : X10_promise F (xs (ix (a3 + 1))) (xs (ix (a3 + 2))) (xs (ix (a3 + 3))) tx = some (r, tx')) (hm : X11_promise F (xs (ix (a3 + 1))) (xs (ix (a3 + 2))) (xs (ix (a3 + 3))) tm = some (r, tm')) (kk : At K sysU 4 Q 18 [(3, .int (a3 + 6)), (2, .ref 222), (1, .ref 0), (0, .ref 400000)] [] (mkU tx' tm')) : At K sysU 4 Q 1217 [(3, .int a3), (2, .ref 222), (1, .ref 0), (0, .ref 400000)] [] (mkU tx tm) := by
  refine at_seg (pc' := 1222) (L' := [(3, .int a3), (2, .ref 222), (1, .ref 0), (0, .ref 400000)]) (S' := [.int (a3 + 1), .ref 400000, .ref 0]) C ?_ [(.aload_n 1, 0), (.aload_n 0, 0), (.iload_n 3, 0), (.iconst 1, 1), (.iadd, 0)] _ _ _ (by decide +kernel) rfl
  refine at_sld C hX h1 (by decide +kernel) ?_
  refine at_seg (pc' := 1227) (L' := [(3, .int a3), (2, .ref 222), (1, .ref 0), (0, .ref 400000)]) (S' := [.int (a3 + 2), .ref 400000, .int (xs (ix (a3 + 1))), .ref 0]) C ?_ [(.aload_n 0, 0), (.iload_n 3, 0), (.iconst 2, 2), (.iadd, 0)] _ _ _ (by decide +kernel) rfl
  refine at_sld C hX h2 (by decide +kernel) ?_
  refine at_seg (pc' := 1232) (L' := [(3, .int a3), (2, .ref 222), (1, .ref 0), (0, .ref 400000)]) (S' := [.int (a3 + 3), .ref 400000, .int (xs (ix (a3 + 2))), .int (xs (ix (a3 + 1))), .ref 0]) C ?_ [(.aload_n 0, 0), (.iload_n 3, 0), (.iconst 3, 3), (.iadd, 0)] _ _ _ (by decide +kernel) rfl
  refine at_sld C hX h3 (by decide +kernel) ?_
  refine at_callX [.int (xs (ix (a3 + 1))), .int (xs (ix (a3 + 2))), .int (xs (ix (a3 + 3)))] [] rfl C mw_X10_promise rfl ml_BasketEnvoysLaw_146 rfl ⟨by decide, by decide⟩ (Nat.le_of_ble_eq_true rfl) (by decide +kernel) (c_X10_promise F (xs (ix (a3 + 1))) (xs (ix (a3 + 2))) (xs (ix (a3 + 3))) tx r tx' hx) ?_
  refine at_seg (pc' := 1241) (L' := [(3, .int a3), (2, .ref 222), (1, .ref 0), (0, .ref 400000)]) (S' := [.int (a3 + 1), .ref 400000, .ref 222, .int r]) C ?_ [(.aload_n 2, 0), (.aload_n 0, 0), (.iload_n 3, 0), (.iconst 1, 1), (.iadd, 0)] _ _ _ (by decide +kernel) rfl
  refine at_sld C hX h1 (by decide +kernel) ?_
  refine at_seg (pc' := 1246) (L' := [(3, .int a3), (2, .ref 222), (1, .ref 0), (0, .ref 400000)]) (S' := [.int (a3 + 2), .ref 400000, .int (xs (ix (a3 + 1))), .ref 222, .int r]) C ?_ [(.aload_n 0, 0), (.iload_n 3, 0), (.iconst 2, 2), (.iadd, 0)] _ _ _ (by decide +kernel) rfl
  refine at_sld C hX h2 (by decide +kernel) ?_
  refine at_seg (pc' := 1251) (L' := [(3, .int a3), (2, .ref 222), (1, .ref 0), (0, .ref 400000)]) (S' := [.int (a3 + 3), .ref 400000, .int (xs (ix (a3 + 2))), .int (xs (ix (a3 + 1))), .ref 222, .int r]) C ?_ [(.aload_n 0, 0), (.iload_n 3, 0), (.iconst 3, 3), (.iadd, 0)] _ _ _ (by decide +kernel) rfl
  refine at_sld C hX h3 (by decide +kernel) ?_
  refine at_callM [.int (xs (ix (a3 + 1))), .int (xs (ix (a3 + 2))), .int (xs (ix (a3 + 3)))] [.int r] rfl C mw_X11_promise rfl ml_BasketEnvoysLaw_149 (by intro v hv; simp only [List.mem_cons, List.not_mem_nil, or_false] at hv; rcases hv with rfl | rfl | rfl <;> exact ⟨_, rfl⟩) rfl ⟨by decide, by decide⟩ (Nat.le_of_ble_eq_true rfl) (by decide +kernel) (c_X11_promise F (xs (ix (a3 + 1))) (xs (ix (a3 + 2))) (xs (ix (a3 + 3))) tm r tm' hm) ?_
  refine at_icmpeq 1641 (off := 386) C (by decide +kernel) (by decide) rfl ?_
  refine at_seg (pc' := 18) (L' := [(3, .int (a3 + 6)), (2, .ref 222), (1, .ref 0), (0, .ref 400000)]) (S' := []) C ?_ [(.iinc 3 6, 6), (.goto (-1626), 0)] _ _ _ (by decide +kernel) rfl
  exact kk
set_option maxRecDepth 20000 in
theorem law_32 (F : Nat) {K : Ctx} {Q : State → Prop} {Ln : Nat} {xs : Nat → Int32} {a3 r : Int32} {tx tm tx' tm' : Tau} (C : Cx K sysU "BasketEnvoysLaw" code 4 100) (hX : Scr K sysU Ln xs) (h1 : inb (a3 + 1) Ln = true) (h2 : inb (a3 + 2) Ln = true) (h3 : inb (a3 + 3) Ln = true) (h4 : inb (a3 + 4) Ln = true) (h5 : inb (a3 + 5) Ln = true) (hx : X10_kept F (xs (ix (a3 + 1))) tx = some (r, tx')) (hm : X11_kept F (xs (ix (a3 + 1))) tm = some (r, tm')) (kk : At K sysU 4 Q 18 [(3, .int (a3 + 6)), (2, .ref 222), (1, .ref 0), (0, .ref 400000)] [] (mkU tx' tm')) : At K sysU 4 Q 1260 [(3, .int a3), (2, .ref 222), (1, .ref 0), (0, .ref 400000)] [] (mkU tx tm) := by
  refine at_seg (pc' := 1265) (L' := [(3, .int a3), (2, .ref 222), (1, .ref 0), (0, .ref 400000)]) (S' := [.int (a3 + 1), .ref 400000, .ref 0]) C ?_ [(.aload_n 1, 0), (.aload_n 0, 0), (.iload_n 3, 0), (.iconst 1, 1), (.iadd, 0)] _ _ _ (by decide +kernel) rfl
  refine at_sld C hX h1 (by decide +kernel) ?_
  refine at_callX [.int (xs (ix (a3 + 1)))] [] rfl C mw_X10_kept rfl ml_BasketEnvoysLaw_150 rfl ⟨by decide, by decide⟩ (Nat.le_of_ble_eq_true rfl) (by decide +kernel) (c_X10_kept F (xs (ix (a3 + 1))) tx r tx' hx) ?_
  refine at_seg (pc' := 1274) (L' := [(3, .int a3), (2, .ref 222), (1, .ref 0), (0, .ref 400000)]) (S' := [.int (a3 + 1), .ref 400000, .ref 222, .int r]) C ?_ [(.aload_n 2, 0), (.aload_n 0, 0), (.iload_n 3, 0), (.iconst 1, 1), (.iadd, 0)] _ _ _ (by decide +kernel) rfl
  refine at_sld C hX h1 (by decide +kernel) ?_
  refine at_callM [.int (xs (ix (a3 + 1)))] [.int r] rfl C mw_X11_kept rfl ml_BasketEnvoysLaw_153 (by intro v hv; simp only [List.mem_cons, List.not_mem_nil, or_false] at hv; rcases hv with rfl <;> exact ⟨_, rfl⟩) rfl ⟨by decide, by decide⟩ (Nat.le_of_ble_eq_true rfl) (by decide +kernel) (c_X11_kept F (xs (ix (a3 + 1))) tm r tm' hm) ?_
  refine at_icmpeq 1641 (off := 363) C (by decide +kernel) (by decide) rfl ?_
  refine at_seg (pc' := 18) (L' := [(3, .int (a3 + 6)), (2, .ref 222), (1, .ref 0), (0, .ref 400000)]) (S' := []) C ?_ [(.iinc 3 6, 6), (.goto (-1626), 0)] _ _ _ (by decide +kernel) rfl
  exact kk
set_option maxRecDepth 20000 in
theorem law_33 (F : Nat) {K : Ctx} {Q : State → Prop} {Ln : Nat} {xs : Nat → Int32} {a3 r : Int32} {tx tm tx' tm' : Tau} (C : Cx K sysU "BasketEnvoysLaw" code 4 100) (hX : Scr K sysU Ln xs) (h1 : inb (a3 + 1) Ln = true) (h2 : inb (a3 + 2) Ln = true) (h3 : inb (a3 + 3) Ln = true) (h4 : inb (a3 + 4) Ln = true) (h5 : inb (a3 + 5) Ln = true) (hx : X10_hat F (xs (ix (a3 + 1))) (xs (ix (a3 + 2))) tx = some (r, tx')) (hm : X11_hat F (xs (ix (a3 + 1))) (xs (ix (a3 + 2))) tm = some (r, tm')) (kk : At K sysU 4 Q 18 [(3, .int (a3 + 6)), (2, .ref 222), (1, .ref 0), (0, .ref 400000)] [] (mkU tx' tm')) : At K sysU 4 Q 1283 [(3, .int a3), (2, .ref 222), (1, .ref 0), (0, .ref 400000)] [] (mkU tx tm) := by
  refine at_seg (pc' := 1288) (L' := [(3, .int a3), (2, .ref 222), (1, .ref 0), (0, .ref 400000)]) (S' := [.int (a3 + 1), .ref 400000, .ref 0]) C ?_ [(.aload_n 1, 0), (.aload_n 0, 0), (.iload_n 3, 0), (.iconst 1, 1), (.iadd, 0)] _ _ _ (by decide +kernel) rfl
  refine at_sld C hX h1 (by decide +kernel) ?_
  refine at_seg (pc' := 1293) (L' := [(3, .int a3), (2, .ref 222), (1, .ref 0), (0, .ref 400000)]) (S' := [.int (a3 + 2), .ref 400000, .int (xs (ix (a3 + 1))), .ref 0]) C ?_ [(.aload_n 0, 0), (.iload_n 3, 0), (.iconst 2, 2), (.iadd, 0)] _ _ _ (by decide +kernel) rfl
  refine at_sld C hX h2 (by decide +kernel) ?_
  refine at_callX [.int (xs (ix (a3 + 1))), .int (xs (ix (a3 + 2)))] [] rfl C mw_X10_hat rfl ml_BasketEnvoysLaw_154 rfl ⟨by decide, by decide⟩ (Nat.le_of_ble_eq_true rfl) (by decide +kernel) (c_X10_hat F (xs (ix (a3 + 1))) (xs (ix (a3 + 2))) tx r tx' hx) ?_
  refine at_seg (pc' := 1302) (L' := [(3, .int a3), (2, .ref 222), (1, .ref 0), (0, .ref 400000)]) (S' := [.int (a3 + 1), .ref 400000, .ref 222, .int r]) C ?_ [(.aload_n 2, 0), (.aload_n 0, 0), (.iload_n 3, 0), (.iconst 1, 1), (.iadd, 0)] _ _ _ (by decide +kernel) rfl
  refine at_sld C hX h1 (by decide +kernel) ?_
  refine at_seg (pc' := 1307) (L' := [(3, .int a3), (2, .ref 222), (1, .ref 0), (0, .ref 400000)]) (S' := [.int (a3 + 2), .ref 400000, .int (xs (ix (a3 + 1))), .ref 222, .int r]) C ?_ [(.aload_n 0, 0), (.iload_n 3, 0), (.iconst 2, 2), (.iadd, 0)] _ _ _ (by decide +kernel) rfl
  refine at_sld C hX h2 (by decide +kernel) ?_
  refine at_callM [.int (xs (ix (a3 + 1))), .int (xs (ix (a3 + 2)))] [.int r] rfl C mw_X11_hat rfl ml_BasketEnvoysLaw_157 (by intro v hv; simp only [List.mem_cons, List.not_mem_nil, or_false] at hv; rcases hv with rfl | rfl <;> exact ⟨_, rfl⟩) rfl ⟨by decide, by decide⟩ (Nat.le_of_ble_eq_true rfl) (by decide +kernel) (c_X11_hat F (xs (ix (a3 + 1))) (xs (ix (a3 + 2))) tm r tm' hm) ?_
  refine at_icmpeq 1641 (off := 330) C (by decide +kernel) (by decide) rfl ?_
  refine at_seg (pc' := 18) (L' := [(3, .int (a3 + 6)), (2, .ref 222), (1, .ref 0), (0, .ref 400000)]) (S' := []) C ?_ [(.iinc 3 6, 6), (.goto (-1626), 0)] _ _ _ (by decide +kernel) rfl
  exact kk
set_option maxRecDepth 20000 in
theorem law_34 (F : Nat) {K : Ctx} {Q : State → Prop} {Ln : Nat} {xs : Nat → Int32} {a3 r : Int32} {tx tm tx' tm' : Tau} (C : Cx K sysU "BasketEnvoysLaw" code 4 100) (hX : Scr K sysU Ln xs) (h1 : inb (a3 + 1) Ln = true) (h2 : inb (a3 + 2) Ln = true) (h3 : inb (a3 + 3) Ln = true) (h4 : inb (a3 + 4) Ln = true) (h5 : inb (a3 + 5) Ln = true) (hx : X10_hats F (xs (ix (a3 + 1))) tx = some (r, tx')) (hm : X11_hats F (xs (ix (a3 + 1))) tm = some (r, tm')) (kk : At K sysU 4 Q 18 [(3, .int (a3 + 6)), (2, .ref 222), (1, .ref 0), (0, .ref 400000)] [] (mkU tx' tm')) : At K sysU 4 Q 1316 [(3, .int a3), (2, .ref 222), (1, .ref 0), (0, .ref 400000)] [] (mkU tx tm) := by
  refine at_seg (pc' := 1321) (L' := [(3, .int a3), (2, .ref 222), (1, .ref 0), (0, .ref 400000)]) (S' := [.int (a3 + 1), .ref 400000, .ref 0]) C ?_ [(.aload_n 1, 0), (.aload_n 0, 0), (.iload_n 3, 0), (.iconst 1, 1), (.iadd, 0)] _ _ _ (by decide +kernel) rfl
  refine at_sld C hX h1 (by decide +kernel) ?_
  refine at_callX [.int (xs (ix (a3 + 1)))] [] rfl C mw_X10_hats rfl ml_BasketEnvoysLaw_158 rfl ⟨by decide, by decide⟩ (Nat.le_of_ble_eq_true rfl) (by decide +kernel) (c_X10_hats F (xs (ix (a3 + 1))) tx r tx' hx) ?_
  refine at_seg (pc' := 1330) (L' := [(3, .int a3), (2, .ref 222), (1, .ref 0), (0, .ref 400000)]) (S' := [.int (a3 + 1), .ref 400000, .ref 222, .int r]) C ?_ [(.aload_n 2, 0), (.aload_n 0, 0), (.iload_n 3, 0), (.iconst 1, 1), (.iadd, 0)] _ _ _ (by decide +kernel) rfl
  refine at_sld C hX h1 (by decide +kernel) ?_
  refine at_callM [.int (xs (ix (a3 + 1)))] [.int r] rfl C mw_X11_hats rfl ml_BasketEnvoysLaw_161 (by intro v hv; simp only [List.mem_cons, List.not_mem_nil, or_false] at hv; rcases hv with rfl <;> exact ⟨_, rfl⟩) rfl ⟨by decide, by decide⟩ (Nat.le_of_ble_eq_true rfl) (by decide +kernel) (c_X11_hats F (xs (ix (a3 + 1))) tm r tm' hm) ?_
  refine at_icmpeq 1641 (off := 307) C (by decide +kernel) (by decide) rfl ?_
  refine at_seg (pc' := 18) (L' := [(3, .int (a3 + 6)), (2, .ref 222), (1, .ref 0), (0, .ref 400000)]) (S' := []) C ?_ [(.iinc 3 6, 6), (.goto (-1626), 0)] _ _ _ (by decide +kernel) rfl
  exact kk
set_option maxRecDepth 20000 in
theorem law_35 (F : Nat) {K : Ctx} {Q : State → Prop} {Ln : Nat} {xs : Nat → Int32} {a3 r : Int32} {tx tm tx' tm' : Tau} (C : Cx K sysU "BasketEnvoysLaw" code 4 100) (hX : Scr K sysU Ln xs) (h1 : inb (a3 + 1) Ln = true) (h2 : inb (a3 + 2) Ln = true) (h3 : inb (a3 + 3) Ln = true) (h4 : inb (a3 + 4) Ln = true) (h5 : inb (a3 + 5) Ln = true) (hx : X10_border F (xs (ix (a3 + 1))) (xs (ix (a3 + 2))) tx = some (r, tx')) (hm : X11_border F (xs (ix (a3 + 1))) (xs (ix (a3 + 2))) tm = some (r, tm')) (kk : At K sysU 4 Q 18 [(3, .int (a3 + 6)), (2, .ref 222), (1, .ref 0), (0, .ref 400000)] [] (mkU tx' tm')) : At K sysU 4 Q 1339 [(3, .int a3), (2, .ref 222), (1, .ref 0), (0, .ref 400000)] [] (mkU tx tm) := by
  refine at_seg (pc' := 1344) (L' := [(3, .int a3), (2, .ref 222), (1, .ref 0), (0, .ref 400000)]) (S' := [.int (a3 + 1), .ref 400000, .ref 0]) C ?_ [(.aload_n 1, 0), (.aload_n 0, 0), (.iload_n 3, 0), (.iconst 1, 1), (.iadd, 0)] _ _ _ (by decide +kernel) rfl
  refine at_sld C hX h1 (by decide +kernel) ?_
  refine at_seg (pc' := 1349) (L' := [(3, .int a3), (2, .ref 222), (1, .ref 0), (0, .ref 400000)]) (S' := [.int (a3 + 2), .ref 400000, .int (xs (ix (a3 + 1))), .ref 0]) C ?_ [(.aload_n 0, 0), (.iload_n 3, 0), (.iconst 2, 2), (.iadd, 0)] _ _ _ (by decide +kernel) rfl
  refine at_sld C hX h2 (by decide +kernel) ?_
  refine at_callX [.int (xs (ix (a3 + 1))), .int (xs (ix (a3 + 2)))] [] rfl C mw_X10_border rfl ml_BasketEnvoysLaw_162 rfl ⟨by decide, by decide⟩ (Nat.le_of_ble_eq_true rfl) (by decide +kernel) (c_X10_border F (xs (ix (a3 + 1))) (xs (ix (a3 + 2))) tx r tx' hx) ?_
  refine at_seg (pc' := 1358) (L' := [(3, .int a3), (2, .ref 222), (1, .ref 0), (0, .ref 400000)]) (S' := [.int (a3 + 1), .ref 400000, .ref 222, .int r]) C ?_ [(.aload_n 2, 0), (.aload_n 0, 0), (.iload_n 3, 0), (.iconst 1, 1), (.iadd, 0)] _ _ _ (by decide +kernel) rfl
  refine at_sld C hX h1 (by decide +kernel) ?_
  refine at_seg (pc' := 1363) (L' := [(3, .int a3), (2, .ref 222), (1, .ref 0), (0, .ref 400000)]) (S' := [.int (a3 + 2), .ref 400000, .int (xs (ix (a3 + 1))), .ref 222, .int r]) C ?_ [(.aload_n 0, 0), (.iload_n 3, 0), (.iconst 2, 2), (.iadd, 0)] _ _ _ (by decide +kernel) rfl
  refine at_sld C hX h2 (by decide +kernel) ?_
  refine at_callM [.int (xs (ix (a3 + 1))), .int (xs (ix (a3 + 2)))] [.int r] rfl C mw_X11_border rfl ml_BasketEnvoysLaw_165 (by intro v hv; simp only [List.mem_cons, List.not_mem_nil, or_false] at hv; rcases hv with rfl | rfl <;> exact ⟨_, rfl⟩) rfl ⟨by decide, by decide⟩ (Nat.le_of_ble_eq_true rfl) (by decide +kernel) (c_X11_border F (xs (ix (a3 + 1))) (xs (ix (a3 + 2))) tm r tm' hm) ?_
  refine at_icmpeq 1641 (off := 274) C (by decide +kernel) (by decide) rfl ?_
  refine at_seg (pc' := 18) (L' := [(3, .int (a3 + 6)), (2, .ref 222), (1, .ref 0), (0, .ref 400000)]) (S' := []) C ?_ [(.iinc 3 6, 6), (.goto (-1626), 0)] _ _ _ (by decide +kernel) rfl
  exact kk
set_option maxRecDepth 20000 in
theorem law_36 (F : Nat) {K : Ctx} {Q : State → Prop} {Ln : Nat} {xs : Nat → Int32} {a3 r : Int32} {tx tm tx' tm' : Tau} (C : Cx K sysU "BasketEnvoysLaw" code 4 100) (hX : Scr K sysU Ln xs) (h1 : inb (a3 + 1) Ln = true) (h2 : inb (a3 + 2) Ln = true) (h3 : inb (a3 + 3) Ln = true) (h4 : inb (a3 + 4) Ln = true) (h5 : inb (a3 + 5) Ln = true) (hx : X10_map F (xs (ix (a3 + 1))) tx = some (r, tx')) (hm : X11_map F (xs (ix (a3 + 1))) tm = some (r, tm')) (kk : At K sysU 4 Q 18 [(3, .int (a3 + 6)), (2, .ref 222), (1, .ref 0), (0, .ref 400000)] [] (mkU tx' tm')) : At K sysU 4 Q 1372 [(3, .int a3), (2, .ref 222), (1, .ref 0), (0, .ref 400000)] [] (mkU tx tm) := by
  refine at_seg (pc' := 1377) (L' := [(3, .int a3), (2, .ref 222), (1, .ref 0), (0, .ref 400000)]) (S' := [.int (a3 + 1), .ref 400000, .ref 0]) C ?_ [(.aload_n 1, 0), (.aload_n 0, 0), (.iload_n 3, 0), (.iconst 1, 1), (.iadd, 0)] _ _ _ (by decide +kernel) rfl
  refine at_sld C hX h1 (by decide +kernel) ?_
  refine at_callX [.int (xs (ix (a3 + 1)))] [] rfl C mw_X10_map rfl ml_BasketEnvoysLaw_166 rfl ⟨by decide, by decide⟩ (Nat.le_of_ble_eq_true rfl) (by decide +kernel) (c_X10_map F (xs (ix (a3 + 1))) tx r tx' hx) ?_
  refine at_seg (pc' := 1386) (L' := [(3, .int a3), (2, .ref 222), (1, .ref 0), (0, .ref 400000)]) (S' := [.int (a3 + 1), .ref 400000, .ref 222, .int r]) C ?_ [(.aload_n 2, 0), (.aload_n 0, 0), (.iload_n 3, 0), (.iconst 1, 1), (.iadd, 0)] _ _ _ (by decide +kernel) rfl
  refine at_sld C hX h1 (by decide +kernel) ?_
  refine at_callM [.int (xs (ix (a3 + 1)))] [.int r] rfl C mw_X11_map rfl ml_BasketEnvoysLaw_169 (by intro v hv; simp only [List.mem_cons, List.not_mem_nil, or_false] at hv; rcases hv with rfl <;> exact ⟨_, rfl⟩) rfl ⟨by decide, by decide⟩ (Nat.le_of_ble_eq_true rfl) (by decide +kernel) (c_X11_map F (xs (ix (a3 + 1))) tm r tm' hm) ?_
  refine at_icmpeq 1641 (off := 251) C (by decide +kernel) (by decide) rfl ?_
  refine at_seg (pc' := 18) (L' := [(3, .int (a3 + 6)), (2, .ref 222), (1, .ref 0), (0, .ref 400000)]) (S' := []) C ?_ [(.iinc 3 6, 6), (.goto (-1626), 0)] _ _ _ (by decide +kernel) rfl
  exact kk
set_option maxRecDepth 20000 in
theorem law_37 (F : Nat) {K : Ctx} {Q : State → Prop} {Ln : Nat} {xs : Nat → Int32} {a3 r : Int32} {tx tm tx' tm' : Tau} (C : Cx K sysU "BasketEnvoysLaw" code 4 100) (hX : Scr K sysU Ln xs) (h1 : inb (a3 + 1) Ln = true) (h2 : inb (a3 + 2) Ln = true) (h3 : inb (a3 + 3) Ln = true) (h4 : inb (a3 + 4) Ln = true) (h5 : inb (a3 + 5) Ln = true) (hx : X10_cloth F (xs (ix (a3 + 1))) (xs (ix (a3 + 2))) tx = some (r, tx')) (hm : X11_cloth F (xs (ix (a3 + 1))) (xs (ix (a3 + 2))) tm = some (r, tm')) (kk : At K sysU 4 Q 18 [(3, .int (a3 + 6)), (2, .ref 222), (1, .ref 0), (0, .ref 400000)] [] (mkU tx' tm')) : At K sysU 4 Q 1395 [(3, .int a3), (2, .ref 222), (1, .ref 0), (0, .ref 400000)] [] (mkU tx tm) := by
  refine at_seg (pc' := 1400) (L' := [(3, .int a3), (2, .ref 222), (1, .ref 0), (0, .ref 400000)]) (S' := [.int (a3 + 1), .ref 400000, .ref 0]) C ?_ [(.aload_n 1, 0), (.aload_n 0, 0), (.iload_n 3, 0), (.iconst 1, 1), (.iadd, 0)] _ _ _ (by decide +kernel) rfl
  refine at_sld C hX h1 (by decide +kernel) ?_
  refine at_seg (pc' := 1405) (L' := [(3, .int a3), (2, .ref 222), (1, .ref 0), (0, .ref 400000)]) (S' := [.int (a3 + 2), .ref 400000, .int (xs (ix (a3 + 1))), .ref 0]) C ?_ [(.aload_n 0, 0), (.iload_n 3, 0), (.iconst 2, 2), (.iadd, 0)] _ _ _ (by decide +kernel) rfl
  refine at_sld C hX h2 (by decide +kernel) ?_
  refine at_callX [.int (xs (ix (a3 + 1))), .int (xs (ix (a3 + 2)))] [] rfl C mw_X10_cloth rfl ml_BasketEnvoysLaw_170 rfl ⟨by decide, by decide⟩ (Nat.le_of_ble_eq_true rfl) (by decide +kernel) (c_X10_cloth F (xs (ix (a3 + 1))) (xs (ix (a3 + 2))) tx r tx' hx) ?_
  refine at_seg (pc' := 1414) (L' := [(3, .int a3), (2, .ref 222), (1, .ref 0), (0, .ref 400000)]) (S' := [.int (a3 + 1), .ref 400000, .ref 222, .int r]) C ?_ [(.aload_n 2, 0), (.aload_n 0, 0), (.iload_n 3, 0), (.iconst 1, 1), (.iadd, 0)] _ _ _ (by decide +kernel) rfl
  refine at_sld C hX h1 (by decide +kernel) ?_
  refine at_seg (pc' := 1419) (L' := [(3, .int a3), (2, .ref 222), (1, .ref 0), (0, .ref 400000)]) (S' := [.int (a3 + 2), .ref 400000, .int (xs (ix (a3 + 1))), .ref 222, .int r]) C ?_ [(.aload_n 0, 0), (.iload_n 3, 0), (.iconst 2, 2), (.iadd, 0)] _ _ _ (by decide +kernel) rfl
  refine at_sld C hX h2 (by decide +kernel) ?_
  refine at_callM [.int (xs (ix (a3 + 1))), .int (xs (ix (a3 + 2)))] [.int r] rfl C mw_X11_cloth rfl ml_BasketEnvoysLaw_173 (by intro v hv; simp only [List.mem_cons, List.not_mem_nil, or_false] at hv; rcases hv with rfl | rfl <;> exact ⟨_, rfl⟩) rfl ⟨by decide, by decide⟩ (Nat.le_of_ble_eq_true rfl) (by decide +kernel) (c_X11_cloth F (xs (ix (a3 + 1))) (xs (ix (a3 + 2))) tm r tm' hm) ?_
  refine at_icmpeq 1641 (off := 218) C (by decide +kernel) (by decide) rfl ?_
  refine at_seg (pc' := 18) (L' := [(3, .int (a3 + 6)), (2, .ref 222), (1, .ref 0), (0, .ref 400000)]) (S' := []) C ?_ [(.iinc 3 6, 6), (.goto (-1626), 0)] _ _ _ (by decide +kernel) rfl
  exact kk
set_option maxRecDepth 20000 in
theorem law_38 (F : Nat) {K : Ctx} {Q : State → Prop} {Ln : Nat} {xs : Nat → Int32} {a3 r : Int32} {tx tm tx' tm' : Tau} (C : Cx K sysU "BasketEnvoysLaw" code 4 100) (hX : Scr K sysU Ln xs) (h1 : inb (a3 + 1) Ln = true) (h2 : inb (a3 + 2) Ln = true) (h3 : inb (a3 + 3) Ln = true) (h4 : inb (a3 + 4) Ln = true) (h5 : inb (a3 + 5) Ln = true) (hx : X10_cloths F (xs (ix (a3 + 1))) tx = some (r, tx')) (hm : X11_cloths F (xs (ix (a3 + 1))) tm = some (r, tm')) (kk : At K sysU 4 Q 18 [(3, .int (a3 + 6)), (2, .ref 222), (1, .ref 0), (0, .ref 400000)] [] (mkU tx' tm')) : At K sysU 4 Q 1428 [(3, .int a3), (2, .ref 222), (1, .ref 0), (0, .ref 400000)] [] (mkU tx tm) := by
  refine at_seg (pc' := 1433) (L' := [(3, .int a3), (2, .ref 222), (1, .ref 0), (0, .ref 400000)]) (S' := [.int (a3 + 1), .ref 400000, .ref 0]) C ?_ [(.aload_n 1, 0), (.aload_n 0, 0), (.iload_n 3, 0), (.iconst 1, 1), (.iadd, 0)] _ _ _ (by decide +kernel) rfl
  refine at_sld C hX h1 (by decide +kernel) ?_
  refine at_callX [.int (xs (ix (a3 + 1)))] [] rfl C mw_X10_cloths rfl ml_BasketEnvoysLaw_174 rfl ⟨by decide, by decide⟩ (Nat.le_of_ble_eq_true rfl) (by decide +kernel) (c_X10_cloths F (xs (ix (a3 + 1))) tx r tx' hx) ?_
  refine at_seg (pc' := 1442) (L' := [(3, .int a3), (2, .ref 222), (1, .ref 0), (0, .ref 400000)]) (S' := [.int (a3 + 1), .ref 400000, .ref 222, .int r]) C ?_ [(.aload_n 2, 0), (.aload_n 0, 0), (.iload_n 3, 0), (.iconst 1, 1), (.iadd, 0)] _ _ _ (by decide +kernel) rfl
  refine at_sld C hX h1 (by decide +kernel) ?_
  refine at_callM [.int (xs (ix (a3 + 1)))] [.int r] rfl C mw_X11_cloths rfl ml_BasketEnvoysLaw_177 (by intro v hv; simp only [List.mem_cons, List.not_mem_nil, or_false] at hv; rcases hv with rfl <;> exact ⟨_, rfl⟩) rfl ⟨by decide, by decide⟩ (Nat.le_of_ble_eq_true rfl) (by decide +kernel) (c_X11_cloths F (xs (ix (a3 + 1))) tm r tm' hm) ?_
  refine at_icmpeq 1641 (off := 195) C (by decide +kernel) (by decide) rfl ?_
  refine at_seg (pc' := 18) (L' := [(3, .int (a3 + 6)), (2, .ref 222), (1, .ref 0), (0, .ref 400000)]) (S' := []) C ?_ [(.iinc 3 6, 6), (.goto (-1626), 0)] _ _ _ (by decide +kernel) rfl
  exact kk
set_option maxRecDepth 20000 in
theorem law_39 (F : Nat) {K : Ctx} {Q : State → Prop} {Ln : Nat} {xs : Nat → Int32} {a3 r : Int32} {tx tm tx' tm' : Tau} (C : Cx K sysU "BasketEnvoysLaw" code 4 100) (hX : Scr K sysU Ln xs) (h1 : inb (a3 + 1) Ln = true) (h2 : inb (a3 + 2) Ln = true) (h3 : inb (a3 + 3) Ln = true) (h4 : inb (a3 + 4) Ln = true) (h5 : inb (a3 + 5) Ln = true) (hx : X10_interpreter F (xs (ix (a3 + 1))) tx = some (r, tx')) (hm : X11_interpreter F (xs (ix (a3 + 1))) tm = some (r, tm')) (kk : At K sysU 4 Q 18 [(3, .int (a3 + 6)), (2, .ref 222), (1, .ref 0), (0, .ref 400000)] [] (mkU tx' tm')) : At K sysU 4 Q 1451 [(3, .int a3), (2, .ref 222), (1, .ref 0), (0, .ref 400000)] [] (mkU tx tm) := by
  refine at_seg (pc' := 1456) (L' := [(3, .int a3), (2, .ref 222), (1, .ref 0), (0, .ref 400000)]) (S' := [.int (a3 + 1), .ref 400000, .ref 0]) C ?_ [(.aload_n 1, 0), (.aload_n 0, 0), (.iload_n 3, 0), (.iconst 1, 1), (.iadd, 0)] _ _ _ (by decide +kernel) rfl
  refine at_sld C hX h1 (by decide +kernel) ?_
  refine at_callX [.int (xs (ix (a3 + 1)))] [] rfl C mw_X10_interpreter rfl ml_BasketEnvoysLaw_178 rfl ⟨by decide, by decide⟩ (Nat.le_of_ble_eq_true rfl) (by decide +kernel) (c_X10_interpreter F (xs (ix (a3 + 1))) tx r tx' hx) ?_
  refine at_seg (pc' := 1465) (L' := [(3, .int a3), (2, .ref 222), (1, .ref 0), (0, .ref 400000)]) (S' := [.int (a3 + 1), .ref 400000, .ref 222, .int r]) C ?_ [(.aload_n 2, 0), (.aload_n 0, 0), (.iload_n 3, 0), (.iconst 1, 1), (.iadd, 0)] _ _ _ (by decide +kernel) rfl
  refine at_sld C hX h1 (by decide +kernel) ?_
  refine at_callM [.int (xs (ix (a3 + 1)))] [.int r] rfl C mw_X11_interpreter rfl ml_BasketEnvoysLaw_181 (by intro v hv; simp only [List.mem_cons, List.not_mem_nil, or_false] at hv; rcases hv with rfl <;> exact ⟨_, rfl⟩) rfl ⟨by decide, by decide⟩ (Nat.le_of_ble_eq_true rfl) (by decide +kernel) (c_X11_interpreter F (xs (ix (a3 + 1))) tm r tm' hm) ?_
  refine at_icmpeq 1641 (off := 172) C (by decide +kernel) (by decide) rfl ?_
  refine at_seg (pc' := 18) (L' := [(3, .int (a3 + 6)), (2, .ref 222), (1, .ref 0), (0, .ref 400000)]) (S' := []) C ?_ [(.iinc 3 6, 6), (.goto (-1626), 0)] _ _ _ (by decide +kernel) rfl
  exact kk
set_option maxRecDepth 20000 in
theorem law_40 (F : Nat) {K : Ctx} {Q : State → Prop} {Ln : Nat} {xs : Nat → Int32} {a3 r : Int32} {tx tm tx' tm' : Tau} (C : Cx K sysU "BasketEnvoysLaw" code 4 100) (hX : Scr K sysU Ln xs) (h1 : inb (a3 + 1) Ln = true) (h2 : inb (a3 + 2) Ln = true) (h3 : inb (a3 + 3) Ln = true) (h4 : inb (a3 + 4) Ln = true) (h5 : inb (a3 + 5) Ln = true) (hx : X10_word F (xs (ix (a3 + 1))) tx = some (r, tx')) (hm : X11_word F (xs (ix (a3 + 1))) tm = some (r, tm')) (kk : At K sysU 4 Q 18 [(3, .int (a3 + 6)), (2, .ref 222), (1, .ref 0), (0, .ref 400000)] [] (mkU tx' tm')) : At K sysU 4 Q 1474 [(3, .int a3), (2, .ref 222), (1, .ref 0), (0, .ref 400000)] [] (mkU tx tm) := by
  refine at_seg (pc' := 1479) (L' := [(3, .int a3), (2, .ref 222), (1, .ref 0), (0, .ref 400000)]) (S' := [.int (a3 + 1), .ref 400000, .ref 0]) C ?_ [(.aload_n 1, 0), (.aload_n 0, 0), (.iload_n 3, 0), (.iconst 1, 1), (.iadd, 0)] _ _ _ (by decide +kernel) rfl
  refine at_sld C hX h1 (by decide +kernel) ?_
  refine at_callX [.int (xs (ix (a3 + 1)))] [] rfl C mw_X10_word rfl ml_BasketEnvoysLaw_182 rfl ⟨by decide, by decide⟩ (Nat.le_of_ble_eq_true rfl) (by decide +kernel) (c_X10_word F (xs (ix (a3 + 1))) tx r tx' hx) ?_
  refine at_seg (pc' := 1488) (L' := [(3, .int a3), (2, .ref 222), (1, .ref 0), (0, .ref 400000)]) (S' := [.int (a3 + 1), .ref 400000, .ref 222, .int r]) C ?_ [(.aload_n 2, 0), (.aload_n 0, 0), (.iload_n 3, 0), (.iconst 1, 1), (.iadd, 0)] _ _ _ (by decide +kernel) rfl
  refine at_sld C hX h1 (by decide +kernel) ?_
  refine at_callM [.int (xs (ix (a3 + 1)))] [.int r] rfl C mw_X11_word rfl ml_BasketEnvoysLaw_185 (by intro v hv; simp only [List.mem_cons, List.not_mem_nil, or_false] at hv; rcases hv with rfl <;> exact ⟨_, rfl⟩) rfl ⟨by decide, by decide⟩ (Nat.le_of_ble_eq_true rfl) (by decide +kernel) (c_X11_word F (xs (ix (a3 + 1))) tm r tm' hm) ?_
  refine at_icmpeq 1641 (off := 149) C (by decide +kernel) (by decide) rfl ?_
  refine at_seg (pc' := 18) (L' := [(3, .int (a3 + 6)), (2, .ref 222), (1, .ref 0), (0, .ref 400000)]) (S' := []) C ?_ [(.iinc 3 6, 6), (.goto (-1626), 0)] _ _ _ (by decide +kernel) rfl
  exact kk
set_option maxRecDepth 20000 in
theorem law_41 (F : Nat) {K : Ctx} {Q : State → Prop} {Ln : Nat} {xs : Nat → Int32} {a3 r : Int32} {tx tm tx' tm' : Tau} (C : Cx K sysU "BasketEnvoysLaw" code 4 100) (hX : Scr K sysU Ln xs) (h1 : inb (a3 + 1) Ln = true) (h2 : inb (a3 + 2) Ln = true) (h3 : inb (a3 + 3) Ln = true) (h4 : inb (a3 + 4) Ln = true) (h5 : inb (a3 + 5) Ln = true) (hx : X10_silence F (xs (ix (a3 + 1))) (xs (ix (a3 + 2))) (xs (ix (a3 + 3))) (bz (xs (ix (a3 + 4)))) tx = some (r, tx')) (hm : X11_silence F (xs (ix (a3 + 1))) (xs (ix (a3 + 2))) (xs (ix (a3 + 3))) (bz (xs (ix (a3 + 4)))) tm = some (r, tm')) (kk : At K sysU 4 Q 18 [(3, .int (a3 + 6)), (2, .ref 222), (1, .ref 0), (0, .ref 400000)] [] (mkU tx' tm')) : At K sysU 4 Q 1497 [(3, .int a3), (2, .ref 222), (1, .ref 0), (0, .ref 400000)] [] (mkU tx tm) := by
  by_cases e : (xs (ix (a3 + 4))) = 0
  · rw [show bz (xs (ix (a3 + 4))) = 0 from if_pos e] at hx hm
    refine at_seg (pc' := 1502) (L' := [(3, .int a3), (2, .ref 222), (1, .ref 0), (0, .ref 400000)]) (S' := [.int (a3 + 1), .ref 400000, .ref 0]) C ?_ [(.aload_n 1, 0), (.aload_n 0, 0), (.iload_n 3, 0), (.iconst 1, 1), (.iadd, 0)] _ _ _ (by decide +kernel) rfl
    refine at_sld C hX h1 (by decide +kernel) ?_
    refine at_seg (pc' := 1507) (L' := [(3, .int a3), (2, .ref 222), (1, .ref 0), (0, .ref 400000)]) (S' := [.int (a3 + 2), .ref 400000, .int (xs (ix (a3 + 1))), .ref 0]) C ?_ [(.aload_n 0, 0), (.iload_n 3, 0), (.iconst 2, 2), (.iadd, 0)] _ _ _ (by decide +kernel) rfl
    refine at_sld C hX h2 (by decide +kernel) ?_
    refine at_seg (pc' := 1512) (L' := [(3, .int a3), (2, .ref 222), (1, .ref 0), (0, .ref 400000)]) (S' := [.int (a3 + 3), .ref 400000, .int (xs (ix (a3 + 2))), .int (xs (ix (a3 + 1))), .ref 0]) C ?_ [(.aload_n 0, 0), (.iload_n 3, 0), (.iconst 3, 3), (.iadd, 0)] _ _ _ (by decide +kernel) rfl
    refine at_sld C hX h3 (by decide +kernel) ?_
    refine at_seg (pc' := 1517) (L' := [(3, .int a3), (2, .ref 222), (1, .ref 0), (0, .ref 400000)]) (S' := [.int (a3 + 4), .ref 400000, .int (xs (ix (a3 + 3))), .int (xs (ix (a3 + 2))), .int (xs (ix (a3 + 1))), .ref 0]) C ?_ [(.aload_n 0, 0), (.iload_n 3, 0), (.iconst 4, 4), (.iadd, 0)] _ _ _ (by decide +kernel) rfl
    refine at_sld C hX h4 (by decide +kernel) ?_
    refine at_ifeq 1525 (off := 7) C (by decide +kernel) (by decide) (fun _ => ?_) (fun q => absurd e q)
    refine at_seg (pc' := 1526) (L' := [(3, .int a3), (2, .ref 222), (1, .ref 0), (0, .ref 400000)]) (S' := [.int 0, .int (xs (ix (a3 + 3))), .int (xs (ix (a3 + 2))), .int (xs (ix (a3 + 1))), .ref 0]) C ?_ [(.iconst 0, 0)] _ _ _ (by decide +kernel) rfl
    refine at_callX [.int (xs (ix (a3 + 1))), .int (xs (ix (a3 + 2))), .int (xs (ix (a3 + 3))), .int 0] [] rfl C mw_X10_silence rfl ml_BasketEnvoysLaw_186 rfl ⟨by decide, by decide⟩ (Nat.le_of_ble_eq_true rfl) (by decide +kernel) (c_X10_silence F (xs (ix (a3 + 1))) (xs (ix (a3 + 2))) (xs (ix (a3 + 3))) 0 tx r tx' hx) ?_
    refine at_seg (pc' := 1534) (L' := [(3, .int a3), (2, .ref 222), (1, .ref 0), (0, .ref 400000)]) (S' := [.int (a3 + 1), .ref 400000, .ref 222, .int r]) C ?_ [(.aload_n 2, 0), (.aload_n 0, 0), (.iload_n 3, 0), (.iconst 1, 1), (.iadd, 0)] _ _ _ (by decide +kernel) rfl
    refine at_sld C hX h1 (by decide +kernel) ?_
    refine at_seg (pc' := 1539) (L' := [(3, .int a3), (2, .ref 222), (1, .ref 0), (0, .ref 400000)]) (S' := [.int (a3 + 2), .ref 400000, .int (xs (ix (a3 + 1))), .ref 222, .int r]) C ?_ [(.aload_n 0, 0), (.iload_n 3, 0), (.iconst 2, 2), (.iadd, 0)] _ _ _ (by decide +kernel) rfl
    refine at_sld C hX h2 (by decide +kernel) ?_
    refine at_seg (pc' := 1544) (L' := [(3, .int a3), (2, .ref 222), (1, .ref 0), (0, .ref 400000)]) (S' := [.int (a3 + 3), .ref 400000, .int (xs (ix (a3 + 2))), .int (xs (ix (a3 + 1))), .ref 222, .int r]) C ?_ [(.aload_n 0, 0), (.iload_n 3, 0), (.iconst 3, 3), (.iadd, 0)] _ _ _ (by decide +kernel) rfl
    refine at_sld C hX h3 (by decide +kernel) ?_
    refine at_seg (pc' := 1549) (L' := [(3, .int a3), (2, .ref 222), (1, .ref 0), (0, .ref 400000)]) (S' := [.int (a3 + 4), .ref 400000, .int (xs (ix (a3 + 3))), .int (xs (ix (a3 + 2))), .int (xs (ix (a3 + 1))), .ref 222, .int r]) C ?_ [(.aload_n 0, 0), (.iload_n 3, 0), (.iconst 4, 4), (.iadd, 0)] _ _ _ (by decide +kernel) rfl
    refine at_sld C hX h4 (by decide +kernel) ?_
    refine at_ifeq 1557 (off := 7) C (by decide +kernel) (by decide) (fun _ => ?_) (fun q => absurd e q)
    refine at_seg (pc' := 1558) (L' := [(3, .int a3), (2, .ref 222), (1, .ref 0), (0, .ref 400000)]) (S' := [.int 0, .int (xs (ix (a3 + 3))), .int (xs (ix (a3 + 2))), .int (xs (ix (a3 + 1))), .ref 222, .int r]) C ?_ [(.iconst 0, 0)] _ _ _ (by decide +kernel) rfl
    refine at_callM [.int (xs (ix (a3 + 1))), .int (xs (ix (a3 + 2))), .int (xs (ix (a3 + 3))), .int 0] [.int r] rfl C mw_X11_silence rfl ml_BasketEnvoysLaw_190 (by intro v hv; simp only [List.mem_cons, List.not_mem_nil, or_false] at hv; rcases hv with rfl | rfl | rfl | rfl <;> exact ⟨_, rfl⟩) rfl ⟨by decide, by decide⟩ (Nat.le_of_ble_eq_true rfl) (by decide +kernel) (c_X11_silence F (xs (ix (a3 + 1))) (xs (ix (a3 + 2))) (xs (ix (a3 + 3))) 0 tm r tm' hm) ?_
    refine at_icmpeq 1641 (off := 80) C (by decide +kernel) (by decide) rfl ?_
    refine at_seg (pc' := 18) (L' := [(3, .int (a3 + 6)), (2, .ref 222), (1, .ref 0), (0, .ref 400000)]) (S' := []) C ?_ [(.iinc 3 6, 6), (.goto (-1626), 0)] _ _ _ (by decide +kernel) rfl
    exact kk
  · rw [show bz (xs (ix (a3 + 4))) = 1 from if_neg e] at hx hm
    refine at_seg (pc' := 1502) (L' := [(3, .int a3), (2, .ref 222), (1, .ref 0), (0, .ref 400000)]) (S' := [.int (a3 + 1), .ref 400000, .ref 0]) C ?_ [(.aload_n 1, 0), (.aload_n 0, 0), (.iload_n 3, 0), (.iconst 1, 1), (.iadd, 0)] _ _ _ (by decide +kernel) rfl
    refine at_sld C hX h1 (by decide +kernel) ?_
    refine at_seg (pc' := 1507) (L' := [(3, .int a3), (2, .ref 222), (1, .ref 0), (0, .ref 400000)]) (S' := [.int (a3 + 2), .ref 400000, .int (xs (ix (a3 + 1))), .ref 0]) C ?_ [(.aload_n 0, 0), (.iload_n 3, 0), (.iconst 2, 2), (.iadd, 0)] _ _ _ (by decide +kernel) rfl
    refine at_sld C hX h2 (by decide +kernel) ?_
    refine at_seg (pc' := 1512) (L' := [(3, .int a3), (2, .ref 222), (1, .ref 0), (0, .ref 400000)]) (S' := [.int (a3 + 3), .ref 400000, .int (xs (ix (a3 + 2))), .int (xs (ix (a3 + 1))), .ref 0]) C ?_ [(.aload_n 0, 0), (.iload_n 3, 0), (.iconst 3, 3), (.iadd, 0)] _ _ _ (by decide +kernel) rfl
    refine at_sld C hX h3 (by decide +kernel) ?_
    refine at_seg (pc' := 1517) (L' := [(3, .int a3), (2, .ref 222), (1, .ref 0), (0, .ref 400000)]) (S' := [.int (a3 + 4), .ref 400000, .int (xs (ix (a3 + 3))), .int (xs (ix (a3 + 2))), .int (xs (ix (a3 + 1))), .ref 0]) C ?_ [(.aload_n 0, 0), (.iload_n 3, 0), (.iconst 4, 4), (.iadd, 0)] _ _ _ (by decide +kernel) rfl
    refine at_sld C hX h4 (by decide +kernel) ?_
    refine at_ifeq 1525 (off := 7) C (by decide +kernel) (by decide) (fun q => absurd q e) (fun _ => ?_)
    refine at_seg (pc' := 1526) (L' := [(3, .int a3), (2, .ref 222), (1, .ref 0), (0, .ref 400000)]) (S' := [.int 1, .int (xs (ix (a3 + 3))), .int (xs (ix (a3 + 2))), .int (xs (ix (a3 + 1))), .ref 0]) C ?_ [(.iconst 1, 1), (.goto 4, 0)] _ _ _ (by decide +kernel) rfl
    refine at_callX [.int (xs (ix (a3 + 1))), .int (xs (ix (a3 + 2))), .int (xs (ix (a3 + 3))), .int 1] [] rfl C mw_X10_silence rfl ml_BasketEnvoysLaw_186 rfl ⟨by decide, by decide⟩ (Nat.le_of_ble_eq_true rfl) (by decide +kernel) (c_X10_silence F (xs (ix (a3 + 1))) (xs (ix (a3 + 2))) (xs (ix (a3 + 3))) 1 tx r tx' hx) ?_
    refine at_seg (pc' := 1534) (L' := [(3, .int a3), (2, .ref 222), (1, .ref 0), (0, .ref 400000)]) (S' := [.int (a3 + 1), .ref 400000, .ref 222, .int r]) C ?_ [(.aload_n 2, 0), (.aload_n 0, 0), (.iload_n 3, 0), (.iconst 1, 1), (.iadd, 0)] _ _ _ (by decide +kernel) rfl
    refine at_sld C hX h1 (by decide +kernel) ?_
    refine at_seg (pc' := 1539) (L' := [(3, .int a3), (2, .ref 222), (1, .ref 0), (0, .ref 400000)]) (S' := [.int (a3 + 2), .ref 400000, .int (xs (ix (a3 + 1))), .ref 222, .int r]) C ?_ [(.aload_n 0, 0), (.iload_n 3, 0), (.iconst 2, 2), (.iadd, 0)] _ _ _ (by decide +kernel) rfl
    refine at_sld C hX h2 (by decide +kernel) ?_
    refine at_seg (pc' := 1544) (L' := [(3, .int a3), (2, .ref 222), (1, .ref 0), (0, .ref 400000)]) (S' := [.int (a3 + 3), .ref 400000, .int (xs (ix (a3 + 2))), .int (xs (ix (a3 + 1))), .ref 222, .int r]) C ?_ [(.aload_n 0, 0), (.iload_n 3, 0), (.iconst 3, 3), (.iadd, 0)] _ _ _ (by decide +kernel) rfl
    refine at_sld C hX h3 (by decide +kernel) ?_
    refine at_seg (pc' := 1549) (L' := [(3, .int a3), (2, .ref 222), (1, .ref 0), (0, .ref 400000)]) (S' := [.int (a3 + 4), .ref 400000, .int (xs (ix (a3 + 3))), .int (xs (ix (a3 + 2))), .int (xs (ix (a3 + 1))), .ref 222, .int r]) C ?_ [(.aload_n 0, 0), (.iload_n 3, 0), (.iconst 4, 4), (.iadd, 0)] _ _ _ (by decide +kernel) rfl
    refine at_sld C hX h4 (by decide +kernel) ?_
    refine at_ifeq 1557 (off := 7) C (by decide +kernel) (by decide) (fun q => absurd q e) (fun _ => ?_)
    refine at_seg (pc' := 1558) (L' := [(3, .int a3), (2, .ref 222), (1, .ref 0), (0, .ref 400000)]) (S' := [.int 1, .int (xs (ix (a3 + 3))), .int (xs (ix (a3 + 2))), .int (xs (ix (a3 + 1))), .ref 222, .int r]) C ?_ [(.iconst 1, 1), (.goto 4, 0)] _ _ _ (by decide +kernel) rfl
    refine at_callM [.int (xs (ix (a3 + 1))), .int (xs (ix (a3 + 2))), .int (xs (ix (a3 + 3))), .int 1] [.int r] rfl C mw_X11_silence rfl ml_BasketEnvoysLaw_190 (by intro v hv; simp only [List.mem_cons, List.not_mem_nil, or_false] at hv; rcases hv with rfl | rfl | rfl | rfl <;> exact ⟨_, rfl⟩) rfl ⟨by decide, by decide⟩ (Nat.le_of_ble_eq_true rfl) (by decide +kernel) (c_X11_silence F (xs (ix (a3 + 1))) (xs (ix (a3 + 2))) (xs (ix (a3 + 3))) 1 tm r tm' hm) ?_
    refine at_icmpeq 1641 (off := 80) C (by decide +kernel) (by decide) rfl ?_
    refine at_seg (pc' := 18) (L' := [(3, .int (a3 + 6)), (2, .ref 222), (1, .ref 0), (0, .ref 400000)]) (S' := []) C ?_ [(.iinc 3 6, 6), (.goto (-1626), 0)] _ _ _ (by decide +kernel) rfl
    exact kk
set_option maxRecDepth 20000 in
theorem law_42 (F : Nat) {K : Ctx} {Q : State → Prop} {Ln : Nat} {xs : Nat → Int32} {a3 r : Int32} {tx tm tx' tm' : Tau} (C : Cx K sysU "BasketEnvoysLaw" code 4 100) (hX : Scr K sysU Ln xs) (h1 : inb (a3 + 1) Ln = true) (h2 : inb (a3 + 2) Ln = true) (h3 : inb (a3 + 3) Ln = true) (h4 : inb (a3 + 4) Ln = true) (h5 : inb (a3 + 5) Ln = true) (hx : X10_undo F  tx = some (r, tx')) (hm : X11_undo F  tm = some (r, tm')) (kk : At K sysU 4 Q 18 [(3, .int (a3 + 6)), (2, .ref 222), (1, .ref 0), (0, .ref 400000)] [] (mkU tx' tm')) : At K sysU 4 Q 1566 [(3, .int a3), (2, .ref 222), (1, .ref 0), (0, .ref 400000)] [] (mkU tx tm) := by
  refine at_seg (pc' := 1567) (L' := [(3, .int a3), (2, .ref 222), (1, .ref 0), (0, .ref 400000)]) (S' := [.ref 0]) C ?_ [(.aload_n 1, 0)] _ _ _ (by decide +kernel) rfl
  refine at_callX [] [] rfl C mw_X10_undo rfl ml_BasketEnvoysLaw_191 rfl ⟨by decide, by decide⟩ (Nat.le_of_ble_eq_true rfl) (by decide +kernel) (c_X10_undo F  tx r tx' hx) ?_
  refine at_seg (pc' := 1571) (L' := [(3, .int a3), (2, .ref 222), (1, .ref 0), (0, .ref 400000)]) (S' := [.ref 222, .int r]) C ?_ [(.aload_n 2, 0)] _ _ _ (by decide +kernel) rfl
  refine at_callM [] [.int r] rfl C mw_X11_undo rfl ml_BasketEnvoysLaw_195 (fun v hv => absurd hv List.not_mem_nil) rfl ⟨by decide, by decide⟩ (Nat.le_of_ble_eq_true rfl) (by decide +kernel) (c_X11_undo F tm r tm' hm) ?_
  refine at_icmpeq 1641 (off := 67) C (by decide +kernel) (by decide) rfl ?_
  refine at_seg (pc' := 18) (L' := [(3, .int (a3 + 6)), (2, .ref 222), (1, .ref 0), (0, .ref 400000)]) (S' := []) C ?_ [(.iinc 3 6, 6), (.goto (-1626), 0)] _ _ _ (by decide +kernel) rfl
  exact kk
set_option maxRecDepth 20000 in
theorem law_43 (F : Nat) {K : Ctx} {Q : State → Prop} {Ln : Nat} {xs : Nat → Int32} {a3 r : Int32} {tx tm tx' tm' : Tau} (C : Cx K sysU "BasketEnvoysLaw" code 4 100) (hX : Scr K sysU Ln xs) (h1 : inb (a3 + 1) Ln = true) (h2 : inb (a3 + 2) Ln = true) (h3 : inb (a3 + 3) Ln = true) (h4 : inb (a3 + 4) Ln = true) (h5 : inb (a3 + 5) Ln = true) (hx : X10_image F (bz (xs (ix (a3 + 1)))) tx = some (r, tx')) (hm : X11_image F (bz (xs (ix (a3 + 1)))) tm = some (r, tm')) (kk : At K sysU 4 Q 18 [(3, .int (a3 + 6)), (2, .ref 222), (1, .ref 0), (0, .ref 400000)] [] (mkU tx' tm')) : At K sysU 4 Q 1579 [(3, .int a3), (2, .ref 222), (1, .ref 0), (0, .ref 400000)] [] (mkU tx tm) := by
  by_cases e : (xs (ix (a3 + 1))) = 0
  · rw [show bz (xs (ix (a3 + 1))) = 0 from if_pos e] at hx hm
    refine at_seg (pc' := 1584) (L' := [(3, .int a3), (2, .ref 222), (1, .ref 0), (0, .ref 400000)]) (S' := [.int (a3 + 1), .ref 400000, .ref 0]) C ?_ [(.aload_n 1, 0), (.aload_n 0, 0), (.iload_n 3, 0), (.iconst 1, 1), (.iadd, 0)] _ _ _ (by decide +kernel) rfl
    refine at_sld C hX h1 (by decide +kernel) ?_
    refine at_ifeq 1592 (off := 7) C (by decide +kernel) (by decide) (fun _ => ?_) (fun q => absurd e q)
    refine at_seg (pc' := 1593) (L' := [(3, .int a3), (2, .ref 222), (1, .ref 0), (0, .ref 400000)]) (S' := [.int 0, .ref 0]) C ?_ [(.iconst 0, 0)] _ _ _ (by decide +kernel) rfl
    refine at_callX [.int 0] [] rfl C mw_X10_image rfl ml_BasketEnvoysLaw_196 rfl ⟨by decide, by decide⟩ (Nat.le_of_ble_eq_true rfl) (by decide +kernel) (c_X10_image F 0 tx r tx' hx) ?_
    refine at_seg (pc' := 1601) (L' := [(3, .int a3), (2, .ref 222), (1, .ref 0), (0, .ref 400000)]) (S' := [.int (a3 + 1), .ref 400000, .ref 222, .int r]) C ?_ [(.aload_n 2, 0), (.aload_n 0, 0), (.iload_n 3, 0), (.iconst 1, 1), (.iadd, 0)] _ _ _ (by decide +kernel) rfl
    refine at_sld C hX h1 (by decide +kernel) ?_
    refine at_ifeq 1609 (off := 7) C (by decide +kernel) (by decide) (fun _ => ?_) (fun q => absurd e q)
    refine at_seg (pc' := 1610) (L' := [(3, .int a3), (2, .ref 222), (1, .ref 0), (0, .ref 400000)]) (S' := [.int 0, .ref 222, .int r]) C ?_ [(.iconst 0, 0)] _ _ _ (by decide +kernel) rfl
    refine at_callM [.int 0] [.int r] rfl C mw_X11_image rfl ml_BasketEnvoysLaw_200 (by intro v hv; simp only [List.mem_cons, List.not_mem_nil, or_false] at hv; rcases hv with rfl <;> exact ⟨_, rfl⟩) rfl ⟨by decide, by decide⟩ (Nat.le_of_ble_eq_true rfl) (by decide +kernel) (c_X11_image F 0 tm r tm' hm) ?_
    refine at_icmpeq 1641 (off := 28) C (by decide +kernel) (by decide) rfl ?_
    refine at_seg (pc' := 18) (L' := [(3, .int (a3 + 6)), (2, .ref 222), (1, .ref 0), (0, .ref 400000)]) (S' := []) C ?_ [(.iinc 3 6, 6), (.goto (-1626), 0)] _ _ _ (by decide +kernel) rfl
    exact kk
  · rw [show bz (xs (ix (a3 + 1))) = 1 from if_neg e] at hx hm
    refine at_seg (pc' := 1584) (L' := [(3, .int a3), (2, .ref 222), (1, .ref 0), (0, .ref 400000)]) (S' := [.int (a3 + 1), .ref 400000, .ref 0]) C ?_ [(.aload_n 1, 0), (.aload_n 0, 0), (.iload_n 3, 0), (.iconst 1, 1), (.iadd, 0)] _ _ _ (by decide +kernel) rfl
    refine at_sld C hX h1 (by decide +kernel) ?_
    refine at_ifeq 1592 (off := 7) C (by decide +kernel) (by decide) (fun q => absurd q e) (fun _ => ?_)
    refine at_seg (pc' := 1593) (L' := [(3, .int a3), (2, .ref 222), (1, .ref 0), (0, .ref 400000)]) (S' := [.int 1, .ref 0]) C ?_ [(.iconst 1, 1), (.goto 4, 0)] _ _ _ (by decide +kernel) rfl
    refine at_callX [.int 1] [] rfl C mw_X10_image rfl ml_BasketEnvoysLaw_196 rfl ⟨by decide, by decide⟩ (Nat.le_of_ble_eq_true rfl) (by decide +kernel) (c_X10_image F 1 tx r tx' hx) ?_
    refine at_seg (pc' := 1601) (L' := [(3, .int a3), (2, .ref 222), (1, .ref 0), (0, .ref 400000)]) (S' := [.int (a3 + 1), .ref 400000, .ref 222, .int r]) C ?_ [(.aload_n 2, 0), (.aload_n 0, 0), (.iload_n 3, 0), (.iconst 1, 1), (.iadd, 0)] _ _ _ (by decide +kernel) rfl
    refine at_sld C hX h1 (by decide +kernel) ?_
    refine at_ifeq 1609 (off := 7) C (by decide +kernel) (by decide) (fun q => absurd q e) (fun _ => ?_)
    refine at_seg (pc' := 1610) (L' := [(3, .int a3), (2, .ref 222), (1, .ref 0), (0, .ref 400000)]) (S' := [.int 1, .ref 222, .int r]) C ?_ [(.iconst 1, 1), (.goto 4, 0)] _ _ _ (by decide +kernel) rfl
    refine at_callM [.int 1] [.int r] rfl C mw_X11_image rfl ml_BasketEnvoysLaw_200 (by intro v hv; simp only [List.mem_cons, List.not_mem_nil, or_false] at hv; rcases hv with rfl <;> exact ⟨_, rfl⟩) rfl ⟨by decide, by decide⟩ (Nat.le_of_ble_eq_true rfl) (by decide +kernel) (c_X11_image F 1 tm r tm' hm) ?_
    refine at_icmpeq 1641 (off := 28) C (by decide +kernel) (by decide) rfl ?_
    refine at_seg (pc' := 18) (L' := [(3, .int (a3 + 6)), (2, .ref 222), (1, .ref 0), (0, .ref 400000)]) (S' := []) C ?_ [(.iinc 3 6, 6), (.goto (-1626), 0)] _ _ _ (by decide +kernel) rfl
    exact kk
set_option maxRecDepth 20000 in
theorem law_44 (F : Nat) {K : Ctx} {Q : State → Prop} {Ln : Nat} {xs : Nat → Int32} {a3 r : Int32} {tx tm tx' tm' : Tau} (C : Cx K sysU "BasketEnvoysLaw" code 4 100) (hX : Scr K sysU Ln xs) (h1 : inb (a3 + 1) Ln = true) (h2 : inb (a3 + 2) Ln = true) (h3 : inb (a3 + 3) Ln = true) (h4 : inb (a3 + 4) Ln = true) (h5 : inb (a3 + 5) Ln = true) (hx : X10_look F (xs (ix (a3 + 1))) tx = some (r, tx')) (hm : X11_look F (xs (ix (a3 + 1))) tm = some (r, tm')) (kk : At K sysU 4 Q 18 [(3, .int (a3 + 6)), (2, .ref 222), (1, .ref 0), (0, .ref 400000)] [] (mkU tx' tm')) : At K sysU 4 Q 1618 [(3, .int a3), (2, .ref 222), (1, .ref 0), (0, .ref 400000)] [] (mkU tx tm) := by
  refine at_seg (pc' := 1623) (L' := [(3, .int a3), (2, .ref 222), (1, .ref 0), (0, .ref 400000)]) (S' := [.int (a3 + 1), .ref 400000, .ref 0]) C ?_ [(.aload_n 1, 0), (.aload_n 0, 0), (.iload_n 3, 0), (.iconst 1, 1), (.iadd, 0)] _ _ _ (by decide +kernel) rfl
  refine at_sld C hX h1 (by decide +kernel) ?_
  refine at_callX [.int (xs (ix (a3 + 1)))] [] rfl C mw_X10_look rfl ml_BasketEnvoysLaw_201 rfl ⟨by decide, by decide⟩ (Nat.le_of_ble_eq_true rfl) (by decide +kernel) (c_X10_look F (xs (ix (a3 + 1))) tx r tx' hx) ?_
  refine at_seg (pc' := 1632) (L' := [(3, .int a3), (2, .ref 222), (1, .ref 0), (0, .ref 400000)]) (S' := [.int (a3 + 1), .ref 400000, .ref 222, .int r]) C ?_ [(.aload_n 2, 0), (.aload_n 0, 0), (.iload_n 3, 0), (.iconst 1, 1), (.iadd, 0)] _ _ _ (by decide +kernel) rfl
  refine at_sld C hX h1 (by decide +kernel) ?_
  refine at_callM [.int (xs (ix (a3 + 1)))] [.int r] rfl C mw_X11_look rfl ml_BasketEnvoysLaw_204 (by intro v hv; simp only [List.mem_cons, List.not_mem_nil, or_false] at hv; rcases hv with rfl <;> exact ⟨_, rfl⟩) rfl ⟨by decide, by decide⟩ (Nat.le_of_ble_eq_true rfl) (by decide +kernel) (c_X11_look F (xs (ix (a3 + 1))) tm r tm' hm) ?_
  refine at_icmpeq 1641 (off := 5) C (by decide +kernel) (by decide) rfl ?_
  refine at_seg (pc' := 18) (L' := [(3, .int (a3 + 6)), (2, .ref 222), (1, .ref 0), (0, .ref 400000)]) (S' := []) C ?_ [(.iinc 3 6, 6), (.goto (-1626), 0)] _ _ _ (by decide +kernel) rfl
  exact kk
