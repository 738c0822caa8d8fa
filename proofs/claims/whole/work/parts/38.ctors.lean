/-! constructors, by program -/
theorem aw_int : Cond.arrayClass (FieldType.int) ∈ lw_g := in_c1 139 rfl rfl
theorem aw_boolean : Cond.arrayClass (FieldType.boolean) ∈ lw_g := in_c2 217 rfl rfl
theorem aw_char : Cond.arrayClass (FieldType.char) ∈ lw_g := in_c2 148 rfl rfl
theorem ow_i : Cond.instanceMethod objectInit ∈ lw_g := in_c1 28 rfl rfl
theorem ow_c : Cond.code objectInit ⟨#[0xb1]⟩ 1 none ∈ lw_g := in_c1 29 rfl rfl
theorem il_BasketEnvoysLaw_9 : Cond.methodLink "BasketEnvoysLaw" 9 yX10_init ∈ lw_g := in_c1 24 rfl rfl
theorem il_10_3 : Cond.methodLink RX10 3 objectInit ∈ lw_g := in_c1 27 rfl rfl
theorem il_10_11 : Cond.methodLink RX10 11 yX9_init ∈ lw_g := in_c1 32 rfl rfl
theorem il_9_3 : Cond.methodLink RX9 3 objectInit ∈ lw_g := in_c1 35 rfl rfl
theorem il_9_11 : Cond.methodLinkNest RX9 11 yX8_init "BasketEnvoys" ∈ nestW := in_d1 38 rfl rfl
theorem il_8_3 : Cond.methodLink RX8 3 objectInit ∈ lw_g := in_c1 41 rfl rfl
theorem il_9_20 : Cond.methodLinkNest RX9 20 yX7_init "BasketEnvoys" ∈ nestW := in_d1 142 rfl rfl
theorem il_7_3 : Cond.methodLink RX7 3 objectInit ∈ lw_g := in_c1 145 rfl rfl
theorem il_7_11 : Cond.methodLink RX7 11 yX5_init ∈ lw_g := in_c1 148 rfl rfl
theorem il_5_3 : Cond.methodLink RX5 3 objectInit ∈ lw_g := in_c1 151 rfl rfl
theorem il_9_27 : Cond.methodLinkNest RX9 27 yX2_init "BasketEnvoys" ∈ nestW := in_d1 237 rfl rfl
theorem il_2_3 : Cond.methodLink RX2 3 objectInit ∈ lw_g := in_c2 0 rfl rfl
theorem il_10_25 : Cond.methodLinkNest RX10 25 yX8_init "BasketEnvoys" ∈ nestW := in_d2 71 rfl rfl
theorem il_10_32 : Cond.methodLink RX10 32 yX1_init ∈ lw_g := in_c2 74 rfl rfl
theorem il_1_3 : Cond.methodLink RX1 3 objectInit ∈ lw_g := in_c2 77 rfl rfl
theorem il_1_24 : Cond.methodLinkNest RX1 24 yX8_init "BasketEnvoys" ∈ nestW := in_d2 80 rfl rfl
theorem il_10_39 : Cond.methodLinkNest RX10 39 yX3_init "BasketEnvoys" ∈ nestW := in_d2 94 rfl rfl
theorem il_3_3 : Cond.methodLink RX3 3 objectInit ∈ lw_g := in_c2 97 rfl rfl
theorem il_3_11 : Cond.methodLinkNest RX3 11 yX6_init "BasketEnvoys" ∈ nestW := in_d2 100 rfl rfl
theorem il_6_3 : Cond.methodLink RX6 3 objectInit ∈ lw_g := in_c2 103 rfl rfl
theorem il_3_20 : Cond.methodLinkNest RX3 20 yX2_init "BasketEnvoys" ∈ nestW := in_d2 150 rfl rfl
theorem il_10_46 : Cond.methodLink RX10 46 yX0_init ∈ lw_g := in_c2 166 rfl rfl
theorem il_0_3 : Cond.methodLink RX0 3 objectInit ∈ lw_g := in_c2 169 rfl rfl
theorem il_10_55 : Cond.methodLink RX10 55 yX4_init ∈ lw_g := in_c2 179 rfl rfl
theorem il_4_3 : Cond.methodLink RX4 3 objectInit ∈ lw_g := in_c2 182 rfl rfl
theorem il_BasketEnvoysLaw_12 : Cond.methodLink "BasketEnvoysLaw" 12 yX11_init ∈ lw_g := in_c6 212 rfl rfl
theorem il_11_1 : Cond.methodLink RX11 1 objectInit ∈ lw_g := in_c6 215 rfl rfl
theorem kl_BasketEnvoysLaw_7 : Cond.classLink "BasketEnvoysLaw" 7 RX10 ∈ lw_g := in_c1 22 rfl rfl
theorem kl_10_9 : Cond.classLink RX10 9 RX9 ∈ lw_g := in_c1 30 rfl rfl
theorem kl_9_9 : Cond.classLink RX9 9 RX8 ∈ lw_g := in_c1 36 rfl rfl
theorem kl_9_18 : Cond.classLink RX9 18 RX7 ∈ lw_g := in_c1 140 rfl rfl
theorem kl_7_9 : Cond.classLink RX7 9 RX5 ∈ lw_g := in_c1 146 rfl rfl
theorem kl_9_25 : Cond.classLink RX9 25 RX2 ∈ lw_g := in_c1 235 rfl rfl
theorem kl_10_23 : Cond.classLink RX10 23 RX8 ∈ lw_g := in_c2 70 rfl rfl
theorem kl_10_30 : Cond.classLink RX10 30 RX1 ∈ lw_g := in_c2 72 rfl rfl
theorem kl_1_18 : Cond.classLink RX1 18 RX8 ∈ lw_g := in_c2 78 rfl rfl
theorem kl_10_37 : Cond.classLink RX10 37 RX3 ∈ lw_g := in_c2 92 rfl rfl
theorem kl_3_9 : Cond.classLink RX3 9 RX6 ∈ lw_g := in_c2 98 rfl rfl
theorem kl_3_18 : Cond.classLink RX3 18 RX2 ∈ lw_g := in_c2 149 rfl rfl
theorem kl_10_44 : Cond.classLink RX10 44 RX0 ∈ lw_g := in_c2 164 rfl rfl
theorem kl_10_53 : Cond.classLink RX10 53 RX4 ∈ lw_g := in_c2 177 rfl rfl
theorem kl_BasketEnvoysLaw_10 : Cond.classLink "BasketEnvoysLaw" 10 RX11 ∈ lw_g := in_c6 210 rfl rfl
theorem in_10 : Cond.instantiable RX10 8 ∈ lw_g := in_c1 23 rfl rfl
theorem it_10 : Cond.initialized RX10 ∈ lw_g := in_c1 1 rfl rfl
theorem in_9 : Cond.instantiable RX9 9 ∈ lw_g := in_c1 31 rfl rfl
theorem it_9 : Cond.initialized RX9 ∈ lw_g := in_c1 2 rfl rfl
theorem in_8 : Cond.instantiable RX8 19 ∈ lw_g := in_c1 37 rfl rfl
theorem it_8 : Cond.initialized RX8 ∈ lw_g := in_c1 3 rfl rfl
theorem in_7 : Cond.instantiable RX7 14 ∈ lw_g := in_c1 141 rfl rfl
theorem it_7 : Cond.initialized RX7 ∈ lw_g := in_c1 4 rfl rfl
theorem in_5 : Cond.instantiable RX5 2 ∈ lw_g := in_c1 147 rfl rfl
theorem it_5 : Cond.initialized RX5 ∈ lw_g := in_c1 5 rfl rfl
theorem in_2 : Cond.instantiable RX2 8 ∈ lw_g := in_c1 236 rfl rfl
theorem it_2 : Cond.initialized RX2 ∈ lw_g := in_c1 7 rfl rfl
theorem in_1 : Cond.instantiable RX1 3 ∈ lw_g := in_c2 73 rfl rfl
theorem it_1 : Cond.initialized RX1 ∈ lw_g := in_c1 8 rfl rfl
theorem in_3 : Cond.instantiable RX3 3 ∈ lw_g := in_c2 93 rfl rfl
theorem it_3 : Cond.initialized RX3 ∈ lw_g := in_c1 9 rfl rfl
theorem in_6 : Cond.instantiable RX6 13 ∈ lw_g := in_c2 99 rfl rfl
theorem it_6 : Cond.initialized RX6 ∈ lw_g := in_c1 10 rfl rfl
theorem in_0 : Cond.instantiable RX0 2 ∈ lw_g := in_c2 165 rfl rfl
theorem it_0 : Cond.initialized RX0 ∈ lw_g := in_c1 11 rfl rfl
theorem in_4 : Cond.instantiable RX4 11 ∈ lw_g := in_c2 178 rfl rfl
theorem it_4 : Cond.initialized RX4 ∈ lw_g := in_c1 12 rfl rfl
theorem in_11 : Cond.instantiable RX11 37 ∈ lw_g := in_c6 211 rfl rfl
theorem it_11 : Cond.initialized RX11 ∈ lw_g := in_c1 13 rfl rfl
theorem mi_10 : MWi yX10_init cX10_init 1 0 := ⟨in_c1 26 rfl rfl, in_c1 1 rfl rfl, in_c1 25 rfl rfl, rfl, by decide +kernel, by decide +kernel, by decide +kernel⟩
theorem mi_9 : MWi yX9_init cX9_init 1 0 := ⟨in_c1 34 rfl rfl, in_c1 2 rfl rfl, in_c1 33 rfl rfl, rfl, by decide +kernel, by decide +kernel, by decide +kernel⟩
theorem mi_8 : MWi yX8_init cX8_init 1 0 := ⟨in_c1 40 rfl rfl, in_c1 3 rfl rfl, in_c1 39 rfl rfl, rfl, by decide +kernel, by decide +kernel, by decide +kernel⟩
theorem mi_7 : MWi yX7_init cX7_init 1 0 := ⟨in_c1 144 rfl rfl, in_c1 4 rfl rfl, in_c1 143 rfl rfl, rfl, by decide +kernel, by decide +kernel, by decide +kernel⟩
theorem mi_5 : MWi yX5_init cX5_init 2 1 := ⟨in_c1 150 rfl rfl, in_c1 5 rfl rfl, in_c1 149 rfl rfl, rfl, by decide +kernel, by decide +kernel, by decide +kernel⟩
theorem mi_2 : MWi yX2_init cX2_init 1 0 := ⟨in_c1 239 rfl rfl, in_c1 7 rfl rfl, in_c1 238 rfl rfl, rfl, by decide +kernel, by decide +kernel, by decide +kernel⟩
theorem mi_1 : MWi yX1_init cX1_init 2 0 := ⟨in_c2 76 rfl rfl, in_c1 8 rfl rfl, in_c2 75 rfl rfl, rfl, by decide +kernel, by decide +kernel, by decide +kernel⟩
theorem mi_3 : MWi yX3_init cX3_init 1 0 := ⟨in_c2 96 rfl rfl, in_c1 9 rfl rfl, in_c2 95 rfl rfl, rfl, by decide +kernel, by decide +kernel, by decide +kernel⟩
theorem mi_6 : MWi yX6_init cX6_init 1 0 := ⟨in_c2 102 rfl rfl, in_c1 10 rfl rfl, in_c2 101 rfl rfl, rfl, by decide +kernel, by decide +kernel, by decide +kernel⟩
theorem mi_0 : MWi yX0_init cX0_init 2 1 := ⟨in_c2 168 rfl rfl, in_c1 11 rfl rfl, in_c2 167 rfl rfl, rfl, by decide +kernel, by decide +kernel, by decide +kernel⟩
theorem mi_4 : MWi yX4_init cX4_init 2 1 := ⟨in_c2 181 rfl rfl, in_c1 12 rfl rfl, in_c2 180 rfl rfl, rfl, by decide +kernel, by decide +kernel, by decide +kernel⟩
theorem mi_11 : MWi yX11_init cX11_init 1 0 := ⟨in_c6 214 rfl rfl, in_c1 13 rfl rfl, in_c6 213 rfl rfl, rfl, by decide +kernel, by decide +kernel, by decide +kernel⟩
def C8_init (t0 : Nat) (n : Nat) (rf : RF) (τ : Tau) : O3 :=
  cputI kdU lnU 8 19 t0 0 0 n rf τ fun n2 rf2 τ2 => cputI kdU lnU 8 19 t0 1 0 n2 rf2 τ2 fun n3 rf3 τ3 => cputI kdU lnU 8 19 t0 2 10 n3 rf3 τ3 fun n4 rf4 τ4 => cputI kdU lnU 8 19 t0 3 0 n4 rf4 τ4 fun n5 rf5 τ5 => cputI kdU lnU 8 19 t0 4 0 n5 rf5 τ5 fun n6 rf6 τ6 => cputI kdU lnU 8 19 t0 5 0 n6 rf6 τ6 fun n7 rf7 τ7 => cputI kdU lnU 8 19 t0 6 0 n7 rf7 τ7 fun n8 rf8 τ8 => cnewa kdU lnU 20 10 10 n8 rf8 τ8 fun n9 rf9 τ9 => cputR kdU lnU 8 19 t0 7 n8 n9 rf9 τ9 fun n10 rf10 τ10 => cnewa kdU lnU 20 10 10 n10 rf10 τ10 fun n11 rf11 τ11 => cputR kdU lnU 8 19 t0 8 n10 n11 rf11 τ11 fun n12 rf12 τ12 => cnewa kdU lnU 20 10 10 n12 rf12 τ12 fun n13 rf13 τ13 => cputR kdU lnU 8 19 t0 9 n12 n13 rf13 τ13 fun n14 rf14 τ14 => cnewa kdU lnU 20 10 10 n14 rf14 τ14 fun n15 rf15 τ15 => cputR kdU lnU 8 19 t0 10 n14 n15 rf15 τ15 fun n16 rf16 τ16 => cnewa kdU lnU 20 14 14 n16 rf16 τ16 fun n17 rf17 τ17 => cputR kdU lnU 8 19 t0 11 n16 n17 rf17 τ17 fun n18 rf18 τ18 => cnewa kdU lnU 20 14 14 n18 rf18 τ18 fun n19 rf19 τ19 => cputR kdU lnU 8 19 t0 12 n18 n19 rf19 τ19 fun n20 rf20 τ20 => cnewa kdU lnU 20 14 14 n20 rf20 τ20 fun n21 rf21 τ21 => cputR kdU lnU 8 19 t0 13 n20 n21 rf21 τ21 fun n22 rf22 τ22 => cnewa kdU lnU 20 14 14 n22 rf22 τ22 fun n23 rf23 τ23 => cputR kdU lnU 8 19 t0 14 n22 n23 rf23 τ23 fun n24 rf24 τ24 => cnewa kdU lnU 20 14 14 n24 rf24 τ24 fun n25 rf25 τ25 => cputR kdU lnU 8 19 t0 15 n24 n25 rf25 τ25 fun n26 rf26 τ26 => cnewa kdU lnU 20 14 14 n26 rf26 τ26 fun n27 rf27 τ27 => cputR kdU lnU 8 19 t0 16 n26 n27 rf27 τ27 fun n28 rf28 τ28 => cnewa kdU lnU 20 14 14 n28 rf28 τ28 fun n29 rf29 τ29 => cputR kdU lnU 8 19 t0 17 n28 n29 rf29 τ29 fun n30 rf30 τ30 => cnewa kdU lnU 20 112 112 n30 rf30 τ30 fun n31 rf31 τ31 => cputR kdU lnU 8 19 t0 18 n30 n31 rf31 τ31 fun n32 rf32 τ32 => some (n32, rf32, τ32)
set_option maxRecDepth 20000 in
set_option maxHeartbeats 4000000 in
theorem c_C8_init (t0 : Nat) (n : Nat) (rf : RF) (τ : Tau) (n' : Nat) (rf' : RF) (τ' : Tau) (h : C8_init t0 n rf τ = some (n', rf', τ')) : MCc kdU lnU yX8_init cX8_init 1 2 12 250 [.ref t0] n rf τ n' rf' τ' :=
  mcc_of (by decide +kernel) (Nat.le_of_ble_eq_true rfl) (fun K b C hr hnm hmc hms => by
    show Sc K b kdU lnU 1 (Qc K b kdU lnU 12 250) 0 0 (C8_init t0 n rf τ) 0 [(0, .ref t0)] [] n rf τ
    unfold C8_init
    refine sc_seg C [(.aload_n 0, 0)] (pc' := 1) (L' := [(0, .ref t0)]) (S' := [.ref t0]) (by decide +kernel) rfl ?_
    refine sc_obj C (by decide) il_8_3 ow_i ow_c (Nat.le_of_ble_eq_true rfl) (by decide +kernel) ?_
    refine sc_seg C [(.aload_n 0, 0), (.iconst 0, 0)] (pc' := 6) (L' := [(0, .ref t0)]) (S' := [.int 0, .ref t0]) (by decide +kernel) rfl ?_
    refine sc_putI 8 0 19 cls8 C (by decide) rfl rfl rfl fl8_9 (by decide +kernel) (fun n2 rf2 τ2 => ?_)
    refine sc_seg C [(.aload_n 0, 0), (.iconst 0, 0)] (pc' := 11) (L' := [(0, .ref t0)]) (S' := [.int 0, .ref t0]) (by decide +kernel) rfl ?_
    refine sc_putI 8 1 19 cls8 C (by decide) rfl rfl rfl fl8_15 (by decide +kernel) (fun n3 rf3 τ3 => ?_)
    refine sc_seg C [(.aload_n 0, 0), (.bipush 10, 10)] (pc' := 17) (L' := [(0, .ref t0)]) (S' := [.int 10, .ref t0]) (by decide +kernel) rfl ?_
    refine sc_putI 8 2 19 cls8 C (by decide) rfl rfl rfl fl8_18 (by decide +kernel) (fun n4 rf4 τ4 => ?_)
    refine sc_seg C [(.aload_n 0, 0), (.iconst 0, 0)] (pc' := 22) (L' := [(0, .ref t0)]) (S' := [.int 0, .ref t0]) (by decide +kernel) rfl ?_
    refine sc_putI 8 3 19 cls8 C (by decide) rfl rfl rfl fl8_21 (by decide +kernel) (fun n5 rf5 τ5 => ?_)
    refine sc_seg C [(.aload_n 0, 0), (.iconst 0, 0)] (pc' := 27) (L' := [(0, .ref t0)]) (S' := [.int 0, .ref t0]) (by decide +kernel) rfl ?_
    refine sc_putI 8 4 19 cls8 C (by decide) rfl rfl rfl fl8_24 (by decide +kernel) (fun n6 rf6 τ6 => ?_)
    refine sc_seg C [(.aload_n 0, 0), (.iconst 0, 0)] (pc' := 32) (L' := [(0, .ref t0)]) (S' := [.int 0, .ref t0]) (by decide +kernel) rfl ?_
    refine sc_putI 8 5 19 cls8 C (by decide) rfl rfl rfl fl8_27 (by decide +kernel) (fun n7 rf7 τ7 => ?_)
    refine sc_seg C [(.aload_n 0, 0), (.iconst 0, 0)] (pc' := 37) (L' := [(0, .ref t0)]) (S' := [.int 0, .ref t0]) (by decide +kernel) rfl ?_
    refine sc_putI 8 6 19 cls8 C (by decide) rfl rfl rfl fl8_30 (by decide +kernel) (fun n8 rf8 τ8 => ?_)
    refine sc_seg C [(.aload_n 0, 0), (.bipush 10, 10)] (pc' := 43) (L' := [(0, .ref t0)]) (S' := [.int 10, .ref t0]) (by decide +kernel) rfl ?_
    refine sc_newa 20 0 10 (atype := .int) rfl (fun _ => rfl) (by decide) (by decide) rfl (fun _ _ h => h) (by decide) C aw_int (by rw [hmc]; omega) (by rw [hms]; omega) (by decide +kernel) (fun n9 rf9 τ9 => ?_)
    refine sc_putR 8 7 19 n8 cls8 C (by decide) rfl hnm rfl (fun _ => rfl) (fun _ => rfl) fl8_33 (by decide +kernel) (fun n10 rf10 τ10 => ?_)
    refine sc_seg C [(.aload_n 0, 0), (.bipush 10, 10)] (pc' := 51) (L' := [(0, .ref t0)]) (S' := [.int 10, .ref t0]) (by decide +kernel) rfl ?_
    refine sc_newa 20 0 10 (atype := .int) rfl (fun _ => rfl) (by decide) (by decide) rfl (fun _ _ h => h) (by decide) C aw_int (by rw [hmc]; omega) (by rw [hms]; omega) (by decide +kernel) (fun n11 rf11 τ11 => ?_)
    refine sc_putR 8 8 19 n10 cls8 C (by decide) rfl hnm rfl (fun _ => rfl) (fun _ => rfl) fl8_37 (by decide +kernel) (fun n12 rf12 τ12 => ?_)
    refine sc_seg C [(.aload_n 0, 0), (.bipush 10, 10)] (pc' := 59) (L' := [(0, .ref t0)]) (S' := [.int 10, .ref t0]) (by decide +kernel) rfl ?_
    refine sc_newa 20 0 10 (atype := .int) rfl (fun _ => rfl) (by decide) (by decide) rfl (fun _ _ h => h) (by decide) C aw_int (by rw [hmc]; omega) (by rw [hms]; omega) (by decide +kernel) (fun n13 rf13 τ13 => ?_)
    refine sc_putR 8 9 19 n12 cls8 C (by decide) rfl hnm rfl (fun _ => rfl) (fun _ => rfl) fl8_40 (by decide +kernel) (fun n14 rf14 τ14 => ?_)
    refine sc_seg C [(.aload_n 0, 0), (.bipush 10, 10)] (pc' := 67) (L' := [(0, .ref t0)]) (S' := [.int 10, .ref t0]) (by decide +kernel) rfl ?_
    refine sc_newa 20 0 10 (atype := .int) rfl (fun _ => rfl) (by decide) (by decide) rfl (fun _ _ h => h) (by decide) C aw_int (by rw [hmc]; omega) (by rw [hms]; omega) (by decide +kernel) (fun n15 rf15 τ15 => ?_)
    refine sc_putR 8 10 19 n14 cls8 C (by decide) rfl hnm rfl (fun _ => rfl) (fun _ => rfl) fl8_43 (by decide +kernel) (fun n16 rf16 τ16 => ?_)
    refine sc_seg C [(.aload_n 0, 0), (.bipush 14, 14)] (pc' := 75) (L' := [(0, .ref t0)]) (S' := [.int 14, .ref t0]) (by decide +kernel) rfl ?_
    refine sc_newa 20 0 14 (atype := .int) rfl (fun _ => rfl) (by decide) (by decide) rfl (fun _ _ h => h) (by decide) C aw_int (by rw [hmc]; omega) (by rw [hms]; omega) (by decide +kernel) (fun n17 rf17 τ17 => ?_)
    refine sc_putR 8 11 19 n16 cls8 C (by decide) rfl hnm rfl (fun _ => rfl) (fun _ => rfl) fl8_46 (by decide +kernel) (fun n18 rf18 τ18 => ?_)
    refine sc_seg C [(.aload_n 0, 0), (.bipush 14, 14)] (pc' := 83) (L' := [(0, .ref t0)]) (S' := [.int 14, .ref t0]) (by decide +kernel) rfl ?_
    refine sc_newa 20 0 14 (atype := .int) rfl (fun _ => rfl) (by decide) (by decide) rfl (fun _ _ h => h) (by decide) C aw_int (by rw [hmc]; omega) (by rw [hms]; omega) (by decide +kernel) (fun n19 rf19 τ19 => ?_)
    refine sc_putR 8 12 19 n18 cls8 C (by decide) rfl hnm rfl (fun _ => rfl) (fun _ => rfl) fl8_49 (by decide +kernel) (fun n20 rf20 τ20 => ?_)
    refine sc_seg C [(.aload_n 0, 0), (.bipush 14, 14)] (pc' := 91) (L' := [(0, .ref t0)]) (S' := [.int 14, .ref t0]) (by decide +kernel) rfl ?_
    refine sc_newa 20 0 14 (atype := .int) rfl (fun _ => rfl) (by decide) (by decide) rfl (fun _ _ h => h) (by decide) C aw_int (by rw [hmc]; omega) (by rw [hms]; omega) (by decide +kernel) (fun n21 rf21 τ21 => ?_)
    refine sc_putR 8 13 19 n20 cls8 C (by decide) rfl hnm rfl (fun _ => rfl) (fun _ => rfl) fl8_52 (by decide +kernel) (fun n22 rf22 τ22 => ?_)
    refine sc_seg C [(.aload_n 0, 0), (.bipush 14, 14)] (pc' := 99) (L' := [(0, .ref t0)]) (S' := [.int 14, .ref t0]) (by decide +kernel) rfl ?_
    refine sc_newa 20 0 14 (atype := .int) rfl (fun _ => rfl) (by decide) (by decide) rfl (fun _ _ h => h) (by decide) C aw_int (by rw [hmc]; omega) (by rw [hms]; omega) (by decide +kernel) (fun n23 rf23 τ23 => ?_)
    refine sc_putR 8 14 19 n22 cls8 C (by decide) rfl hnm rfl (fun _ => rfl) (fun _ => rfl) fl8_55 (by decide +kernel) (fun n24 rf24 τ24 => ?_)
    refine sc_seg C [(.aload_n 0, 0), (.bipush 14, 14)] (pc' := 107) (L' := [(0, .ref t0)]) (S' := [.int 14, .ref t0]) (by decide +kernel) rfl ?_
    refine sc_newa 20 0 14 (atype := .int) rfl (fun _ => rfl) (by decide) (by decide) rfl (fun _ _ h => h) (by decide) C aw_int (by rw [hmc]; omega) (by rw [hms]; omega) (by decide +kernel) (fun n25 rf25 τ25 => ?_)
    refine sc_putR 8 15 19 n24 cls8 C (by decide) rfl hnm rfl (fun _ => rfl) (fun _ => rfl) fl8_58 (by decide +kernel) (fun n26 rf26 τ26 => ?_)
    refine sc_seg C [(.aload_n 0, 0), (.bipush 14, 14)] (pc' := 115) (L' := [(0, .ref t0)]) (S' := [.int 14, .ref t0]) (by decide +kernel) rfl ?_
    refine sc_newa 20 0 14 (atype := .int) rfl (fun _ => rfl) (by decide) (by decide) rfl (fun _ _ h => h) (by decide) C aw_int (by rw [hmc]; omega) (by rw [hms]; omega) (by decide +kernel) (fun n27 rf27 τ27 => ?_)
    refine sc_putR 8 16 19 n26 cls8 C (by decide) rfl hnm rfl (fun _ => rfl) (fun _ => rfl) fl8_61 (by decide +kernel) (fun n28 rf28 τ28 => ?_)
    refine sc_seg C [(.aload_n 0, 0), (.bipush 14, 14)] (pc' := 123) (L' := [(0, .ref t0)]) (S' := [.int 14, .ref t0]) (by decide +kernel) rfl ?_
    refine sc_newa 20 0 14 (atype := .int) rfl (fun _ => rfl) (by decide) (by decide) rfl (fun _ _ h => h) (by decide) C aw_int (by rw [hmc]; omega) (by rw [hms]; omega) (by decide +kernel) (fun n29 rf29 τ29 => ?_)
    refine sc_putR 8 17 19 n28 cls8 C (by decide) rfl hnm rfl (fun _ => rfl) (fun _ => rfl) fl8_64 (by decide +kernel) (fun n30 rf30 τ30 => ?_)
    refine sc_seg C [(.aload_n 0, 0), (.bipush 112, 112)] (pc' := 131) (L' := [(0, .ref t0)]) (S' := [.int 112, .ref t0]) (by decide +kernel) rfl ?_
    refine sc_newa 20 0 112 (atype := .int) rfl (fun _ => rfl) (by decide) (by decide) rfl (fun _ _ h => h) (by decide) C aw_int (by rw [hmc]; omega) (by rw [hms]; omega) (by decide +kernel) (fun n31 rf31 τ31 => ?_)
    refine sc_putR 8 18 19 n30 cls8 C (by decide) rfl hnm rfl (fun _ => rfl) (fun _ => rfl) fl8_67 (by decide +kernel) (fun n32 rf32 τ32 => ?_)
    exact sc_vret C hr (by decide +kernel)) h
def C5_init (t0 : Nat) (a1 : Int32) (m : Nat) (n : Nat) (rf : RF) (τ : Tau) : O3 :=
  cputI kdU lnU 5 2 t0 0 0 n rf τ fun n2 rf2 τ2 => cnewa kdU lnU 20 (imax 0 a1) m n2 rf2 τ2 fun n4 rf4 τ4 => cputR kdU lnU 5 2 t0 1 n2 n4 rf4 τ4 fun n5 rf5 τ5 => some (n5, rf5, τ5)
set_option maxRecDepth 20000 in
set_option maxHeartbeats 4000000 in
theorem c_C5_init (t0 : Nat) (a1 : Int32) (m : Nat) (n : Nat) (rf : RF) (τ : Tau) (hm : m ≤ 1000) (n' : Nat) (rf' : RF) (τ' : Tau) (h : C5_init t0 a1 m n rf τ = some (n', rf', τ')) : MCc kdU lnU yX5_init cX5_init 2 2 1 (0 + m) [.ref t0, .int a1] n rf τ n' rf' τ' :=
  mcc_of (by decide +kernel) (Nat.le_of_ble_eq_true rfl) (fun K b C hr hnm hmc hms => by
    show Sc K b kdU lnU 2 (Qc K b kdU lnU 1 (0 + m)) 0 0 (C5_init t0 a1 m n rf τ) 0 [(0, .ref t0), (1, .int a1)] [] n rf τ
    unfold C5_init
    refine sc_seg C [(.aload_n 0, 0)] (pc' := 1) (L' := [(0, .ref t0), (1, .int a1)]) (S' := [.ref t0]) (by decide +kernel) rfl ?_
    refine sc_obj C (by decide) il_5_3 ow_i ow_c (Nat.le_of_ble_eq_true rfl) (by decide +kernel) ?_
    refine sc_seg C [(.aload_n 0, 0), (.iconst 0, 0)] (pc' := 6) (L' := [(0, .ref t0), (1, .int a1)]) (S' := [.int 0, .ref t0]) (by decide +kernel) rfl ?_
    refine sc_putI 5 0 2 cls5 C (by decide) rfl rfl rfl fl5_9 (by decide +kernel) (fun n2 rf2 τ2 => ?_)
    refine sc_seg C [(.aload_n 0, 0), (.iconst 0, 0), (.iload_n 1, 0)] (pc' := 12) (L' := [(0, .ref t0), (1, .int a1)]) (S' := [.int a1, .int 0, .ref t0]) (by decide +kernel) rfl ?_
    refine sc_max C (by decide) ml_5_15 (by rw [hmc]; omega) (by rw [hms]; omega) (Nat.le_of_ble_eq_true rfl) (by decide +kernel) ?_
    refine sc_newa 20 0 m (atype := .int) rfl (fun _ => rfl) (by decide) (by decide) rfl (fun _ _ h => h) (by show m * 4 ≤ _; omega) C aw_int (by rw [hmc]; omega) (by rw [hms]; omega) (by decide +kernel) (fun n4 rf4 τ4 => ?_)
    refine sc_putR 5 1 2 n2 cls5 C (by decide) rfl hnm rfl (fun _ => rfl) (fun _ => rfl) fl5_21 (by decide +kernel) (fun n5 rf5 τ5 => ?_)
    exact sc_vret C hr (by decide +kernel)) h
def C7_init (t0 : Nat) (n : Nat) (rf : RF) (τ : Tau) : O3 :=
  cnew kdU lnU 5 2 (fun j => ([0, 1] : List Nat).getD j 0) n rf τ fun n2 rf2 τ2 => ccall (C5_init n 8 8 n2 rf2 τ2) fun n3 rf3 τ3 => cputR kdU lnU 7 14 t0 0 n n3 rf3 τ3 fun n4 rf4 τ4 => cnew kdU lnU 5 2 (fun j => ([0, 1] : List Nat).getD j 0) n4 rf4 τ4 fun n5 rf5 τ5 => ccall (C5_init n4 8 8 n5 rf5 τ5) fun n6 rf6 τ6 => cputR kdU lnU 7 14 t0 1 n4 n6 rf6 τ6 fun n7 rf7 τ7 => cnew kdU lnU 5 2 (fun j => ([0, 1] : List Nat).getD j 0) n7 rf7 τ7 fun n8 rf8 τ8 => ccall (C5_init n7 8 8 n8 rf8 τ8) fun n9 rf9 τ9 => cputR kdU lnU 7 14 t0 2 n7 n9 rf9 τ9 fun n10 rf10 τ10 => cnew kdU lnU 5 2 (fun j => ([0, 1] : List Nat).getD j 0) n10 rf10 τ10 fun n11 rf11 τ11 => ccall (C5_init n10 10 10 n11 rf11 τ11) fun n12 rf12 τ12 => cputR kdU lnU 7 14 t0 3 n10 n12 rf12 τ12 fun n13 rf13 τ13 => cnew kdU lnU 5 2 (fun j => ([0, 1] : List Nat).getD j 0) n13 rf13 τ13 fun n14 rf14 τ14 => ccall (C5_init n13 12 12 n14 rf14 τ14) fun n15 rf15 τ15 => cputR kdU lnU 7 14 t0 4 n13 n15 rf15 τ15 fun n16 rf16 τ16 => cnew kdU lnU 5 2 (fun j => ([0, 1] : List Nat).getD j 0) n16 rf16 τ16 fun n17 rf17 τ17 => ccall (C5_init n16 14 14 n17 rf17 τ17) fun n18 rf18 τ18 => cputR kdU lnU 7 14 t0 5 n16 n18 rf18 τ18 fun n19 rf19 τ19 => cnew kdU lnU 5 2 (fun j => ([0, 1] : List Nat).getD j 0) n19 rf19 τ19 fun n20 rf20 τ20 => ccall (C5_init n19 12 12 n20 rf20 τ20) fun n21 rf21 τ21 => cputR kdU lnU 7 14 t0 6 n19 n21 rf21 τ21 fun n22 rf22 τ22 => cnew kdU lnU 5 2 (fun j => ([0, 1] : List Nat).getD j 0) n22 rf22 τ22 fun n23 rf23 τ23 => ccall (C5_init n22 12 12 n23 rf23 τ23) fun n24 rf24 τ24 => cputR kdU lnU 7 14 t0 7 n22 n24 rf24 τ24 fun n25 rf25 τ25 => cnew kdU lnU 5 2 (fun j => ([0, 1] : List Nat).getD j 0) n25 rf25 τ25 fun n26 rf26 τ26 => ccall (C5_init n25 6 6 n26 rf26 τ26) fun n27 rf27 τ27 => cputR kdU lnU 7 14 t0 8 n25 n27 rf27 τ27 fun n28 rf28 τ28 => cnewa kdU lnU 20 12 12 n28 rf28 τ28 fun n29 rf29 τ29 => cputR kdU lnU 7 14 t0 9 n28 n29 rf29 τ29 fun n30 rf30 τ30 => cnewa kdU lnU 20 9 9 n30 rf30 τ30 fun n31 rf31 τ31 => cputR kdU lnU 7 14 t0 10 n30 n31 rf31 τ31 fun n32 rf32 τ32 => cnewa kdU lnU 20 9 9 n32 rf32 τ32 fun n33 rf33 τ33 => cputR kdU lnU 7 14 t0 11 n32 n33 rf33 τ33 fun n34 rf34 τ34 => cnewa kdU lnU 20 36 36 n34 rf34 τ34 fun n35 rf35 τ35 => cputR kdU lnU 7 14 t0 12 n34 n35 rf35 τ35 fun n36 rf36 τ36 => cnewa kdU lnU 20 8 8 n36 rf36 τ36 fun n37 rf37 τ37 => cputR kdU lnU 7 14 t0 13 n36 n37 rf37 τ37 fun n38 rf38 τ38 => some (n38, rf38, τ38)
set_option maxRecDepth 20000 in
set_option maxHeartbeats 4000000 in
theorem c_C7_init (t0 : Nat) (n : Nat) (rf : RF) (τ : Tau) (n' : Nat) (rf' : RF) (τ' : Tau) (h : C7_init t0 n rf τ = some (n', rf', τ')) : MCc kdU lnU yX7_init cX7_init 1 3 23 182 [.ref t0] n rf τ n' rf' τ' :=
  mcc_of (by decide +kernel) (Nat.le_of_ble_eq_true rfl) (fun K b C hr hnm hmc hms => by
    show Sc K b kdU lnU 1 (Qc K b kdU lnU 23 182) 0 0 (C7_init t0 n rf τ) 0 [(0, .ref t0)] [] n rf τ
    unfold C7_init
    refine sc_seg C [(.aload_n 0, 0)] (pc' := 1) (L' := [(0, .ref t0)]) (S' := [.ref t0]) (by decide +kernel) rfl ?_
    refine sc_obj C (by decide) il_7_3 ow_i ow_c (Nat.le_of_ble_eq_true rfl) (by decide +kernel) ?_
    refine sc_seg C [(.aload_n 0, 0)] (pc' := 5) (L' := [(0, .ref t0)]) (S' := [.ref t0]) (by decide +kernel) rfl ?_
    refine sc_new 5 2 cls5 C kl_7_9 in_5 it_5 (by decide +kernel) (by rw [hmc]; omega) (by rw [hms]; omega) (by decide +kernel) (fun n2 rf2 τ2 => ?_)
    refine sc_seg C [(.dup, 0), (.bipush 8, 8)] (pc' := 11) (L' := [(0, .ref t0)]) (S' := [.int 8, .ref n, .ref n, .ref t0]) (by decide +kernel) rfl ?_
    refine sc_ctor [.int 8] [.ref n, .ref t0] rfl C mi_5 il_7_11 rfl ⟨by decide, by decide⟩ (Nat.le_of_ble_eq_true rfl) (mc := 1) (ms := 8) (by rw [hmc]; omega) (by rw [hms]; omega) (by decide +kernel) (c_C5_init n 8 8 n2 rf2 τ2 (by decide)) (fun n3 rf3 τ3 => ?_)
    refine sc_putR 7 0 14 n cls7 C (by decide) rfl hnm rfl (fun _ => rfl) (fun _ => rfl) fl7_14 (by decide +kernel) (fun n4 rf4 τ4 => ?_)
    refine sc_seg C [(.aload_n 0, 0)] (pc' := 18) (L' := [(0, .ref t0)]) (S' := [.ref t0]) (by decide +kernel) rfl ?_
    refine sc_new 5 2 cls5 C kl_7_9 in_5 it_5 (by decide +kernel) (by rw [hmc]; omega) (by rw [hms]; omega) (by decide +kernel) (fun n5 rf5 τ5 => ?_)
    refine sc_seg C [(.dup, 0), (.bipush 8, 8)] (pc' := 24) (L' := [(0, .ref t0)]) (S' := [.int 8, .ref n4, .ref n4, .ref t0]) (by decide +kernel) rfl ?_
    refine sc_ctor [.int 8] [.ref n4, .ref t0] rfl C mi_5 il_7_11 rfl ⟨by decide, by decide⟩ (Nat.le_of_ble_eq_true rfl) (mc := 1) (ms := 8) (by rw [hmc]; omega) (by rw [hms]; omega) (by decide +kernel) (c_C5_init n4 8 8 n5 rf5 τ5 (by decide)) (fun n6 rf6 τ6 => ?_)
    refine sc_putR 7 1 14 n4 cls7 C (by decide) rfl hnm rfl (fun _ => rfl) (fun _ => rfl) fl7_20 (by decide +kernel) (fun n7 rf7 τ7 => ?_)
    refine sc_seg C [(.aload_n 0, 0)] (pc' := 31) (L' := [(0, .ref t0)]) (S' := [.ref t0]) (by decide +kernel) rfl ?_
    refine sc_new 5 2 cls5 C kl_7_9 in_5 it_5 (by decide +kernel) (by rw [hmc]; omega) (by rw [hms]; omega) (by decide +kernel) (fun n8 rf8 τ8 => ?_)
    refine sc_seg C [(.dup, 0), (.bipush 8, 8)] (pc' := 37) (L' := [(0, .ref t0)]) (S' := [.int 8, .ref n7, .ref n7, .ref t0]) (by decide +kernel) rfl ?_
    refine sc_ctor [.int 8] [.ref n7, .ref t0] rfl C mi_5 il_7_11 rfl ⟨by decide, by decide⟩ (Nat.le_of_ble_eq_true rfl) (mc := 1) (ms := 8) (by rw [hmc]; omega) (by rw [hms]; omega) (by decide +kernel) (c_C5_init n7 8 8 n8 rf8 τ8 (by decide)) (fun n9 rf9 τ9 => ?_)
    refine sc_putR 7 2 14 n7 cls7 C (by decide) rfl hnm rfl (fun _ => rfl) (fun _ => rfl) fl7_23 (by decide +kernel) (fun n10 rf10 τ10 => ?_)
    refine sc_seg C [(.aload_n 0, 0)] (pc' := 44) (L' := [(0, .ref t0)]) (S' := [.ref t0]) (by decide +kernel) rfl ?_
    refine sc_new 5 2 cls5 C kl_7_9 in_5 it_5 (by decide +kernel) (by rw [hmc]; omega) (by rw [hms]; omega) (by decide +kernel) (fun n11 rf11 τ11 => ?_)
    refine sc_seg C [(.dup, 0), (.bipush 10, 10)] (pc' := 50) (L' := [(0, .ref t0)]) (S' := [.int 10, .ref n10, .ref n10, .ref t0]) (by decide +kernel) rfl ?_
    refine sc_ctor [.int 10] [.ref n10, .ref t0] rfl C mi_5 il_7_11 rfl ⟨by decide, by decide⟩ (Nat.le_of_ble_eq_true rfl) (mc := 1) (ms := 10) (by rw [hmc]; omega) (by rw [hms]; omega) (by decide +kernel) (c_C5_init n10 10 10 n11 rf11 τ11 (by decide)) (fun n12 rf12 τ12 => ?_)
    refine sc_putR 7 3 14 n10 cls7 C (by decide) rfl hnm rfl (fun _ => rfl) (fun _ => rfl) fl7_26 (by decide +kernel) (fun n13 rf13 τ13 => ?_)
    refine sc_seg C [(.aload_n 0, 0)] (pc' := 57) (L' := [(0, .ref t0)]) (S' := [.ref t0]) (by decide +kernel) rfl ?_
    refine sc_new 5 2 cls5 C kl_7_9 in_5 it_5 (by decide +kernel) (by rw [hmc]; omega) (by rw [hms]; omega) (by decide +kernel) (fun n14 rf14 τ14 => ?_)
    refine sc_seg C [(.dup, 0), (.bipush 12, 12)] (pc' := 63) (L' := [(0, .ref t0)]) (S' := [.int 12, .ref n13, .ref n13, .ref t0]) (by decide +kernel) rfl ?_
    refine sc_ctor [.int 12] [.ref n13, .ref t0] rfl C mi_5 il_7_11 rfl ⟨by decide, by decide⟩ (Nat.le_of_ble_eq_true rfl) (mc := 1) (ms := 12) (by rw [hmc]; omega) (by rw [hms]; omega) (by decide +kernel) (c_C5_init n13 12 12 n14 rf14 τ14 (by decide)) (fun n15 rf15 τ15 => ?_)
    refine sc_putR 7 4 14 n13 cls7 C (by decide) rfl hnm rfl (fun _ => rfl) (fun _ => rfl) fl7_29 (by decide +kernel) (fun n16 rf16 τ16 => ?_)
    refine sc_seg C [(.aload_n 0, 0)] (pc' := 70) (L' := [(0, .ref t0)]) (S' := [.ref t0]) (by decide +kernel) rfl ?_
    refine sc_new 5 2 cls5 C kl_7_9 in_5 it_5 (by decide +kernel) (by rw [hmc]; omega) (by rw [hms]; omega) (by decide +kernel) (fun n17 rf17 τ17 => ?_)
    refine sc_seg C [(.dup, 0), (.bipush 14, 14)] (pc' := 76) (L' := [(0, .ref t0)]) (S' := [.int 14, .ref n16, .ref n16, .ref t0]) (by decide +kernel) rfl ?_
    refine sc_ctor [.int 14] [.ref n16, .ref t0] rfl C mi_5 il_7_11 rfl ⟨by decide, by decide⟩ (Nat.le_of_ble_eq_true rfl) (mc := 1) (ms := 14) (by rw [hmc]; omega) (by rw [hms]; omega) (by decide +kernel) (c_C5_init n16 14 14 n17 rf17 τ17 (by decide)) (fun n18 rf18 τ18 => ?_)
    refine sc_putR 7 5 14 n16 cls7 C (by decide) rfl hnm rfl (fun _ => rfl) (fun _ => rfl) fl7_32 (by decide +kernel) (fun n19 rf19 τ19 => ?_)
    refine sc_seg C [(.aload_n 0, 0)] (pc' := 83) (L' := [(0, .ref t0)]) (S' := [.ref t0]) (by decide +kernel) rfl ?_
    refine sc_new 5 2 cls5 C kl_7_9 in_5 it_5 (by decide +kernel) (by rw [hmc]; omega) (by rw [hms]; omega) (by decide +kernel) (fun n20 rf20 τ20 => ?_)
    refine sc_seg C [(.dup, 0), (.bipush 12, 12)] (pc' := 89) (L' := [(0, .ref t0)]) (S' := [.int 12, .ref n19, .ref n19, .ref t0]) (by decide +kernel) rfl ?_
    refine sc_ctor [.int 12] [.ref n19, .ref t0] rfl C mi_5 il_7_11 rfl ⟨by decide, by decide⟩ (Nat.le_of_ble_eq_true rfl) (mc := 1) (ms := 12) (by rw [hmc]; omega) (by rw [hms]; omega) (by decide +kernel) (c_C5_init n19 12 12 n20 rf20 τ20 (by decide)) (fun n21 rf21 τ21 => ?_)
    refine sc_putR 7 6 14 n19 cls7 C (by decide) rfl hnm rfl (fun _ => rfl) (fun _ => rfl) fl7_35 (by decide +kernel) (fun n22 rf22 τ22 => ?_)
    refine sc_seg C [(.aload_n 0, 0)] (pc' := 96) (L' := [(0, .ref t0)]) (S' := [.ref t0]) (by decide +kernel) rfl ?_
    refine sc_new 5 2 cls5 C kl_7_9 in_5 it_5 (by decide +kernel) (by rw [hmc]; omega) (by rw [hms]; omega) (by decide +kernel) (fun n23 rf23 τ23 => ?_)
    refine sc_seg C [(.dup, 0), (.bipush 12, 12)] (pc' := 102) (L' := [(0, .ref t0)]) (S' := [.int 12, .ref n22, .ref n22, .ref t0]) (by decide +kernel) rfl ?_
    refine sc_ctor [.int 12] [.ref n22, .ref t0] rfl C mi_5 il_7_11 rfl ⟨by decide, by decide⟩ (Nat.le_of_ble_eq_true rfl) (mc := 1) (ms := 12) (by rw [hmc]; omega) (by rw [hms]; omega) (by decide +kernel) (c_C5_init n22 12 12 n23 rf23 τ23 (by decide)) (fun n24 rf24 τ24 => ?_)
    refine sc_putR 7 7 14 n22 cls7 C (by decide) rfl hnm rfl (fun _ => rfl) (fun _ => rfl) fl7_38 (by decide +kernel) (fun n25 rf25 τ25 => ?_)
    refine sc_seg C [(.aload_n 0, 0)] (pc' := 109) (L' := [(0, .ref t0)]) (S' := [.ref t0]) (by decide +kernel) rfl ?_
    refine sc_new 5 2 cls5 C kl_7_9 in_5 it_5 (by decide +kernel) (by rw [hmc]; omega) (by rw [hms]; omega) (by decide +kernel) (fun n26 rf26 τ26 => ?_)
    refine sc_seg C [(.dup, 0), (.bipush 6, 6)] (pc' := 115) (L' := [(0, .ref t0)]) (S' := [.int 6, .ref n25, .ref n25, .ref t0]) (by decide +kernel) rfl ?_
    refine sc_ctor [.int 6] [.ref n25, .ref t0] rfl C mi_5 il_7_11 rfl ⟨by decide, by decide⟩ (Nat.le_of_ble_eq_true rfl) (mc := 1) (ms := 6) (by rw [hmc]; omega) (by rw [hms]; omega) (by decide +kernel) (c_C5_init n25 6 6 n26 rf26 τ26 (by decide)) (fun n27 rf27 τ27 => ?_)
    refine sc_putR 7 8 14 n25 cls7 C (by decide) rfl hnm rfl (fun _ => rfl) (fun _ => rfl) fl7_41 (by decide +kernel) (fun n28 rf28 τ28 => ?_)
    refine sc_seg C [(.aload_n 0, 0), (.bipush 12, 12)] (pc' := 124) (L' := [(0, .ref t0)]) (S' := [.int 12, .ref t0]) (by decide +kernel) rfl ?_
    refine sc_newa 20 0 12 (atype := .int) rfl (fun _ => rfl) (by decide) (by decide) rfl (fun _ _ h => h) (by decide) C aw_int (by rw [hmc]; omega) (by rw [hms]; omega) (by decide +kernel) (fun n29 rf29 τ29 => ?_)
    refine sc_putR 7 9 14 n28 cls7 C (by decide) rfl hnm rfl (fun _ => rfl) (fun _ => rfl) fl7_44 (by decide +kernel) (fun n30 rf30 τ30 => ?_)
    refine sc_seg C [(.aload_n 0, 0), (.bipush 9, 9)] (pc' := 132) (L' := [(0, .ref t0)]) (S' := [.int 9, .ref t0]) (by decide +kernel) rfl ?_
    refine sc_newa 20 0 9 (atype := .int) rfl (fun _ => rfl) (by decide) (by decide) rfl (fun _ _ h => h) (by decide) C aw_int (by rw [hmc]; omega) (by rw [hms]; omega) (by decide +kernel) (fun n31 rf31 τ31 => ?_)
    refine sc_putR 7 10 14 n30 cls7 C (by decide) rfl hnm rfl (fun _ => rfl) (fun _ => rfl) fl7_48 (by decide +kernel) (fun n32 rf32 τ32 => ?_)
    refine sc_seg C [(.aload_n 0, 0), (.bipush 9, 9)] (pc' := 140) (L' := [(0, .ref t0)]) (S' := [.int 9, .ref t0]) (by decide +kernel) rfl ?_
    refine sc_newa 20 0 9 (atype := .int) rfl (fun _ => rfl) (by decide) (by decide) rfl (fun _ _ h => h) (by decide) C aw_int (by rw [hmc]; omega) (by rw [hms]; omega) (by decide +kernel) (fun n33 rf33 τ33 => ?_)
    refine sc_putR 7 11 14 n32 cls7 C (by decide) rfl hnm rfl (fun _ => rfl) (fun _ => rfl) fl7_51 (by decide +kernel) (fun n34 rf34 τ34 => ?_)
    refine sc_seg C [(.aload_n 0, 0), (.bipush 36, 36)] (pc' := 148) (L' := [(0, .ref t0)]) (S' := [.int 36, .ref t0]) (by decide +kernel) rfl ?_
    refine sc_newa 20 0 36 (atype := .int) rfl (fun _ => rfl) (by decide) (by decide) rfl (fun _ _ h => h) (by decide) C aw_int (by rw [hmc]; omega) (by rw [hms]; omega) (by decide +kernel) (fun n35 rf35 τ35 => ?_)
    refine sc_putR 7 12 14 n34 cls7 C (by decide) rfl hnm rfl (fun _ => rfl) (fun _ => rfl) fl7_54 (by decide +kernel) (fun n36 rf36 τ36 => ?_)
    refine sc_seg C [(.aload_n 0, 0), (.bipush 8, 8)] (pc' := 156) (L' := [(0, .ref t0)]) (S' := [.int 8, .ref t0]) (by decide +kernel) rfl ?_
    refine sc_newa 20 0 8 (atype := .int) rfl (fun _ => rfl) (by decide) (by decide) rfl (fun _ _ h => h) (by decide) C aw_int (by rw [hmc]; omega) (by rw [hms]; omega) (by decide +kernel) (fun n37 rf37 τ37 => ?_)
    refine sc_putR 7 13 14 n36 cls7 C (by decide) rfl hnm rfl (fun _ => rfl) (fun _ => rfl) fl7_57 (by decide +kernel) (fun n38 rf38 τ38 => ?_)
    exact sc_vret C hr (by decide +kernel)) h
def C2_init (t0 : Nat) (n : Nat) (rf : RF) (τ : Tau) : O3 :=
  cputI kdU lnU 2 8 t0 0 0 n rf τ fun n2 rf2 τ2 => cputI kdU lnU 2 8 t0 1 0 n2 rf2 τ2 fun n3 rf3 τ3 => cnewa kdU lnU 20 16 16 n3 rf3 τ3 fun n4 rf4 τ4 => cputR kdU lnU 2 8 t0 2 n3 n4 rf4 τ4 fun n5 rf5 τ5 => cnewa kdU lnU 20 16 16 n5 rf5 τ5 fun n6 rf6 τ6 => cputR kdU lnU 2 8 t0 3 n5 n6 rf6 τ6 fun n7 rf7 τ7 => cnewa kdU lnU 20 16 16 n7 rf7 τ7 fun n8 rf8 τ8 => cputR kdU lnU 2 8 t0 4 n7 n8 rf8 τ8 fun n9 rf9 τ9 => cnewa kdU lnU 20 16 16 n9 rf9 τ9 fun n10 rf10 τ10 => cputR kdU lnU 2 8 t0 5 n9 n10 rf10 τ10 fun n11 rf11 τ11 => cnewa kdU lnU 20 400 400 n11 rf11 τ11 fun n12 rf12 τ12 => cputR kdU lnU 2 8 t0 6 n11 n12 rf12 τ12 fun n13 rf13 τ13 => cnewa kdU lnU 20 32 32 n13 rf13 τ13 fun n14 rf14 τ14 => cputR kdU lnU 2 8 t0 7 n13 n14 rf14 τ14 fun n15 rf15 τ15 => some (n15, rf15, τ15)
set_option maxRecDepth 20000 in
set_option maxHeartbeats 4000000 in
theorem c_C2_init (t0 : Nat) (n : Nat) (rf : RF) (τ : Tau) (n' : Nat) (rf' : RF) (τ' : Tau) (h : C2_init t0 n rf τ = some (n', rf', τ')) : MCc kdU lnU yX2_init cX2_init 1 2 6 496 [.ref t0] n rf τ n' rf' τ' :=
  mcc_of (by decide +kernel) (Nat.le_of_ble_eq_true rfl) (fun K b C hr hnm hmc hms => by
    show Sc K b kdU lnU 1 (Qc K b kdU lnU 6 496) 0 0 (C2_init t0 n rf τ) 0 [(0, .ref t0)] [] n rf τ
    unfold C2_init
    refine sc_seg C [(.aload_n 0, 0)] (pc' := 1) (L' := [(0, .ref t0)]) (S' := [.ref t0]) (by decide +kernel) rfl ?_
    refine sc_obj C (by decide) il_2_3 ow_i ow_c (Nat.le_of_ble_eq_true rfl) (by decide +kernel) ?_
    refine sc_seg C [(.aload_n 0, 0), (.iconst 0, 0)] (pc' := 6) (L' := [(0, .ref t0)]) (S' := [.int 0, .ref t0]) (by decide +kernel) rfl ?_
    refine sc_putI 2 0 8 cls2 C (by decide) rfl rfl rfl fl2_9 (by decide +kernel) (fun n2 rf2 τ2 => ?_)
    refine sc_seg C [(.aload_n 0, 0), (.iconst 0, 0)] (pc' := 11) (L' := [(0, .ref t0)]) (S' := [.int 0, .ref t0]) (by decide +kernel) rfl ?_
    refine sc_putI 2 1 8 cls2 C (by decide) rfl rfl rfl fl2_15 (by decide +kernel) (fun n3 rf3 τ3 => ?_)
    refine sc_seg C [(.aload_n 0, 0), (.bipush 16, 16)] (pc' := 17) (L' := [(0, .ref t0)]) (S' := [.int 16, .ref t0]) (by decide +kernel) rfl ?_
    refine sc_newa 20 0 16 (atype := .int) rfl (fun _ => rfl) (by decide) (by decide) rfl (fun _ _ h => h) (by decide) C aw_int (by rw [hmc]; omega) (by rw [hms]; omega) (by decide +kernel) (fun n4 rf4 τ4 => ?_)
    refine sc_putR 2 2 8 n3 cls2 C (by decide) rfl hnm rfl (fun _ => rfl) (fun _ => rfl) fl2_18 (by decide +kernel) (fun n5 rf5 τ5 => ?_)
    refine sc_seg C [(.aload_n 0, 0), (.bipush 16, 16)] (pc' := 25) (L' := [(0, .ref t0)]) (S' := [.int 16, .ref t0]) (by decide +kernel) rfl ?_
    refine sc_newa 20 0 16 (atype := .int) rfl (fun _ => rfl) (by decide) (by decide) rfl (fun _ _ h => h) (by decide) C aw_int (by rw [hmc]; omega) (by rw [hms]; omega) (by decide +kernel) (fun n6 rf6 τ6 => ?_)
    refine sc_putR 2 3 8 n5 cls2 C (by decide) rfl hnm rfl (fun _ => rfl) (fun _ => rfl) fl2_22 (by decide +kernel) (fun n7 rf7 τ7 => ?_)
    refine sc_seg C [(.aload_n 0, 0), (.bipush 16, 16)] (pc' := 33) (L' := [(0, .ref t0)]) (S' := [.int 16, .ref t0]) (by decide +kernel) rfl ?_
    refine sc_newa 20 0 16 (atype := .int) rfl (fun _ => rfl) (by decide) (by decide) rfl (fun _ _ h => h) (by decide) C aw_int (by rw [hmc]; omega) (by rw [hms]; omega) (by decide +kernel) (fun n8 rf8 τ8 => ?_)
    refine sc_putR 2 4 8 n7 cls2 C (by decide) rfl hnm rfl (fun _ => rfl) (fun _ => rfl) fl2_25 (by decide +kernel) (fun n9 rf9 τ9 => ?_)
    refine sc_seg C [(.aload_n 0, 0), (.bipush 16, 16)] (pc' := 41) (L' := [(0, .ref t0)]) (S' := [.int 16, .ref t0]) (by decide +kernel) rfl ?_
    refine sc_newa 20 0 16 (atype := .int) rfl (fun _ => rfl) (by decide) (by decide) rfl (fun _ _ h => h) (by decide) C aw_int (by rw [hmc]; omega) (by rw [hms]; omega) (by decide +kernel) (fun n10 rf10 τ10 => ?_)
    refine sc_putR 2 5 8 n9 cls2 C (by decide) rfl hnm rfl (fun _ => rfl) (fun _ => rfl) fl2_28 (by decide +kernel) (fun n11 rf11 τ11 => ?_)
    refine sc_seg C [(.aload_n 0, 0), (.sipush 400, 400)] (pc' := 50) (L' := [(0, .ref t0)]) (S' := [.int 400, .ref t0]) (by decide +kernel) rfl ?_
    refine sc_newa 20 0 400 (atype := .int) rfl (fun _ => rfl) (by decide) (by decide) rfl (fun _ _ h => h) (by decide) C aw_int (by rw [hmc]; omega) (by rw [hms]; omega) (by decide +kernel) (fun n12 rf12 τ12 => ?_)
    refine sc_putR 2 6 8 n11 cls2 C (by decide) rfl hnm rfl (fun _ => rfl) (fun _ => rfl) fl2_31 (by decide +kernel) (fun n13 rf13 τ13 => ?_)
    refine sc_seg C [(.aload_n 0, 0), (.bipush 32, 32)] (pc' := 58) (L' := [(0, .ref t0)]) (S' := [.int 32, .ref t0]) (by decide +kernel) rfl ?_
    refine sc_newa 20 0 32 (atype := .int) rfl (fun _ => rfl) (by decide) (by decide) rfl (fun _ _ h => h) (by decide) C aw_int (by rw [hmc]; omega) (by rw [hms]; omega) (by decide +kernel) (fun n14 rf14 τ14 => ?_)
    refine sc_putR 2 7 8 n13 cls2 C (by decide) rfl hnm rfl (fun _ => rfl) (fun _ => rfl) fl2_34 (by decide +kernel) (fun n15 rf15 τ15 => ?_)
    exact sc_vret C hr (by decide +kernel)) h
def C9_letThingsSayThemselves_L (t0 : Nat) : Nat → Int32 → Nat → RF → Tau → O3
  | 0, _, _, _, _ => none
  | k + 1, a1, n, rf, τ =>
    cgetR kdU lnU 9 9 t0 5 (t0 + 47) n rf τ (if (t0 + 47) < n ∧ kdU (t0 + 47) = 20 ∧ lnU (t0 + 47) = 120 then (if (120 : Int32) ≤ a1 then (some (n, rf, τ)) else (cgetR kdU lnU 9 9 t0 5 (t0 + 47) n rf τ (casti kdU lnU (t0 + 47) 120 a1 (rmd a1 12) n rf τ fun n7 rf7 τ7 => C9_letThingsSayThemselves_L t0 k (a1 + 1) n7 rf7 τ7))) else none)
theorem s_C9_letThingsSayThemselves_L {K : Ctx} {b : Nat} (C : Cc K b RX9 cX9_letThingsSayThemselves 2 2) (hr : Rt K none) (hmc : K.2.2.2.1.cells = 0) (hms : K.2.2.2.1.slots = 0) (t0 : Nat) : ∀ (k : Nat) (a1 : Int32) (n : Nat) (rf : RF) (τ : Tau), Sc K b kdU lnU 2 (Qc K b kdU lnU 0 0) 0 0 (C9_letThingsSayThemselves_L t0 k a1 n rf τ) 2 [(0, .ref t0), (1, .int a1)] [] n rf τ := by
  intro k
  induction k with
  | zero => intro a1 n rf τ; exact sc_none
  | succ k ih =>
    intro a1 n rf τ
    rw [C9_letThingsSayThemselves_L]
    refine sc_seg C [(.iload_n 1, 0), (.aload_n 0, 0)] (pc' := 4) (L' := [(0, .ref t0), (1, .int a1)]) (S' := [.ref t0, .int a1]) (by decide +kernel) rfl ?_
    refine sc_getR 9 5 9 (t0 + 47) cls9 C (by decide) fl9_39 (by decide +kernel) ?_
    refine sc_alen 20 0 120 (fun _ => rfl) (by decide) (by decide) rfl C (by decide +kernel) ?_
    refine sc_icmpge 27 (off := 19) C (by decide +kernel) (by decide) (fun _ => ?_) (fun _ => ?_)
    · exact sc_vret C hr (by decide +kernel)
    · refine sc_seg C [(.aload_n 0, 0)] (pc' := 12) (L' := [(0, .ref t0), (1, .int a1)]) (S' := [.ref t0]) (by decide +kernel) rfl ?_
      refine sc_getR 9 5 9 (t0 + 47) cls9 C (by decide) fl9_39 (by decide +kernel) ?_
      refine sc_seg C [(.iload_n 1, 0), (.iload_n 1, 0), (.bipush 12, 12)] (pc' := 19) (L' := [(0, .ref t0), (1, .int a1)]) (S' := [.int 12, .int a1, .int a1, .ref (t0 + 47)]) (by decide +kernel) rfl ?_
      refine sc_irem C (by decide +kernel) (by decide) ?_
      refine sc_iast 120 C (by decide +kernel) (fun n7 rf7 τ7 => ?_)
      refine sc_seg C [(.iinc 1 1, 1), (.goto (-22), 0)] (pc' := 2) (L' := [(1, .int (a1 + 1)), (0, .ref t0)]) (S' := []) (by decide +kernel) rfl ?_
      exact sc_sub [1, 0] rfl (ih (a1 + 1) n7 rf7 τ7)
def C9_letThingsSayThemselves (t0 : Nat) (n : Nat) (rf : RF) (τ : Tau) : O3 :=
  C9_letThingsSayThemselves_L t0 1000 0 n rf τ
set_option maxRecDepth 20000 in
set_option maxHeartbeats 4000000 in
theorem c_C9_letThingsSayThemselves (t0 : Nat) (n : Nat) (rf : RF) (τ : Tau) (n' : Nat) (rf' : RF) (τ' : Tau) (h : C9_letThingsSayThemselves t0 n rf τ = some (n', rf', τ')) : MCc kdU lnU yX9_letThingsSayThemselves cX9_letThingsSayThemselves 2 2 0 0 [.ref t0] n rf τ n' rf' τ' :=
  mcc_of (by decide +kernel) (Nat.le_of_ble_eq_true rfl) (fun K b C hr hnm hmc hms => by
    show Sc K b kdU lnU 2 (Qc K b kdU lnU 0 0) 0 0 (C9_letThingsSayThemselves t0 n rf τ) 0 [(0, .ref t0)] [] n rf τ
    unfold C9_letThingsSayThemselves
    refine sc_seg C [(.iconst 0, 0), (.istore_n 1, 0)] (pc' := 2) (L' := [(1, .int 0), (0, .ref t0)]) (S' := []) (by decide +kernel) rfl ?_
    exact sc_sub [1, 0] rfl (s_C9_letThingsSayThemselves_L C hr hmc hms t0 1000 0 n rf τ)) h
def C9_init (t0 : Nat) (n : Nat) (rf : RF) (τ : Tau) : O3 :=
  cnew kdU lnU 8 19 (fun j => ([0, 0, 0, 0, 0, 0, 0, 1, 1, 1, 1, 1, 1, 1, 1, 1, 1, 1, 1] : List Nat).getD j 0) n rf τ fun n2 rf2 τ2 => ccall (C8_init n n2 rf2 τ2) fun n3 rf3 τ3 => cputR kdU lnU 9 9 t0 0 n n3 rf3 τ3 fun n4 rf4 τ4 => cnew kdU lnU 7 14 (fun j => ([1, 1, 1, 1, 1, 1, 1, 1, 1, 1, 1, 1, 1, 1] : List Nat).getD j 0) n4 rf4 τ4 fun n5 rf5 τ5 => ccall (C7_init n4 n5 rf5 τ5) fun n6 rf6 τ6 => cputR kdU lnU 9 9 t0 1 n4 n6 rf6 τ6 fun n7 rf7 τ7 => cnew kdU lnU 2 8 (fun j => ([0, 0, 1, 1, 1, 1, 1, 1] : List Nat).getD j 0) n7 rf7 τ7 fun n8 rf8 τ8 => ccall (C2_init n7 n8 rf8 τ8) fun n9 rf9 τ9 => cputR kdU lnU 9 9 t0 2 n7 n9 rf9 τ9 fun n10 rf10 τ10 => cnewa kdU lnU 20 600 600 n10 rf10 τ10 fun n11 rf11 τ11 => cputR kdU lnU 9 9 t0 3 n10 n11 rf11 τ11 fun n12 rf12 τ12 => cnewa kdU lnU 20 4 4 n12 rf12 τ12 fun n13 rf13 τ13 => cputR kdU lnU 9 9 t0 4 n12 n13 rf13 τ13 fun n14 rf14 τ14 => cnewa kdU lnU 20 120 120 n14 rf14 τ14 fun n15 rf15 τ15 => cputR kdU lnU 9 9 t0 5 n14 n15 rf15 τ15 fun n16 rf16 τ16 => cnewa kdU lnU 20 64 64 n16 rf16 τ16 fun n17 rf17 τ17 => cputR kdU lnU 9 9 t0 6 n16 n17 rf17 τ17 fun n18 rf18 τ18 => cnewa kdU lnU 20 60 60 n18 rf18 τ18 fun n19 rf19 τ19 => cputR kdU lnU 9 9 t0 7 n18 n19 rf19 τ19 fun n20 rf20 τ20 => cnewa kdU lnU 20 10 10 n20 rf20 τ20 fun n21 rf21 τ21 => cputR kdU lnU 9 9 t0 8 n20 n21 rf21 τ21 fun n22 rf22 τ22 => if t0 < n22 ∧ kdU t0 = 9 then ccall (C9_letThingsSayThemselves t0 n22 rf22 τ22) (fun n23 rf23 τ23 => some (n23, rf23, τ23)) else none
set_option maxRecDepth 20000 in
set_option maxHeartbeats 4000000 in
theorem c_C9_init (t0 : Nat) (n : Nat) (rf : RF) (τ : Tau) (n' : Nat) (rf' : RF) (τ' : Tau) (h : C9_init t0 n rf τ = some (n', rf', τ')) : MCc kdU lnU yX9_init cX9_init 1 4 50 1827 [.ref t0] n rf τ n' rf' τ' :=
  mcc_of (by decide +kernel) (Nat.le_of_ble_eq_true rfl) (fun K b C hr hnm hmc hms => by
    show Sc K b kdU lnU 1 (Qc K b kdU lnU 50 1827) 0 0 (C9_init t0 n rf τ) 0 [(0, .ref t0)] [] n rf τ
    unfold C9_init
    refine sc_seg C [(.aload_n 0, 0)] (pc' := 1) (L' := [(0, .ref t0)]) (S' := [.ref t0]) (by decide +kernel) rfl ?_
    refine sc_obj C (by decide) il_9_3 ow_i ow_c (Nat.le_of_ble_eq_true rfl) (by decide +kernel) ?_
    refine sc_seg C [(.aload_n 0, 0)] (pc' := 5) (L' := [(0, .ref t0)]) (S' := [.ref t0]) (by decide +kernel) rfl ?_
    refine sc_new 8 19 cls8 C kl_9_9 in_8 it_8 (by decide +kernel) (by rw [hmc]; omega) (by rw [hms]; omega) (by decide +kernel) (fun n2 rf2 τ2 => ?_)
    refine sc_seg C [(.dup, 0)] (pc' := 9) (L' := [(0, .ref t0)]) (S' := [.ref n, .ref n, .ref t0]) (by decide +kernel) rfl ?_
    refine sc_ctorN "BasketEnvoys" [] [.ref n, .ref t0] rfl C mi_8 il_9_11 rfl ⟨by decide, by decide⟩ (Nat.le_of_ble_eq_true rfl) (mc := 12) (ms := 250) (by rw [hmc]; omega) (by rw [hms]; omega) (by decide +kernel) (c_C8_init n n2 rf2 τ2) (fun n3 rf3 τ3 => ?_)
    refine sc_putR 9 0 9 n cls9 C (by decide) rfl hnm rfl (fun _ => rfl) (fun _ => rfl) fl9_12 (by decide +kernel) (fun n4 rf4 τ4 => ?_)
    refine sc_seg C [(.aload_n 0, 0)] (pc' := 16) (L' := [(0, .ref t0)]) (S' := [.ref t0]) (by decide +kernel) rfl ?_
    refine sc_new 7 14 cls7 C kl_9_18 in_7 it_7 (by decide +kernel) (by rw [hmc]; omega) (by rw [hms]; omega) (by decide +kernel) (fun n5 rf5 τ5 => ?_)
    refine sc_seg C [(.dup, 0)] (pc' := 20) (L' := [(0, .ref t0)]) (S' := [.ref n4, .ref n4, .ref t0]) (by decide +kernel) rfl ?_
    refine sc_ctorN "BasketEnvoys" [] [.ref n4, .ref t0] rfl C mi_7 il_9_20 rfl ⟨by decide, by decide⟩ (Nat.le_of_ble_eq_true rfl) (mc := 23) (ms := 182) (by rw [hmc]; omega) (by rw [hms]; omega) (by decide +kernel) (c_C7_init n4 n5 rf5 τ5) (fun n6 rf6 τ6 => ?_)
    refine sc_putR 9 1 9 n4 cls9 C (by decide) rfl hnm rfl (fun _ => rfl) (fun _ => rfl) fl9_21 (by decide +kernel) (fun n7 rf7 τ7 => ?_)
    refine sc_seg C [(.aload_n 0, 0)] (pc' := 27) (L' := [(0, .ref t0)]) (S' := [.ref t0]) (by decide +kernel) rfl ?_
    refine sc_new 2 8 cls2 C kl_9_25 in_2 it_2 (by decide +kernel) (by rw [hmc]; omega) (by rw [hms]; omega) (by decide +kernel) (fun n8 rf8 τ8 => ?_)
    refine sc_seg C [(.dup, 0)] (pc' := 31) (L' := [(0, .ref t0)]) (S' := [.ref n7, .ref n7, .ref t0]) (by decide +kernel) rfl ?_
    refine sc_ctorN "BasketEnvoys" [] [.ref n7, .ref t0] rfl C mi_2 il_9_27 rfl ⟨by decide, by decide⟩ (Nat.le_of_ble_eq_true rfl) (mc := 6) (ms := 496) (by rw [hmc]; omega) (by rw [hms]; omega) (by decide +kernel) (c_C2_init n7 n8 rf8 τ8) (fun n9 rf9 τ9 => ?_)
    refine sc_putR 9 2 9 n7 cls9 C (by decide) rfl hnm rfl (fun _ => rfl) (fun _ => rfl) fl9_28 (by decide +kernel) (fun n10 rf10 τ10 => ?_)
    refine sc_seg C [(.aload_n 0, 0), (.sipush 600, 600)] (pc' := 41) (L' := [(0, .ref t0)]) (S' := [.int 600, .ref t0]) (by decide +kernel) rfl ?_
    refine sc_newa 20 0 600 (atype := .int) rfl (fun _ => rfl) (by decide) (by decide) rfl (fun _ _ h => h) (by decide) C aw_int (by rw [hmc]; omega) (by rw [hms]; omega) (by decide +kernel) (fun n11 rf11 τ11 => ?_)
    refine sc_putR 9 3 9 n10 cls9 C (by decide) rfl hnm rfl (fun _ => rfl) (fun _ => rfl) fl9_32 (by decide +kernel) (fun n12 rf12 τ12 => ?_)
    refine sc_seg C [(.aload_n 0, 0), (.iconst 4, 4)] (pc' := 48) (L' := [(0, .ref t0)]) (S' := [.int 4, .ref t0]) (by decide +kernel) rfl ?_
    refine sc_newa 20 0 4 (atype := .int) rfl (fun _ => rfl) (by decide) (by decide) rfl (fun _ _ h => h) (by decide) C aw_int (by rw [hmc]; omega) (by rw [hms]; omega) (by decide +kernel) (fun n13 rf13 τ13 => ?_)
    refine sc_putR 9 4 9 n12 cls9 C (by decide) rfl hnm rfl (fun _ => rfl) (fun _ => rfl) fl9_36 (by decide +kernel) (fun n14 rf14 τ14 => ?_)
    refine sc_seg C [(.aload_n 0, 0), (.bipush 120, 120)] (pc' := 56) (L' := [(0, .ref t0)]) (S' := [.int 120, .ref t0]) (by decide +kernel) rfl ?_
    refine sc_newa 20 0 120 (atype := .int) rfl (fun _ => rfl) (by decide) (by decide) rfl (fun _ _ h => h) (by decide) C aw_int (by rw [hmc]; omega) (by rw [hms]; omega) (by decide +kernel) (fun n15 rf15 τ15 => ?_)
    refine sc_putR 9 5 9 n14 cls9 C (by decide) rfl hnm rfl (fun _ => rfl) (fun _ => rfl) fl9_39 (by decide +kernel) (fun n16 rf16 τ16 => ?_)
    refine sc_seg C [(.aload_n 0, 0), (.bipush 64, 64)] (pc' := 64) (L' := [(0, .ref t0)]) (S' := [.int 64, .ref t0]) (by decide +kernel) rfl ?_
    refine sc_newa 20 0 64 (atype := .int) rfl (fun _ => rfl) (by decide) (by decide) rfl (fun _ _ h => h) (by decide) C aw_int (by rw [hmc]; omega) (by rw [hms]; omega) (by decide +kernel) (fun n17 rf17 τ17 => ?_)
    refine sc_putR 9 6 9 n16 cls9 C (by decide) rfl hnm rfl (fun _ => rfl) (fun _ => rfl) fl9_42 (by decide +kernel) (fun n18 rf18 τ18 => ?_)
    refine sc_seg C [(.aload_n 0, 0), (.bipush 60, 60)] (pc' := 72) (L' := [(0, .ref t0)]) (S' := [.int 60, .ref t0]) (by decide +kernel) rfl ?_
    refine sc_newa 20 0 60 (atype := .int) rfl (fun _ => rfl) (by decide) (by decide) rfl (fun _ _ h => h) (by decide) C aw_int (by rw [hmc]; omega) (by rw [hms]; omega) (by decide +kernel) (fun n19 rf19 τ19 => ?_)
    refine sc_putR 9 7 9 n18 cls9 C (by decide) rfl hnm rfl (fun _ => rfl) (fun _ => rfl) fl9_45 (by decide +kernel) (fun n20 rf20 τ20 => ?_)
    refine sc_seg C [(.aload_n 0, 0), (.bipush 10, 10)] (pc' := 80) (L' := [(0, .ref t0)]) (S' := [.int 10, .ref t0]) (by decide +kernel) rfl ?_
    refine sc_newa 20 0 10 (atype := .int) rfl (fun _ => rfl) (by decide) (by decide) rfl (fun _ _ h => h) (by decide) C aw_int (by rw [hmc]; omega) (by rw [hms]; omega) (by decide +kernel) (fun n21 rf21 τ21 => ?_)
    refine sc_putR 9 8 9 n20 cls9 C (by decide) rfl hnm rfl (fun _ => rfl) (fun _ => rfl) fl9_48 (by decide +kernel) (fun n22 rf22 τ22 => ?_)
    refine sc_seg C [(.aload_n 0, 0)] (pc' := 86) (L' := [(0, .ref t0)]) (S' := [.ref t0]) (by decide +kernel) rfl ?_
    refine sc_virtv 9 9 [] rfl C mw_X9_letThingsSayThemselves ml_9_51 rfl (by decide) ⟨by decide, by decide⟩ (Nat.le_of_ble_eq_true rfl) (mc := 0) (ms := 0) (by rw [hmc]; omega) (by rw [hms]; omega) (by decide +kernel) (c_C9_letThingsSayThemselves t0 n22 rf22 τ22) (fun n23 rf23 τ23 => ?_)
    exact sc_vret C hr (by decide +kernel)) h
def C1_init (t0 : Nat) (n : Nat) (rf : RF) (τ : Tau) : O3 :=
  cputI kdU lnU 1 3 t0 0 0 n rf τ fun n2 rf2 τ2 => cputI kdU lnU 1 3 t0 1 0 n2 rf2 τ2 fun n3 rf3 τ3 => cnewq kdU lnU 6 n3 rf3 τ3 fun n4 rf4 τ4 => cputR kdU lnU 1 3 t0 2 n3 n4 rf4 τ4 fun n5 rf5 τ5 => if (6 : Int32) ≤ 0 then (none) else (cgetR kdU lnU 1 3 t0 2 n3 n5 rf5 τ5 (cnew kdU lnU 8 19 (fun j => ([0, 0, 0, 0, 0, 0, 0, 1, 1, 1, 1, 1, 1, 1, 1, 1, 1, 1, 1] : List Nat).getD j 0) n5 rf5 τ5 fun n8 rf8 τ8 => ccall (C8_init n5 n8 rf8 τ8) fun n9 rf9 τ9 => castq kdU lnU n3 6 0 n5 n9 rf9 τ9 fun n10 rf10 τ10 => if (6 : Int32) ≤ (0 + 1) then (none) else (cgetR kdU lnU 1 3 t0 2 n3 n10 rf10 τ10 (cnew kdU lnU 8 19 (fun j => ([0, 0, 0, 0, 0, 0, 0, 1, 1, 1, 1, 1, 1, 1, 1, 1, 1, 1, 1] : List Nat).getD j 0) n10 rf10 τ10 fun n13 rf13 τ13 => ccall (C8_init n10 n13 rf13 τ13) fun n14 rf14 τ14 => castq kdU lnU n3 6 (0 + 1) n10 n14 rf14 τ14 fun n15 rf15 τ15 => if (6 : Int32) ≤ ((0 + 1) + 1) then (none) else (cgetR kdU lnU 1 3 t0 2 n3 n15 rf15 τ15 (cnew kdU lnU 8 19 (fun j => ([0, 0, 0, 0, 0, 0, 0, 1, 1, 1, 1, 1, 1, 1, 1, 1, 1, 1, 1] : List Nat).getD j 0) n15 rf15 τ15 fun n18 rf18 τ18 => ccall (C8_init n15 n18 rf18 τ18) fun n19 rf19 τ19 => castq kdU lnU n3 6 ((0 + 1) + 1) n15 n19 rf19 τ19 fun n20 rf20 τ20 => if (6 : Int32) ≤ (((0 + 1) + 1) + 1) then (none) else (cgetR kdU lnU 1 3 t0 2 n3 n20 rf20 τ20 (cnew kdU lnU 8 19 (fun j => ([0, 0, 0, 0, 0, 0, 0, 1, 1, 1, 1, 1, 1, 1, 1, 1, 1, 1, 1] : List Nat).getD j 0) n20 rf20 τ20 fun n23 rf23 τ23 => ccall (C8_init n20 n23 rf23 τ23) fun n24 rf24 τ24 => castq kdU lnU n3 6 (((0 + 1) + 1) + 1) n20 n24 rf24 τ24 fun n25 rf25 τ25 => if (6 : Int32) ≤ ((((0 + 1) + 1) + 1) + 1) then (none) else (cgetR kdU lnU 1 3 t0 2 n3 n25 rf25 τ25 (cnew kdU lnU 8 19 (fun j => ([0, 0, 0, 0, 0, 0, 0, 1, 1, 1, 1, 1, 1, 1, 1, 1, 1, 1, 1] : List Nat).getD j 0) n25 rf25 τ25 fun n28 rf28 τ28 => ccall (C8_init n25 n28 rf28 τ28) fun n29 rf29 τ29 => castq kdU lnU n3 6 ((((0 + 1) + 1) + 1) + 1) n25 n29 rf29 τ29 fun n30 rf30 τ30 => if (6 : Int32) ≤ (((((0 + 1) + 1) + 1) + 1) + 1) then (none) else (cgetR kdU lnU 1 3 t0 2 n3 n30 rf30 τ30 (cnew kdU lnU 8 19 (fun j => ([0, 0, 0, 0, 0, 0, 0, 1, 1, 1, 1, 1, 1, 1, 1, 1, 1, 1, 1] : List Nat).getD j 0) n30 rf30 τ30 fun n33 rf33 τ33 => ccall (C8_init n30 n33 rf33 τ33) fun n34 rf34 τ34 => castq kdU lnU n3 6 (((((0 + 1) + 1) + 1) + 1) + 1) n30 n34 rf34 τ34 fun n35 rf35 τ35 => if (6 : Int32) ≤ ((((((0 + 1) + 1) + 1) + 1) + 1) + 1) then (some (n35, rf35, τ35)) else (none)))))))))))))
set_option maxRecDepth 20000 in
set_option maxHeartbeats 4000000 in
theorem c_C1_init (t0 : Nat) (n : Nat) (rf : RF) (τ : Tau) (n' : Nat) (rf' : RF) (τ' : Tau) (h : C1_init t0 n rf τ = some (n', rf', τ')) : MCc kdU lnU yX1_init cX1_init 2 3 79 1620 [.ref t0] n rf τ n' rf' τ' :=
  mcc_of (by decide +kernel) (Nat.le_of_ble_eq_true rfl) (fun K b C hr hnm hmc hms => by
    show Sc K b kdU lnU 2 (Qc K b kdU lnU 79 1620) 0 0 (C1_init t0 n rf τ) 0 [(0, .ref t0)] [] n rf τ
    unfold C1_init
    refine sc_seg C [(.aload_n 0, 0)] (pc' := 1) (L' := [(0, .ref t0)]) (S' := [.ref t0]) (by decide +kernel) rfl ?_
    refine sc_obj C (by decide) il_1_3 ow_i ow_c (Nat.le_of_ble_eq_true rfl) (by decide +kernel) ?_
    refine sc_seg C [(.aload_n 0, 0), (.iconst 0, 0)] (pc' := 6) (L' := [(0, .ref t0)]) (S' := [.int 0, .ref t0]) (by decide +kernel) rfl ?_
    refine sc_putI 1 0 3 cls1 C (by decide) rfl rfl rfl fl1_9 (by decide +kernel) (fun n2 rf2 τ2 => ?_)
    refine sc_seg C [(.aload_n 0, 0), (.iconst 0, 0)] (pc' := 11) (L' := [(0, .ref t0)]) (S' := [.int 0, .ref t0]) (by decide +kernel) rfl ?_
    refine sc_putI 1 1 3 cls1 C (by decide) rfl rfl rfl fl1_15 (by decide +kernel) (fun n3 rf3 τ3 => ?_)
    refine sc_seg C [(.aload_n 0, 0), (.bipush 6, 6)] (pc' := 17) (L' := [(0, .ref t0)]) (S' := [.int 6, .ref t0]) (by decide +kernel) rfl ?_
    refine sc_newq 6 rfl C kl_1_18 (by rw [hmc]; omega) (by rw [hms]; omega) (by decide +kernel) (fun n4 rf4 τ4 => ?_)
    refine sc_putR 1 2 3 n3 cls1 C (by decide) rfl hnm rfl (fun _ => rfl) (fun _ => rfl) fl1_20 (by decide +kernel) (fun n5 rf5 τ5 => ?_)
    refine sc_seg C [(.iconst 0, 0), (.istore_n 1, 0), (.iload_n 1, 0), (.bipush 6, 6)] (pc' := 28) (L' := [(1, .int 0), (0, .ref t0)]) (S' := [.int 6, .int 0]) (by decide +kernel) rfl ?_
    refine sc_icmpge 50 (off := 22) C (by decide +kernel) (by decide) (fun _ => ?_) (fun _ => ?_)
    · exact sc_none
    · refine sc_seg C [(.aload_n 0, 0)] (pc' := 32) (L' := [(1, .int 0), (0, .ref t0)]) (S' := [.ref t0]) (by decide +kernel) rfl ?_
      refine sc_getR 1 2 3 n3 cls1 C (by decide) fl1_20 (by decide +kernel) ?_
      refine sc_seg C [(.iload_n 1, 0)] (pc' := 36) (L' := [(1, .int 0), (0, .ref t0)]) (S' := [.int 0, .ref n3]) (by decide +kernel) rfl ?_
      refine sc_new 8 19 cls8 C kl_1_18 in_8 it_8 (by decide +kernel) (by rw [hmc]; omega) (by rw [hms]; omega) (by decide +kernel) (fun n8 rf8 τ8 => ?_)
      refine sc_seg C [(.dup, 0)] (pc' := 40) (L' := [(1, .int 0), (0, .ref t0)]) (S' := [.ref n5, .ref n5, .int 0, .ref n3]) (by decide +kernel) rfl ?_
      refine sc_ctorN "BasketEnvoys" [] [.ref n5, .int 0, .ref n3] rfl C mi_8 il_1_24 rfl ⟨by decide, by decide⟩ (Nat.le_of_ble_eq_true rfl) (mc := 12) (ms := 250) (by rw [hmc]; omega) (by rw [hms]; omega) (by decide +kernel) (c_C8_init n5 n8 rf8 τ8) (fun n9 rf9 τ9 => ?_)
      refine sc_astq 6 n5 C (by decide +kernel) (fun n10 rf10 τ10 => ?_)
      refine sc_seg C [(.iinc 1 1, 1), (.goto (-22), 0), (.iload_n 1, 0), (.bipush 6, 6)] (pc' := 28) (L' := [(1, .int (0 + 1)), (0, .ref t0)]) (S' := [.int 6, .int (0 + 1)]) (by decide +kernel) rfl ?_
      refine sc_icmpge 50 (off := 22) C (by decide +kernel) (by decide) (fun _ => ?_) (fun _ => ?_)
      · exact sc_none
      · refine sc_seg C [(.aload_n 0, 0)] (pc' := 32) (L' := [(1, .int (0 + 1)), (0, .ref t0)]) (S' := [.ref t0]) (by decide +kernel) rfl ?_
        refine sc_getR 1 2 3 n3 cls1 C (by decide) fl1_20 (by decide +kernel) ?_
        refine sc_seg C [(.iload_n 1, 0)] (pc' := 36) (L' := [(1, .int (0 + 1)), (0, .ref t0)]) (S' := [.int (0 + 1), .ref n3]) (by decide +kernel) rfl ?_
        refine sc_new 8 19 cls8 C kl_1_18 in_8 it_8 (by decide +kernel) (by rw [hmc]; omega) (by rw [hms]; omega) (by decide +kernel) (fun n13 rf13 τ13 => ?_)
        refine sc_seg C [(.dup, 0)] (pc' := 40) (L' := [(1, .int (0 + 1)), (0, .ref t0)]) (S' := [.ref n10, .ref n10, .int (0 + 1), .ref n3]) (by decide +kernel) rfl ?_
        refine sc_ctorN "BasketEnvoys" [] [.ref n10, .int (0 + 1), .ref n3] rfl C mi_8 il_1_24 rfl ⟨by decide, by decide⟩ (Nat.le_of_ble_eq_true rfl) (mc := 12) (ms := 250) (by rw [hmc]; omega) (by rw [hms]; omega) (by decide +kernel) (c_C8_init n10 n13 rf13 τ13) (fun n14 rf14 τ14 => ?_)
        refine sc_astq 6 n10 C (by decide +kernel) (fun n15 rf15 τ15 => ?_)
        refine sc_seg C [(.iinc 1 1, 1), (.goto (-22), 0), (.iload_n 1, 0), (.bipush 6, 6)] (pc' := 28) (L' := [(1, .int ((0 + 1) + 1)), (0, .ref t0)]) (S' := [.int 6, .int ((0 + 1) + 1)]) (by decide +kernel) rfl ?_
        refine sc_icmpge 50 (off := 22) C (by decide +kernel) (by decide) (fun _ => ?_) (fun _ => ?_)
        · exact sc_none
        · refine sc_seg C [(.aload_n 0, 0)] (pc' := 32) (L' := [(1, .int ((0 + 1) + 1)), (0, .ref t0)]) (S' := [.ref t0]) (by decide +kernel) rfl ?_
          refine sc_getR 1 2 3 n3 cls1 C (by decide) fl1_20 (by decide +kernel) ?_
          refine sc_seg C [(.iload_n 1, 0)] (pc' := 36) (L' := [(1, .int ((0 + 1) + 1)), (0, .ref t0)]) (S' := [.int ((0 + 1) + 1), .ref n3]) (by decide +kernel) rfl ?_
          refine sc_new 8 19 cls8 C kl_1_18 in_8 it_8 (by decide +kernel) (by rw [hmc]; omega) (by rw [hms]; omega) (by decide +kernel) (fun n18 rf18 τ18 => ?_)
          refine sc_seg C [(.dup, 0)] (pc' := 40) (L' := [(1, .int ((0 + 1) + 1)), (0, .ref t0)]) (S' := [.ref n15, .ref n15, .int ((0 + 1) + 1), .ref n3]) (by decide +kernel) rfl ?_
          refine sc_ctorN "BasketEnvoys" [] [.ref n15, .int ((0 + 1) + 1), .ref n3] rfl C mi_8 il_1_24 rfl ⟨by decide, by decide⟩ (Nat.le_of_ble_eq_true rfl) (mc := 12) (ms := 250) (by rw [hmc]; omega) (by rw [hms]; omega) (by decide +kernel) (c_C8_init n15 n18 rf18 τ18) (fun n19 rf19 τ19 => ?_)
          refine sc_astq 6 n15 C (by decide +kernel) (fun n20 rf20 τ20 => ?_)
          refine sc_seg C [(.iinc 1 1, 1), (.goto (-22), 0), (.iload_n 1, 0), (.bipush 6, 6)] (pc' := 28) (L' := [(1, .int (((0 + 1) + 1) + 1)), (0, .ref t0)]) (S' := [.int 6, .int (((0 + 1) + 1) + 1)]) (by decide +kernel) rfl ?_
          refine sc_icmpge 50 (off := 22) C (by decide +kernel) (by decide) (fun _ => ?_) (fun _ => ?_)
          · exact sc_none
          · refine sc_seg C [(.aload_n 0, 0)] (pc' := 32) (L' := [(1, .int (((0 + 1) + 1) + 1)), (0, .ref t0)]) (S' := [.ref t0]) (by decide +kernel) rfl ?_
            refine sc_getR 1 2 3 n3 cls1 C (by decide) fl1_20 (by decide +kernel) ?_
            refine sc_seg C [(.iload_n 1, 0)] (pc' := 36) (L' := [(1, .int (((0 + 1) + 1) + 1)), (0, .ref t0)]) (S' := [.int (((0 + 1) + 1) + 1), .ref n3]) (by decide +kernel) rfl ?_
            refine sc_new 8 19 cls8 C kl_1_18 in_8 it_8 (by decide +kernel) (by rw [hmc]; omega) (by rw [hms]; omega) (by decide +kernel) (fun n23 rf23 τ23 => ?_)
            refine sc_seg C [(.dup, 0)] (pc' := 40) (L' := [(1, .int (((0 + 1) + 1) + 1)), (0, .ref t0)]) (S' := [.ref n20, .ref n20, .int (((0 + 1) + 1) + 1), .ref n3]) (by decide +kernel) rfl ?_
            refine sc_ctorN "BasketEnvoys" [] [.ref n20, .int (((0 + 1) + 1) + 1), .ref n3] rfl C mi_8 il_1_24 rfl ⟨by decide, by decide⟩ (Nat.le_of_ble_eq_true rfl) (mc := 12) (ms := 250) (by rw [hmc]; omega) (by rw [hms]; omega) (by decide +kernel) (c_C8_init n20 n23 rf23 τ23) (fun n24 rf24 τ24 => ?_)
            refine sc_astq 6 n20 C (by decide +kernel) (fun n25 rf25 τ25 => ?_)
            refine sc_seg C [(.iinc 1 1, 1), (.goto (-22), 0), (.iload_n 1, 0), (.bipush 6, 6)] (pc' := 28) (L' := [(1, .int ((((0 + 1) + 1) + 1) + 1)), (0, .ref t0)]) (S' := [.int 6, .int ((((0 + 1) + 1) + 1) + 1)]) (by decide +kernel) rfl ?_
            refine sc_icmpge 50 (off := 22) C (by decide +kernel) (by decide) (fun _ => ?_) (fun _ => ?_)
            · exact sc_none
            · refine sc_seg C [(.aload_n 0, 0)] (pc' := 32) (L' := [(1, .int ((((0 + 1) + 1) + 1) + 1)), (0, .ref t0)]) (S' := [.ref t0]) (by decide +kernel) rfl ?_
              refine sc_getR 1 2 3 n3 cls1 C (by decide) fl1_20 (by decide +kernel) ?_
              refine sc_seg C [(.iload_n 1, 0)] (pc' := 36) (L' := [(1, .int ((((0 + 1) + 1) + 1) + 1)), (0, .ref t0)]) (S' := [.int ((((0 + 1) + 1) + 1) + 1), .ref n3]) (by decide +kernel) rfl ?_
              refine sc_new 8 19 cls8 C kl_1_18 in_8 it_8 (by decide +kernel) (by rw [hmc]; omega) (by rw [hms]; omega) (by decide +kernel) (fun n28 rf28 τ28 => ?_)
              refine sc_seg C [(.dup, 0)] (pc' := 40) (L' := [(1, .int ((((0 + 1) + 1) + 1) + 1)), (0, .ref t0)]) (S' := [.ref n25, .ref n25, .int ((((0 + 1) + 1) + 1) + 1), .ref n3]) (by decide +kernel) rfl ?_
              refine sc_ctorN "BasketEnvoys" [] [.ref n25, .int ((((0 + 1) + 1) + 1) + 1), .ref n3] rfl C mi_8 il_1_24 rfl ⟨by decide, by decide⟩ (Nat.le_of_ble_eq_true rfl) (mc := 12) (ms := 250) (by rw [hmc]; omega) (by rw [hms]; omega) (by decide +kernel) (c_C8_init n25 n28 rf28 τ28) (fun n29 rf29 τ29 => ?_)
              refine sc_astq 6 n25 C (by decide +kernel) (fun n30 rf30 τ30 => ?_)
              refine sc_seg C [(.iinc 1 1, 1), (.goto (-22), 0), (.iload_n 1, 0), (.bipush 6, 6)] (pc' := 28) (L' := [(1, .int (((((0 + 1) + 1) + 1) + 1) + 1)), (0, .ref t0)]) (S' := [.int 6, .int (((((0 + 1) + 1) + 1) + 1) + 1)]) (by decide +kernel) rfl ?_
              refine sc_icmpge 50 (off := 22) C (by decide +kernel) (by decide) (fun _ => ?_) (fun _ => ?_)
              · exact sc_none
              · refine sc_seg C [(.aload_n 0, 0)] (pc' := 32) (L' := [(1, .int (((((0 + 1) + 1) + 1) + 1) + 1)), (0, .ref t0)]) (S' := [.ref t0]) (by decide +kernel) rfl ?_
                refine sc_getR 1 2 3 n3 cls1 C (by decide) fl1_20 (by decide +kernel) ?_
                refine sc_seg C [(.iload_n 1, 0)] (pc' := 36) (L' := [(1, .int (((((0 + 1) + 1) + 1) + 1) + 1)), (0, .ref t0)]) (S' := [.int (((((0 + 1) + 1) + 1) + 1) + 1), .ref n3]) (by decide +kernel) rfl ?_
                refine sc_new 8 19 cls8 C kl_1_18 in_8 it_8 (by decide +kernel) (by rw [hmc]; omega) (by rw [hms]; omega) (by decide +kernel) (fun n33 rf33 τ33 => ?_)
                refine sc_seg C [(.dup, 0)] (pc' := 40) (L' := [(1, .int (((((0 + 1) + 1) + 1) + 1) + 1)), (0, .ref t0)]) (S' := [.ref n30, .ref n30, .int (((((0 + 1) + 1) + 1) + 1) + 1), .ref n3]) (by decide +kernel) rfl ?_
                refine sc_ctorN "BasketEnvoys" [] [.ref n30, .int (((((0 + 1) + 1) + 1) + 1) + 1), .ref n3] rfl C mi_8 il_1_24 rfl ⟨by decide, by decide⟩ (Nat.le_of_ble_eq_true rfl) (mc := 12) (ms := 250) (by rw [hmc]; omega) (by rw [hms]; omega) (by decide +kernel) (c_C8_init n30 n33 rf33 τ33) (fun n34 rf34 τ34 => ?_)
                refine sc_astq 6 n30 C (by decide +kernel) (fun n35 rf35 τ35 => ?_)
                refine sc_seg C [(.iinc 1 1, 1), (.goto (-22), 0), (.iload_n 1, 0), (.bipush 6, 6)] (pc' := 28) (L' := [(1, .int ((((((0 + 1) + 1) + 1) + 1) + 1) + 1)), (0, .ref t0)]) (S' := [.int 6, .int ((((((0 + 1) + 1) + 1) + 1) + 1) + 1)]) (by decide +kernel) rfl ?_
                refine sc_icmpge 50 (off := 22) C (by decide +kernel) (by decide) (fun _ => ?_) (fun _ => ?_)
                · exact sc_vret C hr (by decide +kernel)
                · exact sc_none) h
def C6_init (t0 : Nat) (n : Nat) (rf : RF) (τ : Tau) : O3 :=
  cputI kdU lnU 6 13 t0 0 0 n rf τ fun n2 rf2 τ2 => cputI kdU lnU 6 13 t0 1 0 n2 rf2 τ2 fun n3 rf3 τ3 => cputI kdU lnU 6 13 t0 2 (-1) n3 rf3 τ3 fun n4 rf4 τ4 => cputI kdU lnU 6 13 t0 3 0 n4 rf4 τ4 fun n5 rf5 τ5 => cputI kdU lnU 6 13 t0 4 0 n5 rf5 τ5 fun n6 rf6 τ6 => cputI kdU lnU 6 13 t0 5 5 n6 rf6 τ6 fun n7 rf7 τ7 => cputI kdU lnU 6 13 t0 6 0 n7 rf7 τ7 fun n8 rf8 τ8 => cputI kdU lnU 6 13 t0 7 0 n8 rf8 τ8 fun n9 rf9 τ9 => cnewa kdU lnU 22 400 400 n9 rf9 τ9 fun n10 rf10 τ10 => cputR kdU lnU 6 13 t0 8 n9 n10 rf10 τ10 fun n11 rf11 τ11 => cnewa kdU lnU 20 401 401 n11 rf11 τ11 fun n12 rf12 τ12 => cputR kdU lnU 6 13 t0 9 n11 n12 rf12 τ12 fun n13 rf13 τ13 => cnewa kdU lnU 20 401 401 n13 rf13 τ13 fun n14 rf14 τ14 => cputR kdU lnU 6 13 t0 10 n13 n14 rf14 τ14 fun n15 rf15 τ15 => cnewa kdU lnU 20 401 401 n15 rf15 τ15 fun n16 rf16 τ16 => cputR kdU lnU 6 13 t0 11 n15 n16 rf16 τ16 fun n17 rf17 τ17 => cnewa kdU lnU 20 401 401 n17 rf17 τ17 fun n18 rf18 τ18 => cputR kdU lnU 6 13 t0 12 n17 n18 rf18 τ18 fun n19 rf19 τ19 => some (n19, rf19, τ19)
set_option maxRecDepth 20000 in
set_option maxHeartbeats 4000000 in
theorem c_C6_init (t0 : Nat) (n : Nat) (rf : RF) (τ : Tau) (n' : Nat) (rf' : RF) (τ' : Tau) (h : C6_init t0 n rf τ = some (n', rf', τ')) : MCc kdU lnU yX6_init cX6_init 1 2 5 2004 [.ref t0] n rf τ n' rf' τ' :=
  mcc_of (by decide +kernel) (Nat.le_of_ble_eq_true rfl) (fun K b C hr hnm hmc hms => by
    show Sc K b kdU lnU 1 (Qc K b kdU lnU 5 2004) 0 0 (C6_init t0 n rf τ) 0 [(0, .ref t0)] [] n rf τ
    unfold C6_init
    refine sc_seg C [(.aload_n 0, 0)] (pc' := 1) (L' := [(0, .ref t0)]) (S' := [.ref t0]) (by decide +kernel) rfl ?_
    refine sc_obj C (by decide) il_6_3 ow_i ow_c (Nat.le_of_ble_eq_true rfl) (by decide +kernel) ?_
    refine sc_seg C [(.aload_n 0, 0), (.iconst 0, 0)] (pc' := 6) (L' := [(0, .ref t0)]) (S' := [.int 0, .ref t0]) (by decide +kernel) rfl ?_
    refine sc_putI 6 0 13 cls6 C (by decide) rfl rfl rfl fl6_9 (by decide +kernel) (fun n2 rf2 τ2 => ?_)
    refine sc_seg C [(.aload_n 0, 0), (.iconst 0, 0)] (pc' := 11) (L' := [(0, .ref t0)]) (S' := [.int 0, .ref t0]) (by decide +kernel) rfl ?_
    refine sc_putI 6 1 13 cls6 C (by decide) rfl rfl rfl fl6_15 (by decide +kernel) (fun n3 rf3 τ3 => ?_)
    refine sc_seg C [(.aload_n 0, 0), (.iconst (-1), (-1))] (pc' := 16) (L' := [(0, .ref t0)]) (S' := [.int (-1), .ref t0]) (by decide +kernel) rfl ?_
    refine sc_putI 6 2 13 cls6 C (by decide) rfl rfl rfl fl6_18 (by decide +kernel) (fun n4 rf4 τ4 => ?_)
    refine sc_seg C [(.aload_n 0, 0), (.iconst 0, 0)] (pc' := 21) (L' := [(0, .ref t0)]) (S' := [.int 0, .ref t0]) (by decide +kernel) rfl ?_
    refine sc_putI 6 3 13 cls6 C (by decide) rfl rfl rfl fl6_21 (by decide +kernel) (fun n5 rf5 τ5 => ?_)
    refine sc_seg C [(.aload_n 0, 0), (.iconst 0, 0)] (pc' := 26) (L' := [(0, .ref t0)]) (S' := [.int 0, .ref t0]) (by decide +kernel) rfl ?_
    refine sc_putI 6 4 13 cls6 C (by decide) rfl rfl rfl fl6_24 (by decide +kernel) (fun n6 rf6 τ6 => ?_)
    refine sc_seg C [(.aload_n 0, 0), (.iconst 5, 5)] (pc' := 31) (L' := [(0, .ref t0)]) (S' := [.int 5, .ref t0]) (by decide +kernel) rfl ?_
    refine sc_putI 6 5 13 cls6 C (by decide) rfl rfl rfl fl6_27 (by decide +kernel) (fun n7 rf7 τ7 => ?_)
    refine sc_seg C [(.aload_n 0, 0), (.iconst 0, 0)] (pc' := 36) (L' := [(0, .ref t0)]) (S' := [.int 0, .ref t0]) (by decide +kernel) rfl ?_
    refine sc_putI 6 6 13 cls6 C (by decide) rfl rfl rfl fl6_30 (by decide +kernel) (fun n8 rf8 τ8 => ?_)
    refine sc_seg C [(.aload_n 0, 0), (.iconst 0, 0)] (pc' := 41) (L' := [(0, .ref t0)]) (S' := [.int 0, .ref t0]) (by decide +kernel) rfl ?_
    refine sc_putI 6 7 13 cls6 C (by decide) rfl rfl rfl fl6_33 (by decide +kernel) (fun n9 rf9 τ9 => ?_)
    refine sc_seg C [(.aload_n 0, 0), (.sipush 400, 400)] (pc' := 48) (L' := [(0, .ref t0)]) (S' := [.int 400, .ref t0]) (by decide +kernel) rfl ?_
    refine sc_newa 22 2 400 (atype := .char) rfl (fun _ => rfl) (by decide) (by decide) rfl (fun _ _ h => h) (by decide) C aw_char (by rw [hmc]; omega) (by rw [hms]; omega) (by decide +kernel) (fun n10 rf10 τ10 => ?_)
    refine sc_putR 6 8 13 n9 cls6 C (by decide) rfl hnm rfl (fun _ => rfl) (fun _ => rfl) fl6_36 (by decide +kernel) (fun n11 rf11 τ11 => ?_)
    refine sc_seg C [(.aload_n 0, 0), (.sipush 401, 401)] (pc' := 57) (L' := [(0, .ref t0)]) (S' := [.int 401, .ref t0]) (by decide +kernel) rfl ?_
    refine sc_newa 20 0 401 (atype := .int) rfl (fun _ => rfl) (by decide) (by decide) rfl (fun _ _ h => h) (by decide) C aw_int (by rw [hmc]; omega) (by rw [hms]; omega) (by decide +kernel) (fun n12 rf12 τ12 => ?_)
    refine sc_putR 6 9 13 n11 cls6 C (by decide) rfl hnm rfl (fun _ => rfl) (fun _ => rfl) fl6_40 (by decide +kernel) (fun n13 rf13 τ13 => ?_)
    refine sc_seg C [(.aload_n 0, 0), (.sipush 401, 401)] (pc' := 66) (L' := [(0, .ref t0)]) (S' := [.int 401, .ref t0]) (by decide +kernel) rfl ?_
    refine sc_newa 20 0 401 (atype := .int) rfl (fun _ => rfl) (by decide) (by decide) rfl (fun _ _ h => h) (by decide) C aw_int (by rw [hmc]; omega) (by rw [hms]; omega) (by decide +kernel) (fun n14 rf14 τ14 => ?_)
    refine sc_putR 6 10 13 n13 cls6 C (by decide) rfl hnm rfl (fun _ => rfl) (fun _ => rfl) fl6_44 (by decide +kernel) (fun n15 rf15 τ15 => ?_)
    refine sc_seg C [(.aload_n 0, 0), (.sipush 401, 401)] (pc' := 75) (L' := [(0, .ref t0)]) (S' := [.int 401, .ref t0]) (by decide +kernel) rfl ?_
    refine sc_newa 20 0 401 (atype := .int) rfl (fun _ => rfl) (by decide) (by decide) rfl (fun _ _ h => h) (by decide) C aw_int (by rw [hmc]; omega) (by rw [hms]; omega) (by decide +kernel) (fun n16 rf16 τ16 => ?_)
    refine sc_putR 6 11 13 n15 cls6 C (by decide) rfl hnm rfl (fun _ => rfl) (fun _ => rfl) fl6_47 (by decide +kernel) (fun n17 rf17 τ17 => ?_)
    refine sc_seg C [(.aload_n 0, 0), (.sipush 401, 401)] (pc' := 84) (L' := [(0, .ref t0)]) (S' := [.int 401, .ref t0]) (by decide +kernel) rfl ?_
    refine sc_newa 20 0 401 (atype := .int) rfl (fun _ => rfl) (by decide) (by decide) rfl (fun _ _ h => h) (by decide) C aw_int (by rw [hmc]; omega) (by rw [hms]; omega) (by decide +kernel) (fun n18 rf18 τ18 => ?_)
    refine sc_putR 6 12 13 n17 cls6 C (by decide) rfl hnm rfl (fun _ => rfl) (fun _ => rfl) fl6_50 (by decide +kernel) (fun n19 rf19 τ19 => ?_)
    exact sc_vret C hr (by decide +kernel)) h
def C3_init (t0 : Nat) (n : Nat) (rf : RF) (τ : Tau) : O3 :=
  cnew kdU lnU 6 13 (fun j => ([0, 0, 0, 0, 0, 0, 0, 0, 1, 1, 1, 1, 1] : List Nat).getD j 0) n rf τ fun n2 rf2 τ2 => ccall (C6_init n n2 rf2 τ2) fun n3 rf3 τ3 => cputR kdU lnU 3 3 t0 0 n n3 rf3 τ3 fun n4 rf4 τ4 => cnew kdU lnU 2 8 (fun j => ([0, 0, 1, 1, 1, 1, 1, 1] : List Nat).getD j 0) n4 rf4 τ4 fun n5 rf5 τ5 => ccall (C2_init n4 n5 rf5 τ5) fun n6 rf6 τ6 => cputR kdU lnU 3 3 t0 1 n4 n6 rf6 τ6 fun n7 rf7 τ7 => cnewa kdU lnU 20 128 128 n7 rf7 τ7 fun n8 rf8 τ8 => cputR kdU lnU 3 3 t0 2 n7 n8 rf8 τ8 fun n9 rf9 τ9 => some (n9, rf9, τ9)
set_option maxRecDepth 20000 in
set_option maxHeartbeats 4000000 in
theorem c_C3_init (t0 : Nat) (n : Nat) (rf : RF) (τ : Tau) (n' : Nat) (rf' : RF) (τ' : Tau) (h : C3_init t0 n rf τ = some (n', rf', τ')) : MCc kdU lnU yX3_init cX3_init 1 3 14 2649 [.ref t0] n rf τ n' rf' τ' :=
  mcc_of (by decide +kernel) (Nat.le_of_ble_eq_true rfl) (fun K b C hr hnm hmc hms => by
    show Sc K b kdU lnU 1 (Qc K b kdU lnU 14 2649) 0 0 (C3_init t0 n rf τ) 0 [(0, .ref t0)] [] n rf τ
    unfold C3_init
    refine sc_seg C [(.aload_n 0, 0)] (pc' := 1) (L' := [(0, .ref t0)]) (S' := [.ref t0]) (by decide +kernel) rfl ?_
    refine sc_obj C (by decide) il_3_3 ow_i ow_c (Nat.le_of_ble_eq_true rfl) (by decide +kernel) ?_
    refine sc_seg C [(.aload_n 0, 0)] (pc' := 5) (L' := [(0, .ref t0)]) (S' := [.ref t0]) (by decide +kernel) rfl ?_
    refine sc_new 6 13 cls6 C kl_3_9 in_6 it_6 (by decide +kernel) (by rw [hmc]; omega) (by rw [hms]; omega) (by decide +kernel) (fun n2 rf2 τ2 => ?_)
    refine sc_seg C [(.dup, 0)] (pc' := 9) (L' := [(0, .ref t0)]) (S' := [.ref n, .ref n, .ref t0]) (by decide +kernel) rfl ?_
    refine sc_ctorN "BasketEnvoys" [] [.ref n, .ref t0] rfl C mi_6 il_3_11 rfl ⟨by decide, by decide⟩ (Nat.le_of_ble_eq_true rfl) (mc := 5) (ms := 2004) (by rw [hmc]; omega) (by rw [hms]; omega) (by decide +kernel) (c_C6_init n n2 rf2 τ2) (fun n3 rf3 τ3 => ?_)
    refine sc_putR 3 0 3 n cls3 C (by decide) rfl hnm rfl (fun _ => rfl) (fun _ => rfl) fl3_12 (by decide +kernel) (fun n4 rf4 τ4 => ?_)
    refine sc_seg C [(.aload_n 0, 0)] (pc' := 16) (L' := [(0, .ref t0)]) (S' := [.ref t0]) (by decide +kernel) rfl ?_
    refine sc_new 2 8 cls2 C kl_3_18 in_2 it_2 (by decide +kernel) (by rw [hmc]; omega) (by rw [hms]; omega) (by decide +kernel) (fun n5 rf5 τ5 => ?_)
    refine sc_seg C [(.dup, 0)] (pc' := 20) (L' := [(0, .ref t0)]) (S' := [.ref n4, .ref n4, .ref t0]) (by decide +kernel) rfl ?_
    refine sc_ctorN "BasketEnvoys" [] [.ref n4, .ref t0] rfl C mi_2 il_3_20 rfl ⟨by decide, by decide⟩ (Nat.le_of_ble_eq_true rfl) (mc := 6) (ms := 496) (by rw [hmc]; omega) (by rw [hms]; omega) (by decide +kernel) (c_C2_init n4 n5 rf5 τ5) (fun n6 rf6 τ6 => ?_)
    refine sc_putR 3 1 3 n4 cls3 C (by decide) rfl hnm rfl (fun _ => rfl) (fun _ => rfl) fl3_21 (by decide +kernel) (fun n7 rf7 τ7 => ?_)
    refine sc_seg C [(.aload_n 0, 0), (.sipush 128, 128)] (pc' := 30) (L' := [(0, .ref t0)]) (S' := [.int 128, .ref t0]) (by decide +kernel) rfl ?_
    refine sc_newa 20 0 128 (atype := .int) rfl (fun _ => rfl) (by decide) (by decide) rfl (fun _ _ h => h) (by decide) C aw_int (by rw [hmc]; omega) (by rw [hms]; omega) (by decide +kernel) (fun n8 rf8 τ8 => ?_)
    refine sc_putR 3 2 3 n7 cls3 C (by decide) rfl hnm rfl (fun _ => rfl) (fun _ => rfl) fl3_25 (by decide +kernel) (fun n9 rf9 τ9 => ?_)
    exact sc_vret C hr (by decide +kernel)) h
def C0_init (t0 : Nat) (t1 : Nat) (n : Nat) (rf : RF) (τ : Tau) : O3 :=
  cnewa kdU lnU 20 10 10 n rf τ fun n2 rf2 τ2 => cputR kdU lnU 0 2 t0 1 n n2 rf2 τ2 fun n3 rf3 τ3 => cputR kdU lnU 0 2 t0 0 t1 n3 rf3 τ3 fun n4 rf4 τ4 => some (n4, rf4, τ4)
set_option maxRecDepth 20000 in
set_option maxHeartbeats 4000000 in
theorem c_C0_init (t0 : Nat) (t1 : Nat) (n : Nat) (rf : RF) (τ : Tau) (n' : Nat) (rf' : RF) (τ' : Tau) (h : C0_init t0 t1 n rf τ = some (n', rf', τ')) : MCc kdU lnU yX0_init cX0_init 2 2 1 10 [.ref t0, .ref t1] n rf τ n' rf' τ' :=
  mcc_of (by decide +kernel) (Nat.le_of_ble_eq_true rfl) (fun K b C hr hnm hmc hms => by
    show Sc K b kdU lnU 2 (Qc K b kdU lnU 1 10) 0 0 (C0_init t0 t1 n rf τ) 0 [(0, .ref t0), (1, .ref t1)] [] n rf τ
    unfold C0_init
    refine sc_seg C [(.aload_n 0, 0)] (pc' := 1) (L' := [(0, .ref t0), (1, .ref t1)]) (S' := [.ref t0]) (by decide +kernel) rfl ?_
    refine sc_obj C (by decide) il_0_3 ow_i ow_c (Nat.le_of_ble_eq_true rfl) (by decide +kernel) ?_
    refine sc_seg C [(.aload_n 0, 0), (.bipush 10, 10)] (pc' := 7) (L' := [(0, .ref t0), (1, .ref t1)]) (S' := [.int 10, .ref t0]) (by decide +kernel) rfl ?_
    refine sc_newa 20 0 10 (atype := .int) rfl (fun _ => rfl) (by decide) (by decide) rfl (fun _ _ h => h) (by decide) C aw_int (by rw [hmc]; omega) (by rw [hms]; omega) (by decide +kernel) (fun n2 rf2 τ2 => ?_)
    refine sc_putR 0 1 2 n cls0 C (by decide) rfl hnm rfl (fun _ => rfl) (fun _ => rfl) fl0_9 (by decide +kernel) (fun n3 rf3 τ3 => ?_)
    refine sc_seg C [(.aload_n 0, 0), (.aload_n 1, 0)] (pc' := 14) (L' := [(0, .ref t0), (1, .ref t1)]) (S' := [.ref t1, .ref t0]) (by decide +kernel) rfl ?_
    refine sc_putR 0 0 2 t1 cls0 C (by decide) rfl hnm rfl (fun _ => rfl) (fun _ => rfl) fl0_15 (by decide +kernel) (fun n4 rf4 τ4 => ?_)
    exact sc_vret C hr (by decide +kernel)) h
def C4_init (t0 : Nat) (t1 : Nat) (n : Nat) (rf : RF) (τ : Tau) : O3 :=
  cnewa kdU lnU 20 1024 1024 n rf τ fun n2 rf2 τ2 => cputR kdU lnU 4 11 t0 2 n n2 rf2 τ2 fun n3 rf3 τ3 => cnewa kdU lnU 20 1024 1024 n3 rf3 τ3 fun n4 rf4 τ4 => cputR kdU lnU 4 11 t0 3 n3 n4 rf4 τ4 fun n5 rf5 τ5 => cnewa kdU lnU 20 8 8 n5 rf5 τ5 fun n6 rf6 τ6 => cputR kdU lnU 4 11 t0 4 n5 n6 rf6 τ6 fun n7 rf7 τ7 => cnewa kdU lnU 20 8 8 n7 rf7 τ7 fun n8 rf8 τ8 => cputR kdU lnU 4 11 t0 5 n7 n8 rf8 τ8 fun n9 rf9 τ9 => cnewa kdU lnU 20 5 5 n9 rf9 τ9 fun n10 rf10 τ10 => cputR kdU lnU 4 11 t0 6 n9 n10 rf10 τ10 fun n11 rf11 τ11 => cnewa kdU lnU 20 6 6 n11 rf11 τ11 fun n12 rf12 τ12 => cputR kdU lnU 4 11 t0 7 n11 n12 rf12 τ12 fun n13 rf13 τ13 => cnewa kdU lnU 20 169 169 n13 rf13 τ13 fun n14 rf14 τ14 => cputR kdU lnU 4 11 t0 8 n13 n14 rf14 τ14 fun n15 rf15 τ15 => cnewa kdU lnU 21 1024 1024 n15 rf15 τ15 fun n16 rf16 τ16 => cputR kdU lnU 4 11 t0 9 n15 n16 rf16 τ16 fun n17 rf17 τ17 => cputI kdU lnU 4 11 t0 10 0 n17 rf17 τ17 fun n18 rf18 τ18 => cputR kdU lnU 4 11 t0 0 t1 n18 rf18 τ18 fun n19 rf19 τ19 => cgetR kdU lnU 9 9 t1 1 (t1 + 14) n19 rf19 τ19 (cputR kdU lnU 4 11 t0 1 (t1 + 14) n19 rf19 τ19 fun n21 rf21 τ21 => some (n21, rf21, τ21))
set_option maxRecDepth 20000 in
set_option maxHeartbeats 4000000 in
theorem c_C4_init (t0 : Nat) (t1 : Nat) (n : Nat) (rf : RF) (τ : Tau) (n' : Nat) (rf' : RF) (τ' : Tau) (h : C4_init t0 t1 n rf τ = some (n', rf', τ')) : MCc kdU lnU yX4_init cX4_init 2 2 8 3268 [.ref t0, .ref t1] n rf τ n' rf' τ' :=
  mcc_of (by decide +kernel) (Nat.le_of_ble_eq_true rfl) (fun K b C hr hnm hmc hms => by
    show Sc K b kdU lnU 2 (Qc K b kdU lnU 8 3268) 0 0 (C4_init t0 t1 n rf τ) 0 [(0, .ref t0), (1, .ref t1)] [] n rf τ
    unfold C4_init
    refine sc_seg C [(.aload_n 0, 0)] (pc' := 1) (L' := [(0, .ref t0), (1, .ref t1)]) (S' := [.ref t0]) (by decide +kernel) rfl ?_
    refine sc_obj C (by decide) il_4_3 ow_i ow_c (Nat.le_of_ble_eq_true rfl) (by decide +kernel) ?_
    refine sc_seg C [(.aload_n 0, 0), (.sipush 1024, 1024)] (pc' := 8) (L' := [(0, .ref t0), (1, .ref t1)]) (S' := [.int 1024, .ref t0]) (by decide +kernel) rfl ?_
    refine sc_newa 20 0 1024 (atype := .int) rfl (fun _ => rfl) (by decide) (by decide) rfl (fun _ _ h => h) (by decide) C aw_int (by rw [hmc]; omega) (by rw [hms]; omega) (by decide +kernel) (fun n2 rf2 τ2 => ?_)
    refine sc_putR 4 2 11 n cls4 C (by decide) rfl hnm rfl (fun _ => rfl) (fun _ => rfl) fl4_9 (by decide +kernel) (fun n3 rf3 τ3 => ?_)
    refine sc_seg C [(.aload_n 0, 0), (.sipush 1024, 1024)] (pc' := 17) (L' := [(0, .ref t0), (1, .ref t1)]) (S' := [.int 1024, .ref t0]) (by decide +kernel) rfl ?_
    refine sc_newa 20 0 1024 (atype := .int) rfl (fun _ => rfl) (by decide) (by decide) rfl (fun _ _ h => h) (by decide) C aw_int (by rw [hmc]; omega) (by rw [hms]; omega) (by decide +kernel) (fun n4 rf4 τ4 => ?_)
    refine sc_putR 4 3 11 n3 cls4 C (by decide) rfl hnm rfl (fun _ => rfl) (fun _ => rfl) fl4_15 (by decide +kernel) (fun n5 rf5 τ5 => ?_)
    refine sc_seg C [(.aload_n 0, 0), (.bipush 8, 8)] (pc' := 25) (L' := [(0, .ref t0), (1, .ref t1)]) (S' := [.int 8, .ref t0]) (by decide +kernel) rfl ?_
    refine sc_newa 20 0 8 (atype := .int) rfl (fun _ => rfl) (by decide) (by decide) rfl (fun _ _ h => h) (by decide) C aw_int (by rw [hmc]; omega) (by rw [hms]; omega) (by decide +kernel) (fun n6 rf6 τ6 => ?_)
    refine sc_putR 4 4 11 n5 cls4 C (by decide) rfl hnm rfl (fun _ => rfl) (fun _ => rfl) fl4_18 (by decide +kernel) (fun n7 rf7 τ7 => ?_)
    refine sc_seg C [(.aload_n 0, 0), (.bipush 8, 8)] (pc' := 33) (L' := [(0, .ref t0), (1, .ref t1)]) (S' := [.int 8, .ref t0]) (by decide +kernel) rfl ?_
    refine sc_newa 20 0 8 (atype := .int) rfl (fun _ => rfl) (by decide) (by decide) rfl (fun _ _ h => h) (by decide) C aw_int (by rw [hmc]; omega) (by rw [hms]; omega) (by decide +kernel) (fun n8 rf8 τ8 => ?_)
    refine sc_putR 4 5 11 n7 cls4 C (by decide) rfl hnm rfl (fun _ => rfl) (fun _ => rfl) fl4_21 (by decide +kernel) (fun n9 rf9 τ9 => ?_)
    refine sc_seg C [(.aload_n 0, 0), (.iconst 5, 5)] (pc' := 40) (L' := [(0, .ref t0), (1, .ref t1)]) (S' := [.int 5, .ref t0]) (by decide +kernel) rfl ?_
    refine sc_newa 20 0 5 (atype := .int) rfl (fun _ => rfl) (by decide) (by decide) rfl (fun _ _ h => h) (by decide) C aw_int (by rw [hmc]; omega) (by rw [hms]; omega) (by decide +kernel) (fun n10 rf10 τ10 => ?_)
    refine sc_putR 4 6 11 n9 cls4 C (by decide) rfl hnm rfl (fun _ => rfl) (fun _ => rfl) fl4_24 (by decide +kernel) (fun n11 rf11 τ11 => ?_)
    refine sc_seg C [(.aload_n 0, 0), (.bipush 6, 6)] (pc' := 48) (L' := [(0, .ref t0), (1, .ref t1)]) (S' := [.int 6, .ref t0]) (by decide +kernel) rfl ?_
    refine sc_newa 20 0 6 (atype := .int) rfl (fun _ => rfl) (by decide) (by decide) rfl (fun _ _ h => h) (by decide) C aw_int (by rw [hmc]; omega) (by rw [hms]; omega) (by decide +kernel) (fun n12 rf12 τ12 => ?_)
    refine sc_putR 4 7 11 n11 cls4 C (by decide) rfl hnm rfl (fun _ => rfl) (fun _ => rfl) fl4_27 (by decide +kernel) (fun n13 rf13 τ13 => ?_)
    refine sc_seg C [(.aload_n 0, 0), (.sipush 169, 169)] (pc' := 57) (L' := [(0, .ref t0), (1, .ref t1)]) (S' := [.int 169, .ref t0]) (by decide +kernel) rfl ?_
    refine sc_newa 20 0 169 (atype := .int) rfl (fun _ => rfl) (by decide) (by decide) rfl (fun _ _ h => h) (by decide) C aw_int (by rw [hmc]; omega) (by rw [hms]; omega) (by decide +kernel) (fun n14 rf14 τ14 => ?_)
    refine sc_putR 4 8 11 n13 cls4 C (by decide) rfl hnm rfl (fun _ => rfl) (fun _ => rfl) fl4_30 (by decide +kernel) (fun n15 rf15 τ15 => ?_)
    refine sc_seg C [(.aload_n 0, 0), (.sipush 1024, 1024)] (pc' := 66) (L' := [(0, .ref t0), (1, .ref t1)]) (S' := [.int 1024, .ref t0]) (by decide +kernel) rfl ?_
    refine sc_newa 21 1 1024 (atype := .boolean) rfl (fun _ => rfl) (by decide) (by decide) rfl (fun _ _ h => h) (by decide) C aw_boolean (by rw [hmc]; omega) (by rw [hms]; omega) (by decide +kernel) (fun n16 rf16 τ16 => ?_)
    refine sc_putR 4 9 11 n15 cls4 C (by decide) rfl hnm rfl (fun _ => rfl) (fun _ => rfl) fl4_33 (by decide +kernel) (fun n17 rf17 τ17 => ?_)
    refine sc_seg C [(.aload_n 0, 0), (.iconst 0, 0)] (pc' := 73) (L' := [(0, .ref t0), (1, .ref t1)]) (S' := [.int 0, .ref t0]) (by decide +kernel) rfl ?_
    refine sc_putI 4 10 11 cls4 C (by decide) rfl rfl rfl fl4_37 (by decide +kernel) (fun n18 rf18 τ18 => ?_)
    refine sc_seg C [(.aload_n 0, 0), (.aload_n 1, 0)] (pc' := 78) (L' := [(0, .ref t0), (1, .ref t1)]) (S' := [.ref t1, .ref t0]) (by decide +kernel) rfl ?_
    refine sc_putR 4 0 11 t1 cls4 C (by decide) rfl hnm rfl (fun _ => rfl) (fun _ => rfl) fl4_41 (by decide +kernel) (fun n19 rf19 τ19 => ?_)
    refine sc_seg C [(.aload_n 0, 0), (.aload_n 1, 0)] (pc' := 83) (L' := [(0, .ref t0), (1, .ref t1)]) (S' := [.ref t1, .ref t0]) (by decide +kernel) rfl ?_
    refine sc_getR 9 1 9 (t1 + 14) cls9 C (by decide) fl4_45 (by decide +kernel) ?_
    refine sc_putR 4 1 11 (t1 + 14) cls4 C (by decide) rfl hnm rfl (fun _ => rfl) (fun _ => rfl) fl4_51 (by decide +kernel) (fun n21 rf21 τ21 => ?_)
    exact sc_vret C hr (by decide +kernel)) h
def C10_init (t0 : Nat) (n : Nat) (rf : RF) (τ : Tau) : O3 :=
  cnew kdU lnU 9 9 (fun j => ([1, 1, 1, 1, 1, 1, 1, 1, 1] : List Nat).getD j 0) n rf τ fun n2 rf2 τ2 => ccall (C9_init n n2 rf2 τ2) fun n3 rf3 τ3 => cputR kdU lnU 10 8 t0 0 n n3 rf3 τ3 fun n4 rf4 τ4 => cnew kdU lnU 9 9 (fun j => ([1, 1, 1, 1, 1, 1, 1, 1, 1] : List Nat).getD j 0) n4 rf4 τ4 fun n5 rf5 τ5 => ccall (C9_init n4 n5 rf5 τ5) fun n6 rf6 τ6 => cputR kdU lnU 10 8 t0 1 n4 n6 rf6 τ6 fun n7 rf7 τ7 => cputI kdU lnU 10 8 t0 2 0 n7 rf7 τ7 fun n8 rf8 τ8 => cnew kdU lnU 8 19 (fun j => ([0, 0, 0, 0, 0, 0, 0, 1, 1, 1, 1, 1, 1, 1, 1, 1, 1, 1, 1] : List Nat).getD j 0) n8 rf8 τ8 fun n9 rf9 τ9 => ccall (C8_init n8 n9 rf9 τ9) fun n10 rf10 τ10 => cputR kdU lnU 10 8 t0 3 n8 n10 rf10 τ10 fun n11 rf11 τ11 => cnew kdU lnU 1 3 (fun j => ([0, 0, 1] : List Nat).getD j 0) n11 rf11 τ11 fun n12 rf12 τ12 => ccall (C1_init n11 n12 rf12 τ12) fun n13 rf13 τ13 => cputR kdU lnU 10 8 t0 4 n11 n13 rf13 τ13 fun n14 rf14 τ14 => cnew kdU lnU 3 3 (fun j => ([1, 1, 1] : List Nat).getD j 0) n14 rf14 τ14 fun n15 rf15 τ15 => ccall (C3_init n14 n15 rf15 τ15) fun n16 rf16 τ16 => cputR kdU lnU 10 8 t0 5 n14 n16 rf16 τ16 fun n17 rf17 τ17 => cnew kdU lnU 0 2 (fun j => ([1, 1] : List Nat).getD j 0) n17 rf17 τ17 fun n18 rf18 τ18 => cgetR kdU lnU 10 8 t0 0 n n18 rf18 τ18 (ccall (C0_init n17 n n18 rf18 τ18) fun n20 rf20 τ20 => cputR kdU lnU 10 8 t0 6 n17 n20 rf20 τ20 fun n21 rf21 τ21 => cnew kdU lnU 4 11 (fun j => ([1, 1, 1, 1, 1, 1, 1, 1, 1, 1, 0] : List Nat).getD j 0) n21 rf21 τ21 fun n22 rf22 τ22 => cgetR kdU lnU 10 8 t0 0 n n22 rf22 τ22 (ccall (C4_init n21 n n22 rf22 τ22) fun n24 rf24 τ24 => cputR kdU lnU 10 8 t0 7 n21 n24 rf24 τ24 fun n25 rf25 τ25 => some (n25, rf25, τ25)))
set_option maxRecDepth 20000 in
set_option maxHeartbeats 4000000 in
theorem c_C10_init (t0 : Nat) (n : Nat) (rf : RF) (τ : Tau) (n' : Nat) (rf' : RF) (τ' : Tau) (h : C10_init t0 n rf τ = some (n', rf', τ')) : MCc kdU lnU yX10_init cX10_init 1 5 221 11507 [.ref t0] n rf τ n' rf' τ' :=
  mcc_of (by decide +kernel) (Nat.le_of_ble_eq_true rfl) (fun K b C hr hnm hmc hms => by
    show Sc K b kdU lnU 1 (Qc K b kdU lnU 221 11507) 0 0 (C10_init t0 n rf τ) 0 [(0, .ref t0)] [] n rf τ
    unfold C10_init
    refine sc_seg C [(.aload_n 0, 0)] (pc' := 1) (L' := [(0, .ref t0)]) (S' := [.ref t0]) (by decide +kernel) rfl ?_
    refine sc_obj C (by decide) il_10_3 ow_i ow_c (Nat.le_of_ble_eq_true rfl) (by decide +kernel) ?_
    refine sc_seg C [(.aload_n 0, 0)] (pc' := 5) (L' := [(0, .ref t0)]) (S' := [.ref t0]) (by decide +kernel) rfl ?_
    refine sc_new 9 9 cls9 C kl_10_9 in_9 it_9 (by decide +kernel) (by rw [hmc]; omega) (by rw [hms]; omega) (by decide +kernel) (fun n2 rf2 τ2 => ?_)
    refine sc_seg C [(.dup, 0)] (pc' := 9) (L' := [(0, .ref t0)]) (S' := [.ref n, .ref n, .ref t0]) (by decide +kernel) rfl ?_
    refine sc_ctor [] [.ref n, .ref t0] rfl C mi_9 il_10_11 rfl ⟨by decide, by decide⟩ (Nat.le_of_ble_eq_true rfl) (mc := 50) (ms := 1827) (by rw [hmc]; omega) (by rw [hms]; omega) (by decide +kernel) (c_C9_init n n2 rf2 τ2) (fun n3 rf3 τ3 => ?_)
    refine sc_putR 10 0 8 n cls10 C (by decide) rfl hnm rfl (fun _ => rfl) (fun _ => rfl) fl10_12 (by decide +kernel) (fun n4 rf4 τ4 => ?_)
    refine sc_seg C [(.aload_n 0, 0)] (pc' := 16) (L' := [(0, .ref t0)]) (S' := [.ref t0]) (by decide +kernel) rfl ?_
    refine sc_new 9 9 cls9 C kl_10_9 in_9 it_9 (by decide +kernel) (by rw [hmc]; omega) (by rw [hms]; omega) (by decide +kernel) (fun n5 rf5 τ5 => ?_)
    refine sc_seg C [(.dup, 0)] (pc' := 20) (L' := [(0, .ref t0)]) (S' := [.ref n4, .ref n4, .ref t0]) (by decide +kernel) rfl ?_
    refine sc_ctor [] [.ref n4, .ref t0] rfl C mi_9 il_10_11 rfl ⟨by decide, by decide⟩ (Nat.le_of_ble_eq_true rfl) (mc := 50) (ms := 1827) (by rw [hmc]; omega) (by rw [hms]; omega) (by decide +kernel) (c_C9_init n4 n5 rf5 τ5) (fun n6 rf6 τ6 => ?_)
    refine sc_putR 10 1 8 n4 cls10 C (by decide) rfl hnm rfl (fun _ => rfl) (fun _ => rfl) fl10_16 (by decide +kernel) (fun n7 rf7 τ7 => ?_)
    refine sc_seg C [(.aload_n 0, 0), (.iconst 0, 0)] (pc' := 28) (L' := [(0, .ref t0)]) (S' := [.int 0, .ref t0]) (by decide +kernel) rfl ?_
    refine sc_putI 10 2 8 cls10 C (by decide) rfl rfl rfl fl10_19 (by decide +kernel) (fun n8 rf8 τ8 => ?_)
    refine sc_seg C [(.aload_n 0, 0)] (pc' := 32) (L' := [(0, .ref t0)]) (S' := [.ref t0]) (by decide +kernel) rfl ?_
    refine sc_new 8 19 cls8 C kl_10_23 in_8 it_8 (by decide +kernel) (by rw [hmc]; omega) (by rw [hms]; omega) (by decide +kernel) (fun n9 rf9 τ9 => ?_)
    refine sc_seg C [(.dup, 0)] (pc' := 36) (L' := [(0, .ref t0)]) (S' := [.ref n8, .ref n8, .ref t0]) (by decide +kernel) rfl ?_
    refine sc_ctorN "BasketEnvoys" [] [.ref n8, .ref t0] rfl C mi_8 il_10_25 rfl ⟨by decide, by decide⟩ (Nat.le_of_ble_eq_true rfl) (mc := 12) (ms := 250) (by rw [hmc]; omega) (by rw [hms]; omega) (by decide +kernel) (c_C8_init n8 n9 rf9 τ9) (fun n10 rf10 τ10 => ?_)
    refine sc_putR 10 3 8 n8 cls10 C (by decide) rfl hnm rfl (fun _ => rfl) (fun _ => rfl) fl10_26 (by decide +kernel) (fun n11 rf11 τ11 => ?_)
    refine sc_seg C [(.aload_n 0, 0)] (pc' := 43) (L' := [(0, .ref t0)]) (S' := [.ref t0]) (by decide +kernel) rfl ?_
    refine sc_new 1 3 cls1 C kl_10_30 in_1 it_1 (by decide +kernel) (by rw [hmc]; omega) (by rw [hms]; omega) (by decide +kernel) (fun n12 rf12 τ12 => ?_)
    refine sc_seg C [(.dup, 0)] (pc' := 47) (L' := [(0, .ref t0)]) (S' := [.ref n11, .ref n11, .ref t0]) (by decide +kernel) rfl ?_
    refine sc_ctor [] [.ref n11, .ref t0] rfl C mi_1 il_10_32 rfl ⟨by decide, by decide⟩ (Nat.le_of_ble_eq_true rfl) (mc := 79) (ms := 1620) (by rw [hmc]; omega) (by rw [hms]; omega) (by decide +kernel) (c_C1_init n11 n12 rf12 τ12) (fun n13 rf13 τ13 => ?_)
    refine sc_putR 10 4 8 n11 cls10 C (by decide) rfl hnm rfl (fun _ => rfl) (fun _ => rfl) fl10_33 (by decide +kernel) (fun n14 rf14 τ14 => ?_)
    refine sc_seg C [(.aload_n 0, 0)] (pc' := 54) (L' := [(0, .ref t0)]) (S' := [.ref t0]) (by decide +kernel) rfl ?_
    refine sc_new 3 3 cls3 C kl_10_37 in_3 it_3 (by decide +kernel) (by rw [hmc]; omega) (by rw [hms]; omega) (by decide +kernel) (fun n15 rf15 τ15 => ?_)
    refine sc_seg C [(.dup, 0)] (pc' := 58) (L' := [(0, .ref t0)]) (S' := [.ref n14, .ref n14, .ref t0]) (by decide +kernel) rfl ?_
    refine sc_ctorN "BasketEnvoys" [] [.ref n14, .ref t0] rfl C mi_3 il_10_39 rfl ⟨by decide, by decide⟩ (Nat.le_of_ble_eq_true rfl) (mc := 14) (ms := 2649) (by rw [hmc]; omega) (by rw [hms]; omega) (by decide +kernel) (c_C3_init n14 n15 rf15 τ15) (fun n16 rf16 τ16 => ?_)
    refine sc_putR 10 5 8 n14 cls10 C (by decide) rfl hnm rfl (fun _ => rfl) (fun _ => rfl) fl10_40 (by decide +kernel) (fun n17 rf17 τ17 => ?_)
    refine sc_seg C [(.aload_n 0, 0)] (pc' := 65) (L' := [(0, .ref t0)]) (S' := [.ref t0]) (by decide +kernel) rfl ?_
    refine sc_new 0 2 cls0 C kl_10_44 in_0 it_0 (by decide +kernel) (by rw [hmc]; omega) (by rw [hms]; omega) (by decide +kernel) (fun n18 rf18 τ18 => ?_)
    refine sc_seg C [(.dup, 0), (.aload_n 0, 0)] (pc' := 70) (L' := [(0, .ref t0)]) (S' := [.ref t0, .ref n17, .ref n17, .ref t0]) (by decide +kernel) rfl ?_
    refine sc_getR 10 0 8 n cls10 C (by decide) fl10_12 (by decide +kernel) ?_
    refine sc_ctor [.ref n] [.ref n17, .ref t0] rfl C mi_0 il_10_46 rfl ⟨by decide, by decide⟩ (Nat.le_of_ble_eq_true rfl) (mc := 1) (ms := 10) (by rw [hmc]; omega) (by rw [hms]; omega) (by decide +kernel) (c_C0_init n17 n n18 rf18 τ18) (fun n20 rf20 τ20 => ?_)
    refine sc_putR 10 6 8 n17 cls10 C (by decide) rfl hnm rfl (fun _ => rfl) (fun _ => rfl) fl10_49 (by decide +kernel) (fun n21 rf21 τ21 => ?_)
    refine sc_seg C [(.aload_n 0, 0)] (pc' := 80) (L' := [(0, .ref t0)]) (S' := [.ref t0]) (by decide +kernel) rfl ?_
    refine sc_new 4 11 cls4 C kl_10_53 in_4 it_4 (by decide +kernel) (by rw [hmc]; omega) (by rw [hms]; omega) (by decide +kernel) (fun n22 rf22 τ22 => ?_)
    refine sc_seg C [(.dup, 0), (.aload_n 0, 0)] (pc' := 85) (L' := [(0, .ref t0)]) (S' := [.ref t0, .ref n21, .ref n21, .ref t0]) (by decide +kernel) rfl ?_
    refine sc_getR 10 0 8 n cls10 C (by decide) fl10_12 (by decide +kernel) ?_
    refine sc_ctor [.ref n] [.ref n21, .ref t0] rfl C mi_4 il_10_55 rfl ⟨by decide, by decide⟩ (Nat.le_of_ble_eq_true rfl) (mc := 8) (ms := 3268) (by rw [hmc]; omega) (by rw [hms]; omega) (by decide +kernel) (c_C4_init n21 n n22 rf22 τ22) (fun n24 rf24 τ24 => ?_)
    refine sc_putR 10 7 8 n21 cls10 C (by decide) rfl hnm rfl (fun _ => rfl) (fun _ => rfl) fl10_56 (by decide +kernel) (fun n25 rf25 τ25 => ?_)
    exact sc_vret C hr (by decide +kernel)) h
def C11_layNone_L (t0 : Nat) : Nat → Int32 → Nat → RF → Tau → O3
  | 0, _, _, _, _ => none
  | k + 1, a1, n, rf, τ =>
    if (120 : Int32) ≤ a1 then (some (n, rf, τ)) else (cgetR kdU lnU 11 37 t0 0 (t0 + 1) n rf τ (casti kdU lnU (t0 + 1) 2244 (261 + a1) (rmd a1 12) n rf τ fun n7 rf7 τ7 => C11_layNone_L t0 k (a1 + 1) n7 rf7 τ7))
theorem s_C11_layNone_L {K : Ctx} {b : Nat} (C : Cc K b RX11 cX11_layNone 2 2) (hr : Rt K none) (hmc : K.2.2.2.1.cells = 0) (hms : K.2.2.2.1.slots = 0) (t0 : Nat) : ∀ (k : Nat) (a1 : Int32) (n : Nat) (rf : RF) (τ : Tau), Sc K b kdU lnU 2 (Qc K b kdU lnU 0 0) 0 0 (C11_layNone_L t0 k a1 n rf τ) 10 [(0, .ref t0), (1, .int a1)] [] n rf τ := by
  intro k
  induction k with
  | zero => intro a1 n rf τ; exact sc_none
  | succ k ih =>
    intro a1 n rf τ
    rw [C11_layNone_L]
    refine sc_seg C [(.iload_n 1, 0), (.bipush 120, 120)] (pc' := 13) (L' := [(0, .ref t0), (1, .int a1)]) (S' := [.int 120, .int a1]) (by decide +kernel) rfl ?_
    refine sc_icmpge 36 (off := 23) C (by decide +kernel) (by decide) (fun _ => ?_) (fun _ => ?_)
    · exact sc_vret C hr (by decide +kernel)
    · refine sc_seg C [(.aload_n 0, 0)] (pc' := 17) (L' := [(0, .ref t0), (1, .int a1)]) (S' := [.ref t0]) (by decide +kernel) rfl ?_
      refine sc_getR 11 0 37 (t0 + 1) cls11 C (by decide) fl11_7 (by decide +kernel) ?_
      refine sc_seg C [(.sipush 261, 261), (.iload_n 1, 0), (.iadd, 0), (.iload_n 1, 0), (.bipush 12, 12)] (pc' := 28) (L' := [(0, .ref t0), (1, .int a1)]) (S' := [.int 12, .int a1, .int (261 + a1), .ref (t0 + 1)]) (by decide +kernel) rfl ?_
      refine sc_irem C (by decide +kernel) (by decide) ?_
      refine sc_iast 2244 C (by decide +kernel) (fun n7 rf7 τ7 => ?_)
      refine sc_seg C [(.iinc 1 1, 1), (.goto (-23), 0)] (pc' := 10) (L' := [(1, .int (a1 + 1)), (0, .ref t0)]) (S' := []) (by decide +kernel) rfl ?_
      exact sc_sub [1, 0] rfl (ih (a1 + 1) n7 rf7 τ7)
def C11_layNone (t0 : Nat) (n : Nat) (rf : RF) (τ : Tau) : O3 :=
  cgetR kdU lnU 11 37 t0 0 (t0 + 1) n rf τ (casti kdU lnU (t0 + 1) 2244 0 10 n rf τ fun n2 rf2 τ2 => C11_layNone_L t0 1000 0 n2 rf2 τ2)
set_option maxRecDepth 20000 in
set_option maxHeartbeats 4000000 in
theorem c_C11_layNone (t0 : Nat) (n : Nat) (rf : RF) (τ : Tau) (n' : Nat) (rf' : RF) (τ' : Tau) (h : C11_layNone t0 n rf τ = some (n', rf', τ')) : MCc kdU lnU yX11_layNone cX11_layNone 2 2 0 0 [.ref t0] n rf τ n' rf' τ' :=
  mcc_of (by decide +kernel) (Nat.le_of_ble_eq_true rfl) (fun K b C hr hnm hmc hms => by
    show Sc K b kdU lnU 2 (Qc K b kdU lnU 0 0) 0 0 (C11_layNone t0 n rf τ) 0 [(0, .ref t0)] [] n rf τ
    unfold C11_layNone
    refine sc_seg C [(.aload_n 0, 0)] (pc' := 1) (L' := [(0, .ref t0)]) (S' := [.ref t0]) (by decide +kernel) rfl ?_
    refine sc_getR 11 0 37 (t0 + 1) cls11 C (by decide) fl11_7 (by decide +kernel) ?_
    refine sc_seg C [(.iconst 0, 0), (.bipush 10, 10)] (pc' := 7) (L' := [(0, .ref t0)]) (S' := [.int 10, .int 0, .ref (t0 + 1)]) (by decide +kernel) rfl ?_
    refine sc_iast 2244 C (by decide +kernel) (fun n2 rf2 τ2 => ?_)
    refine sc_seg C [(.iconst 0, 0), (.istore_n 1, 0)] (pc' := 10) (L' := [(1, .int 0), (0, .ref t0)]) (S' := []) (by decide +kernel) rfl ?_
    exact sc_sub [1, 0] rfl (s_C11_layNone_L C hr hmc hms t0 1000 0 n2 rf2 τ2)) h
def C11_init (t0 : Nat) (n : Nat) (rf : RF) (τ : Tau) : O3 :=
  cnewa kdU lnU 20 2244 2244 n rf τ fun n2 rf2 τ2 => cputR kdU lnU 11 37 t0 0 n n2 rf2 τ2 fun n3 rf3 τ3 => cnewa kdU lnU 20 2244 2244 n3 rf3 τ3 fun n4 rf4 τ4 => cputR kdU lnU 11 37 t0 1 n3 n4 rf4 τ4 fun n5 rf5 τ5 => cnewa kdU lnU 20 1530 1530 n5 rf5 τ5 fun n6 rf6 τ6 => cputR kdU lnU 11 37 t0 2 n5 n6 rf6 τ6 fun n7 rf7 τ7 => cnewa kdU lnU 20 255 255 n7 rf7 τ7 fun n8 rf8 τ8 => cputR kdU lnU 11 37 t0 3 n7 n8 rf8 τ8 fun n9 rf9 τ9 => cnewa kdU lnU 20 64 64 n9 rf9 τ9 fun n10 rf10 τ10 => cputR kdU lnU 11 37 t0 6 n9 n10 rf10 τ10 fun n11 rf11 τ11 => cnewa kdU lnU 20 820 820 n11 rf11 τ11 fun n12 rf12 τ12 => cputR kdU lnU 11 37 t0 7 n11 n12 rf12 τ12 fun n13 rf13 τ13 => cnewa kdU lnU 20 140 140 n13 rf13 τ13 fun n14 rf14 τ14 => cputR kdU lnU 11 37 t0 8 n13 n14 rf14 τ14 fun n15 rf15 τ15 => cnewa kdU lnU 20 400 400 n15 rf15 τ15 fun n16 rf16 τ16 => cputR kdU lnU 11 37 t0 9 n15 n16 rf16 τ16 fun n17 rf17 τ17 => cnewa kdU lnU 20 420 420 n17 rf17 τ17 fun n18 rf18 τ18 => cputR kdU lnU 11 37 t0 10 n17 n18 rf18 τ18 fun n19 rf19 τ19 => cnewa kdU lnU 20 11 11 n19 rf19 τ19 fun n20 rf20 τ20 => cputR kdU lnU 11 37 t0 11 n19 n20 rf20 τ20 fun n21 rf21 τ21 => cputI kdU lnU 11 37 t0 25 (-1) n21 rf21 τ21 fun n22 rf22 τ22 => cnewa kdU lnU 20 8 8 n22 rf22 τ22 fun n23 rf23 τ23 => cputR kdU lnU 11 37 t0 27 n22 n23 rf23 τ23 fun n24 rf24 τ24 => cnewa kdU lnU 21 441 441 n24 rf24 τ24 fun n25 rf25 τ25 => cputR kdU lnU 11 37 t0 28 n24 n25 rf25 τ25 fun n26 rf26 τ26 => cnewa kdU lnU 21 441 441 n26 rf26 τ26 fun n27 rf27 τ27 => cputR kdU lnU 11 37 t0 29 n26 n27 rf27 τ27 fun n28 rf28 τ28 => cnewa kdU lnU 20 64 64 n28 rf28 τ28 fun n29 rf29 τ29 => cputR kdU lnU 11 37 t0 30 n28 n29 rf29 τ29 fun n30 rf30 τ30 => cnewa kdU lnU 20 256 256 n30 rf30 τ30 fun n31 rf31 τ31 => cputR kdU lnU 11 37 t0 31 n30 n31 rf31 τ31 fun n32 rf32 τ32 => cnewa kdU lnU 20 256 256 n32 rf32 τ32 fun n33 rf33 τ33 => cputR kdU lnU 11 37 t0 32 n32 n33 rf33 τ33 fun n34 rf34 τ34 => cnewa kdU lnU 20 169 169 n34 rf34 τ34 fun n35 rf35 τ35 => cputR kdU lnU 11 37 t0 33 n34 n35 rf35 τ35 fun n36 rf36 τ36 => cnewa kdU lnU 20 169 169 n36 rf36 τ36 fun n37 rf37 τ37 => cputR kdU lnU 11 37 t0 34 n36 n37 rf37 τ37 fun n38 rf38 τ38 => cnewa kdU lnU 20 5 5 n38 rf38 τ38 fun n39 rf39 τ39 => cputR kdU lnU 11 37 t0 35 n38 n39 rf39 τ39 fun n40 rf40 τ40 => cnewa kdU lnU 21 1024 1024 n40 rf40 τ40 fun n41 rf41 τ41 => cputR kdU lnU 11 37 t0 36 n40 n41 rf41 τ41 fun n42 rf42 τ42 => if t0 < n42 ∧ kdU t0 = 11 then ccall (C11_layNone t0 n42 rf42 τ42) (fun n43 rf43 τ43 => some (n43, rf43, τ43)) else none
set_option maxRecDepth 20000 in
set_option maxHeartbeats 4000000 in
theorem c_C11_init (t0 : Nat) (n : Nat) (rf : RF) (τ : Tau) (n' : Nat) (rf' : RF) (τ' : Tau) (h : C11_init t0 n rf τ = some (n', rf', τ')) : MCc kdU lnU yX11_init cX11_init 1 3 20 10961 [.ref t0] n rf τ n' rf' τ' :=
  mcc_of (by decide +kernel) (Nat.le_of_ble_eq_true rfl) (fun K b C hr hnm hmc hms => by
    show Sc K b kdU lnU 1 (Qc K b kdU lnU 20 10961) 0 0 (C11_init t0 n rf τ) 0 [(0, .ref t0)] [] n rf τ
    unfold C11_init
    refine sc_seg C [(.aload_n 0, 0)] (pc' := 1) (L' := [(0, .ref t0)]) (S' := [.ref t0]) (by decide +kernel) rfl ?_
    refine sc_obj C (by decide) il_11_1 ow_i ow_c (Nat.le_of_ble_eq_true rfl) (by decide +kernel) ?_
    refine sc_seg C [(.aload_n 0, 0), (.sipush 2244, 2244)] (pc' := 8) (L' := [(0, .ref t0)]) (S' := [.int 2244, .ref t0]) (by decide +kernel) rfl ?_
    refine sc_newa 20 0 2244 (atype := .int) rfl (fun _ => rfl) (by decide) (by decide) rfl (fun _ _ h => h) (by decide) C aw_int (by rw [hmc]; omega) (by rw [hms]; omega) (by decide +kernel) (fun n2 rf2 τ2 => ?_)
    refine sc_putR 11 0 37 n cls11 C (by decide) rfl hnm rfl (fun _ => rfl) (fun _ => rfl) fl11_7 (by decide +kernel) (fun n3 rf3 τ3 => ?_)
    refine sc_seg C [(.aload_n 0, 0), (.sipush 2244, 2244)] (pc' := 17) (L' := [(0, .ref t0)]) (S' := [.int 2244, .ref t0]) (by decide +kernel) rfl ?_
    refine sc_newa 20 0 2244 (atype := .int) rfl (fun _ => rfl) (by decide) (by decide) rfl (fun _ _ h => h) (by decide) C aw_int (by rw [hmc]; omega) (by rw [hms]; omega) (by decide +kernel) (fun n4 rf4 τ4 => ?_)
    refine sc_putR 11 1 37 n3 cls11 C (by decide) rfl hnm rfl (fun _ => rfl) (fun _ => rfl) fl11_13 (by decide +kernel) (fun n5 rf5 τ5 => ?_)
    refine sc_seg C [(.aload_n 0, 0), (.sipush 1530, 1530)] (pc' := 26) (L' := [(0, .ref t0)]) (S' := [.int 1530, .ref t0]) (by decide +kernel) rfl ?_
    refine sc_newa 20 0 1530 (atype := .int) rfl (fun _ => rfl) (by decide) (by decide) rfl (fun _ _ h => h) (by decide) C aw_int (by rw [hmc]; omega) (by rw [hms]; omega) (by decide +kernel) (fun n6 rf6 τ6 => ?_)
    refine sc_putR 11 2 37 n5 cls11 C (by decide) rfl hnm rfl (fun _ => rfl) (fun _ => rfl) fl11_16 (by decide +kernel) (fun n7 rf7 τ7 => ?_)
    refine sc_seg C [(.aload_n 0, 0), (.sipush 255, 255)] (pc' := 35) (L' := [(0, .ref t0)]) (S' := [.int 255, .ref t0]) (by decide +kernel) rfl ?_
    refine sc_newa 20 0 255 (atype := .int) rfl (fun _ => rfl) (by decide) (by decide) rfl (fun _ _ h => h) (by decide) C aw_int (by rw [hmc]; omega) (by rw [hms]; omega) (by decide +kernel) (fun n8 rf8 τ8 => ?_)
    refine sc_putR 11 3 37 n7 cls11 C (by decide) rfl hnm rfl (fun _ => rfl) (fun _ => rfl) fl11_19 (by decide +kernel) (fun n9 rf9 τ9 => ?_)
    refine sc_seg C [(.aload_n 0, 0), (.bipush 64, 64)] (pc' := 43) (L' := [(0, .ref t0)]) (S' := [.int 64, .ref t0]) (by decide +kernel) rfl ?_
    refine sc_newa 20 0 64 (atype := .int) rfl (fun _ => rfl) (by decide) (by decide) rfl (fun _ _ h => h) (by decide) C aw_int (by rw [hmc]; omega) (by rw [hms]; omega) (by decide +kernel) (fun n10 rf10 τ10 => ?_)
    refine sc_putR 11 6 37 n9 cls11 C (by decide) rfl hnm rfl (fun _ => rfl) (fun _ => rfl) fl11_22 (by decide +kernel) (fun n11 rf11 τ11 => ?_)
    refine sc_seg C [(.aload_n 0, 0), (.sipush 820, 820)] (pc' := 52) (L' := [(0, .ref t0)]) (S' := [.int 820, .ref t0]) (by decide +kernel) rfl ?_
    refine sc_newa 20 0 820 (atype := .int) rfl (fun _ => rfl) (by decide) (by decide) rfl (fun _ _ h => h) (by decide) C aw_int (by rw [hmc]; omega) (by rw [hms]; omega) (by decide +kernel) (fun n12 rf12 τ12 => ?_)
    refine sc_putR 11 7 37 n11 cls11 C (by decide) rfl hnm rfl (fun _ => rfl) (fun _ => rfl) fl11_25 (by decide +kernel) (fun n13 rf13 τ13 => ?_)
    refine sc_seg C [(.aload_n 0, 0), (.sipush 140, 140)] (pc' := 61) (L' := [(0, .ref t0)]) (S' := [.int 140, .ref t0]) (by decide +kernel) rfl ?_
    refine sc_newa 20 0 140 (atype := .int) rfl (fun _ => rfl) (by decide) (by decide) rfl (fun _ _ h => h) (by decide) C aw_int (by rw [hmc]; omega) (by rw [hms]; omega) (by decide +kernel) (fun n14 rf14 τ14 => ?_)
    refine sc_putR 11 8 37 n13 cls11 C (by decide) rfl hnm rfl (fun _ => rfl) (fun _ => rfl) fl11_28 (by decide +kernel) (fun n15 rf15 τ15 => ?_)
    refine sc_seg C [(.aload_n 0, 0), (.sipush 400, 400)] (pc' := 70) (L' := [(0, .ref t0)]) (S' := [.int 400, .ref t0]) (by decide +kernel) rfl ?_
    refine sc_newa 20 0 400 (atype := .int) rfl (fun _ => rfl) (by decide) (by decide) rfl (fun _ _ h => h) (by decide) C aw_int (by rw [hmc]; omega) (by rw [hms]; omega) (by decide +kernel) (fun n16 rf16 τ16 => ?_)
    refine sc_putR 11 9 37 n15 cls11 C (by decide) rfl hnm rfl (fun _ => rfl) (fun _ => rfl) fl11_31 (by decide +kernel) (fun n17 rf17 τ17 => ?_)
    refine sc_seg C [(.aload_n 0, 0), (.sipush 420, 420)] (pc' := 79) (L' := [(0, .ref t0)]) (S' := [.int 420, .ref t0]) (by decide +kernel) rfl ?_
    refine sc_newa 20 0 420 (atype := .int) rfl (fun _ => rfl) (by decide) (by decide) rfl (fun _ _ h => h) (by decide) C aw_int (by rw [hmc]; omega) (by rw [hms]; omega) (by decide +kernel) (fun n18 rf18 τ18 => ?_)
    refine sc_putR 11 10 37 n17 cls11 C (by decide) rfl hnm rfl (fun _ => rfl) (fun _ => rfl) fl11_34 (by decide +kernel) (fun n19 rf19 τ19 => ?_)
    refine sc_seg C [(.aload_n 0, 0), (.bipush 11, 11)] (pc' := 87) (L' := [(0, .ref t0)]) (S' := [.int 11, .ref t0]) (by decide +kernel) rfl ?_
    refine sc_newa 20 0 11 (atype := .int) rfl (fun _ => rfl) (by decide) (by decide) rfl (fun _ _ h => h) (by decide) C aw_int (by rw [hmc]; omega) (by rw [hms]; omega) (by decide +kernel) (fun n20 rf20 τ20 => ?_)
    refine sc_putR 11 11 37 n19 cls11 C (by decide) rfl hnm rfl (fun _ => rfl) (fun _ => rfl) fl11_37 (by decide +kernel) (fun n21 rf21 τ21 => ?_)
    refine sc_seg C [(.aload_n 0, 0), (.iconst (-1), (-1))] (pc' := 94) (L' := [(0, .ref t0)]) (S' := [.int (-1), .ref t0]) (by decide +kernel) rfl ?_
    refine sc_putI 11 25 37 cls11 C (by decide) rfl rfl rfl fl11_40 (by decide +kernel) (fun n22 rf22 τ22 => ?_)
    refine sc_seg C [(.aload_n 0, 0), (.bipush 8, 8)] (pc' := 100) (L' := [(0, .ref t0)]) (S' := [.int 8, .ref t0]) (by decide +kernel) rfl ?_
    refine sc_newa 20 0 8 (atype := .int) rfl (fun _ => rfl) (by decide) (by decide) rfl (fun _ _ h => h) (by decide) C aw_int (by rw [hmc]; omega) (by rw [hms]; omega) (by decide +kernel) (fun n23 rf23 τ23 => ?_)
    refine sc_putR 11 27 37 n22 cls11 C (by decide) rfl hnm rfl (fun _ => rfl) (fun _ => rfl) fl11_44 (by decide +kernel) (fun n24 rf24 τ24 => ?_)
    refine sc_seg C [(.aload_n 0, 0), (.sipush 441, 441)] (pc' := 109) (L' := [(0, .ref t0)]) (S' := [.int 441, .ref t0]) (by decide +kernel) rfl ?_
    refine sc_newa 21 1 441 (atype := .boolean) rfl (fun _ => rfl) (by decide) (by decide) rfl (fun _ _ h => h) (by decide) C aw_boolean (by rw [hmc]; omega) (by rw [hms]; omega) (by decide +kernel) (fun n25 rf25 τ25 => ?_)
    refine sc_putR 11 28 37 n24 cls11 C (by decide) rfl hnm rfl (fun _ => rfl) (fun _ => rfl) fl11_47 (by decide +kernel) (fun n26 rf26 τ26 => ?_)
    refine sc_seg C [(.aload_n 0, 0), (.sipush 441, 441)] (pc' := 118) (L' := [(0, .ref t0)]) (S' := [.int 441, .ref t0]) (by decide +kernel) rfl ?_
    refine sc_newa 21 1 441 (atype := .boolean) rfl (fun _ => rfl) (by decide) (by decide) rfl (fun _ _ h => h) (by decide) C aw_boolean (by rw [hmc]; omega) (by rw [hms]; omega) (by decide +kernel) (fun n27 rf27 τ27 => ?_)
    refine sc_putR 11 29 37 n26 cls11 C (by decide) rfl hnm rfl (fun _ => rfl) (fun _ => rfl) fl11_51 (by decide +kernel) (fun n28 rf28 τ28 => ?_)
    refine sc_seg C [(.aload_n 0, 0), (.bipush 64, 64)] (pc' := 126) (L' := [(0, .ref t0)]) (S' := [.int 64, .ref t0]) (by decide +kernel) rfl ?_
    refine sc_newa 20 0 64 (atype := .int) rfl (fun _ => rfl) (by decide) (by decide) rfl (fun _ _ h => h) (by decide) C aw_int (by rw [hmc]; omega) (by rw [hms]; omega) (by decide +kernel) (fun n29 rf29 τ29 => ?_)
    refine sc_putR 11 30 37 n28 cls11 C (by decide) rfl hnm rfl (fun _ => rfl) (fun _ => rfl) fl11_54 (by decide +kernel) (fun n30 rf30 τ30 => ?_)
    refine sc_seg C [(.aload_n 0, 0), (.sipush 256, 256)] (pc' := 135) (L' := [(0, .ref t0)]) (S' := [.int 256, .ref t0]) (by decide +kernel) rfl ?_
    refine sc_newa 20 0 256 (atype := .int) rfl (fun _ => rfl) (by decide) (by decide) rfl (fun _ _ h => h) (by decide) C aw_int (by rw [hmc]; omega) (by rw [hms]; omega) (by decide +kernel) (fun n31 rf31 τ31 => ?_)
    refine sc_putR 11 31 37 n30 cls11 C (by decide) rfl hnm rfl (fun _ => rfl) (fun _ => rfl) fl11_57 (by decide +kernel) (fun n32 rf32 τ32 => ?_)
    refine sc_seg C [(.aload_n 0, 0), (.sipush 256, 256)] (pc' := 144) (L' := [(0, .ref t0)]) (S' := [.int 256, .ref t0]) (by decide +kernel) rfl ?_
    refine sc_newa 20 0 256 (atype := .int) rfl (fun _ => rfl) (by decide) (by decide) rfl (fun _ _ h => h) (by decide) C aw_int (by rw [hmc]; omega) (by rw [hms]; omega) (by decide +kernel) (fun n33 rf33 τ33 => ?_)
    refine sc_putR 11 32 37 n32 cls11 C (by decide) rfl hnm rfl (fun _ => rfl) (fun _ => rfl) fl11_60 (by decide +kernel) (fun n34 rf34 τ34 => ?_)
    refine sc_seg C [(.aload_n 0, 0), (.sipush 169, 169)] (pc' := 153) (L' := [(0, .ref t0)]) (S' := [.int 169, .ref t0]) (by decide +kernel) rfl ?_
    refine sc_newa 20 0 169 (atype := .int) rfl (fun _ => rfl) (by decide) (by decide) rfl (fun _ _ h => h) (by decide) C aw_int (by rw [hmc]; omega) (by rw [hms]; omega) (by decide +kernel) (fun n35 rf35 τ35 => ?_)
    refine sc_putR 11 33 37 n34 cls11 C (by decide) rfl hnm rfl (fun _ => rfl) (fun _ => rfl) fl11_63 (by decide +kernel) (fun n36 rf36 τ36 => ?_)
    refine sc_seg C [(.aload_n 0, 0), (.sipush 169, 169)] (pc' := 162) (L' := [(0, .ref t0)]) (S' := [.int 169, .ref t0]) (by decide +kernel) rfl ?_
    refine sc_newa 20 0 169 (atype := .int) rfl (fun _ => rfl) (by decide) (by decide) rfl (fun _ _ h => h) (by decide) C aw_int (by rw [hmc]; omega) (by rw [hms]; omega) (by decide +kernel) (fun n37 rf37 τ37 => ?_)
    refine sc_putR 11 34 37 n36 cls11 C (by decide) rfl hnm rfl (fun _ => rfl) (fun _ => rfl) fl11_66 (by decide +kernel) (fun n38 rf38 τ38 => ?_)
    refine sc_seg C [(.aload_n 0, 0), (.iconst 5, 5)] (pc' := 169) (L' := [(0, .ref t0)]) (S' := [.int 5, .ref t0]) (by decide +kernel) rfl ?_
    refine sc_newa 20 0 5 (atype := .int) rfl (fun _ => rfl) (by decide) (by decide) rfl (fun _ _ h => h) (by decide) C aw_int (by rw [hmc]; omega) (by rw [hms]; omega) (by decide +kernel) (fun n39 rf39 τ39 => ?_)
    refine sc_putR 11 35 37 n38 cls11 C (by decide) rfl hnm rfl (fun _ => rfl) (fun _ => rfl) fl11_69 (by decide +kernel) (fun n40 rf40 τ40 => ?_)
    refine sc_seg C [(.aload_n 0, 0), (.sipush 1024, 1024)] (pc' := 178) (L' := [(0, .ref t0)]) (S' := [.int 1024, .ref t0]) (by decide +kernel) rfl ?_
    refine sc_newa 21 1 1024 (atype := .boolean) rfl (fun _ => rfl) (by decide) (by decide) rfl (fun _ _ h => h) (by decide) C aw_boolean (by rw [hmc]; omega) (by rw [hms]; omega) (by decide +kernel) (fun n41 rf41 τ41 => ?_)
    refine sc_putR 11 36 37 n40 cls11 C (by decide) rfl hnm rfl (fun _ => rfl) (fun _ => rfl) fl11_72 (by decide +kernel) (fun n42 rf42 τ42 => ?_)
    refine sc_seg C [(.aload_n 0, 0)] (pc' := 184) (L' := [(0, .ref t0)]) (S' := [.ref t0]) (by decide +kernel) rfl ?_
    refine sc_virtv 11 37 [] rfl C mw_X11_layNone ml_11_75 rfl (by decide) ⟨by decide, by decide⟩ (Nat.le_of_ble_eq_true rfl) (mc := 0) (ms := 0) (by rw [hmc]; omega) (by rw [hms]; omega) (by decide +kernel) (c_C11_layNone t0 n42 rf42 τ42) (fun n43 rf43 τ43 => ?_)
    exact sc_vret C hr (by decide +kernel)) h
