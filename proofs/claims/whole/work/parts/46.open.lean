/-! the claim out of the steps -/
def Steps (F : Nat) (Rl : Nat → Tau → Tau → Prop) : Prop := Step0 F Rl ∧ Step1 F Rl ∧ Step2 F Rl ∧ Step3 F Rl ∧ Step4 F Rl ∧ Step5 F Rl ∧ Step6 F Rl ∧ Step7 F Rl ∧ Step8 F Rl ∧ Step9 F Rl ∧ Step10 F Rl ∧ Step11 F Rl ∧ Step12 F Rl ∧ Step13 F Rl ∧ Step14 F Rl ∧ Step15 F Rl ∧ Step16 F Rl ∧ Step17 F Rl ∧ Step18 F Rl ∧ Step19 F Rl ∧ Step20 F Rl ∧ Step21 F Rl ∧ Step22 F Rl ∧ Step23 F Rl ∧ Step24 F Rl ∧ Step25 F Rl ∧ Step26 F Rl ∧ Step27 F Rl ∧ Step28 F Rl ∧ Step29 F Rl ∧ Step30 F Rl ∧ Step31 F Rl ∧ Step32 F Rl ∧ Step33 F Rl ∧ Step34 F Rl ∧ Step35 F Rl ∧ Step36 F Rl ∧ Step37 F Rl ∧ Step38 F Rl ∧ Step39 F Rl ∧ Step40 F Rl ∧ Step41 F Rl ∧ Step42 F Rl ∧ Step43 F Rl ∧ Step44 F Rl
set_option maxRecDepth 20000 in
set_option maxHeartbeats 4000000 in
theorem whole_open (F : Nat) (Rl : Nat → Tau → Tau → Prop) (hSt : Steps F Rl) (hmono : ∀ n tx tm, Rl n tx tm → Rl (n + 1) tx tm) (h00 : ∀ rf τ, runU = some (243, rf, τ) → Rl 0 τ (fun a i => τ (a + 222) i)) {p : Program} {e : Env} {s : State} {m : MethodId} {below : List Frame} {meth : Method} {c : Code} (l : Launch) (hflags : l.flags = flags0) {b L : Nat} {xs : Nat → Int32} (hL : L ≤ 3072) (C0 : lw_At p s m meth c b L xs) : W p l e room_1 s m #[Value.ref b] below meth c s.heap [] 0 0 (lw_Z below #[Value.ref b] s) (entryFrame m ([Value.ref b] : List Value).toArray 4) := by
  obtain ⟨hx, hb, hr, hml, hown, hts, hX, hbl, hlocks, hgv⟩ := id C0
  have hs := flat_of_before _ hgv
  have hg : ∀ w ∈ lw_g, w.before #[Value.ref b] s = true := fun w hw => hts w (g_tbl hw)
  have hownL : s.vm.findClass "BasketEnvoysLaw" = some m.cls := hown
  obtain ⟨D, cA, hK⟩ := K_known hts
  obtain ⟨fz, adK, adV, hStt⟩ := Stt_start hts hs hK b
  generalize hρe : rhoU s.heap.size b fz adK adV = ρ at hStt
  have hρ : ∀ q, q < 243 → ρ q = s.heap.size + q := fun q hq => by rw [← hρe]; unfold rhoU; rw [if_pos (by omega)]
  have hρs : ρ 400000 = b := by rw [← hρe]; unfold rhoU; rw [if_neg (by decide), if_neg (by decide), if_neg (by decide), if_neg (by decide)]
  have hfr : ∀ q, fr ρ sysU q → s.heap.size ≤ q := by
    rintro q ⟨k, hk, rfl⟩
    have hk' : k < 243 := hk
    rw [hρ k hk']
    omega
  have CC : Cc (p, l, e, room_1, s, m, #[Value.ref b], below, meth, c, 0, 0, D, cA, ρ) s.heap.size "BasketEnvoysLaw" code 4 100 :=
    ⟨hx, hb, hml, hownL, hg, ⟨by show 100 ≤ 2048; decide, by show 64 * 100 ≤ 84000; decide⟩, hK, hStt.2.2.1, hlocks, Nat.le_refl _, va_AO.of (hts _ ao_in)⟩
  have CX : Cx (p, l, e, room_1, s, m, #[Value.ref b], below, meth, c, 243, 22513, D, cA, ρ) sysU "BasketEnvoysLaw" code 4 100 :=
    ⟨hx, hb, hml, hownL, hg, ⟨by show 100 ≤ 2048; decide, by show 64 * 100 ≤ 84000; decide, by show 243 ≤ 600000; decide, by show 22513 ≤ 7302250; decide⟩, hStt, hlocks⟩
  have hScr : Scr (p, l, e, room_1, s, m, #[Value.ref b], below, meth, c, 243, 22513, D, cA, ρ) sysU L xs := by
    refine ⟨?_, ?_, ?_⟩
    · show va_X (ρ 400000) L xs s s.heap
      rw [hρs]; exact hX
    · show ρ 400000 < s.heap.size
      rw [hρs]; exact hbl
    · show ¬ fr ρ sysU (ρ 400000)
      rw [hρs]; exact fun h => absurd (hfr b h) (Nat.not_le.mpr hbl)
  obtain ⟨n1, rf1, τ1, rf3, τ3, r1, r2, r3, r4, r5⟩ := runU_parts
  subst r2
  rw [lg_entry_eq]
  have hl := lv_entry ([.ref b]) (n := 4) (Nat.le_of_ble_eq_true rfl)
  generalize (lg_sl ([.ref b]) ++ List.replicate (4 - (lg_sl ([.ref b])).length) Slot.unset).toArray = ls at hl ⊢
  have hl : lv_has ls 4 [(0, .ref b)] := hl
  refine w_new (kd := kdU) (ln := lnU) (K := (p, l, e, room_1, s, m, #[Value.ref b], below, meth, c, 0, 0, D, cA, ρ)) (n := 0) (rf := rf00) (τ := tau00) (f := fun j => ([1, 1, 0, 1, 1, 1, 1, 1] : List Nat).getD j 0) 10 8 cls10 CC (by decide +kernel) kl_BasketEnvoysLaw_7 in_10 it_10 (by decide +kernel) (by show 1 ≤ 600000; decide) (by show 8 ≤ 7302250; decide) (by decide +kernel) (fun k h => absurd h (Nat.not_lt_zero k)) rfl va_S.rf (fun H1 hP1 hz1 hS1 => ?_)
  refine lv_dup hx hb (by decide +kernel) rfl ?_
  refine w_ctor (kd := kdU) (ln := lnU) (K := (p, l, e, room_1, s, m, #[Value.ref b], below, meth, c, 0, 0, D, cA, ρ)) (nL := 4) (c := 0) (mc := 221) (ms := 11507) CC mi_10 il_BasketEnvoysLaw_9 hl.1 ⟨by decide, by decide⟩ (Nat.le_of_ble_eq_true rfl) (by show 222 ≤ 600000; decide) (by show 11515 ≤ 7302250; decide) (by decide +kernel) (c_C10_init 0 1 _ _ 222 rf1 τ1 r1) hP1 hz1 hS1 (fun H2 locs2 hP2 hz2 hS2 => ?_)
  refine lv_astore_n hx hb (k := 1) (i := 1) (by decide +kernel) rfl hl (by decide) rfl (fun ls2 hl2 => ?_)
  refine w_new (kd := kdU) (ln := lnU) (K := (p, l, e, room_1, s, m, #[Value.ref b], below, meth, c, 0, 0, D, cA, ρ)) (n := 222) (rf := rf1) (τ := τ1) (f := fun j => ([1, 1, 1, 1, 0, 0, 1, 1, 1, 1, 1, 1, 0, 0, 0, 0, 0, 0, 0, 0, 0, 0, 0, 0, 0, 0, 0, 1, 1, 1, 1, 1, 1, 1, 1, 1, 1] : List Nat).getD j 0) 11 37 cls11 CC (by decide +kernel) kl_BasketEnvoysLaw_10 in_11 it_11 (by decide +kernel) (by show 223 ≤ 600000; decide) (by show 11552 ≤ 7302250; decide) (by decide +kernel) hP2 hz2 hS2 (fun H3 hP3 hz3 hS3 => ?_)
  refine lv_dup hx hb (by decide +kernel) rfl ?_
  refine w_ctor (kd := kdU) (ln := lnU) (K := (p, l, e, room_1, s, m, #[Value.ref b], below, meth, c, 0, 0, D, cA, ρ)) (nL := 4) (c := 222) (mc := 20) (ms := 10961) CC mi_11 il_BasketEnvoysLaw_12 hl2.1 ⟨by decide, by decide⟩ (Nat.le_of_ble_eq_true rfl) (by show 243 ≤ 600000; decide) (by show 22513 ≤ 7302250; decide) (by decide +kernel) (c_C11_init 222 223 _ _ 243 rf3 τ3 r3) hP3 hz3 hS3 (fun H4 locs4 hP4 hz4 hS4 => ?_)
  refine lv_astore_n hx hb (k := 2) (i := 2) (by decide +kernel) rfl hl2 (by decide) rfl (fun ls3 hl3 => ?_)
  refine lv_iconst (n := 0) hx hb (v := 0) (by decide +kernel) rfl ?_
  refine lv_istore_n hx hb (k := 3) (i := 3) (by decide +kernel) rfl hl3 (by decide) rfl (fun ls4 hl4 => ?_)
  refine va_forget (fun q hq => hS4.2.2 q hq) ?_
  have hS5 : va_S (fr ρ sysU) s.heap H4 [] := ⟨hS4.1, fun q h1 h2 => hS4.2.1 q h1 (Nat.not_le.mpr h1), fun q h => by cases h⟩
  have hP5 : va_P D vwCl (wl cA ρ sysU (mkU τ3 (fun a i => τ3 (a + 222) i))) H4 := by
    rw [← hρe]
    exact PC_wl r4 hP4
  have hend : ∀ (τ : Tau) (L : List (Nat × Value)), At (p, l, e, room_1, s, m, #[Value.ref b], below, meth, c, 243, 22513, D, cA, ρ) sysU 4 (lw_Z below #[Value.ref b] s) 1647 L [] τ := by
    intro τ L H locs ls hL hP hS
    refine lv_iconst (n := 1) (v := 1) hx hb (by decide +kernel) rfl ?_
    refine va_forget (fun q hq => hfr _ (hS.2.2 q hq)) ?_
    refine W.widen (k := 600000) (n := 7302250) (by show 243 ≤ 600000; decide) (by show 22513 ≤ 7302250; decide) ?_
    exact lw_ret hx hb hr hlocks (by decide +kernel)
  have go := law_loop CX hScr hL F Rl hmono (hSt.1) (hSt.2.1) (hSt.2.2.1) (hSt.2.2.2.1) (hSt.2.2.2.2.1) (hSt.2.2.2.2.2.1) (hSt.2.2.2.2.2.2.1) (hSt.2.2.2.2.2.2.2.1) (hSt.2.2.2.2.2.2.2.2.1) (hSt.2.2.2.2.2.2.2.2.2.1) (hSt.2.2.2.2.2.2.2.2.2.2.1) (hSt.2.2.2.2.2.2.2.2.2.2.2.1) (hSt.2.2.2.2.2.2.2.2.2.2.2.2.1) (hSt.2.2.2.2.2.2.2.2.2.2.2.2.2.1) (hSt.2.2.2.2.2.2.2.2.2.2.2.2.2.2.1) (hSt.2.2.2.2.2.2.2.2.2.2.2.2.2.2.2.1) (hSt.2.2.2.2.2.2.2.2.2.2.2.2.2.2.2.2.1) (hSt.2.2.2.2.2.2.2.2.2.2.2.2.2.2.2.2.2.1) (hSt.2.2.2.2.2.2.2.2.2.2.2.2.2.2.2.2.2.2.1) (hSt.2.2.2.2.2.2.2.2.2.2.2.2.2.2.2.2.2.2.2.1) (hSt.2.2.2.2.2.2.2.2.2.2.2.2.2.2.2.2.2.2.2.2.1) (hSt.2.2.2.2.2.2.2.2.2.2.2.2.2.2.2.2.2.2.2.2.2.1) (hSt.2.2.2.2.2.2.2.2.2.2.2.2.2.2.2.2.2.2.2.2.2.2.1) (hSt.2.2.2.2.2.2.2.2.2.2.2.2.2.2.2.2.2.2.2.2.2.2.2.1) (hSt.2.2.2.2.2.2.2.2.2.2.2.2.2.2.2.2.2.2.2.2.2.2.2.2.1) (hSt.2.2.2.2.2.2.2.2.2.2.2.2.2.2.2.2.2.2.2.2.2.2.2.2.2.1) (hSt.2.2.2.2.2.2.2.2.2.2.2.2.2.2.2.2.2.2.2.2.2.2.2.2.2.2.1) (hSt.2.2.2.2.2.2.2.2.2.2.2.2.2.2.2.2.2.2.2.2.2.2.2.2.2.2.2.1) (hSt.2.2.2.2.2.2.2.2.2.2.2.2.2.2.2.2.2.2.2.2.2.2.2.2.2.2.2.2.1) (hSt.2.2.2.2.2.2.2.2.2.2.2.2.2.2.2.2.2.2.2.2.2.2.2.2.2.2.2.2.2.1) (hSt.2.2.2.2.2.2.2.2.2.2.2.2.2.2.2.2.2.2.2.2.2.2.2.2.2.2.2.2.2.2.1) (hSt.2.2.2.2.2.2.2.2.2.2.2.2.2.2.2.2.2.2.2.2.2.2.2.2.2.2.2.2.2.2.2.1) (hSt.2.2.2.2.2.2.2.2.2.2.2.2.2.2.2.2.2.2.2.2.2.2.2.2.2.2.2.2.2.2.2.2.1) (hSt.2.2.2.2.2.2.2.2.2.2.2.2.2.2.2.2.2.2.2.2.2.2.2.2.2.2.2.2.2.2.2.2.2.1) (hSt.2.2.2.2.2.2.2.2.2.2.2.2.2.2.2.2.2.2.2.2.2.2.2.2.2.2.2.2.2.2.2.2.2.2.1) (hSt.2.2.2.2.2.2.2.2.2.2.2.2.2.2.2.2.2.2.2.2.2.2.2.2.2.2.2.2.2.2.2.2.2.2.2.1) (hSt.2.2.2.2.2.2.2.2.2.2.2.2.2.2.2.2.2.2.2.2.2.2.2.2.2.2.2.2.2.2.2.2.2.2.2.2.1) (hSt.2.2.2.2.2.2.2.2.2.2.2.2.2.2.2.2.2.2.2.2.2.2.2.2.2.2.2.2.2.2.2.2.2.2.2.2.2.1) (hSt.2.2.2.2.2.2.2.2.2.2.2.2.2.2.2.2.2.2.2.2.2.2.2.2.2.2.2.2.2.2.2.2.2.2.2.2.2.2.1) (hSt.2.2.2.2.2.2.2.2.2.2.2.2.2.2.2.2.2.2.2.2.2.2.2.2.2.2.2.2.2.2.2.2.2.2.2.2.2.2.2.1) (hSt.2.2.2.2.2.2.2.2.2.2.2.2.2.2.2.2.2.2.2.2.2.2.2.2.2.2.2.2.2.2.2.2.2.2.2.2.2.2.2.2.1) (hSt.2.2.2.2.2.2.2.2.2.2.2.2.2.2.2.2.2.2.2.2.2.2.2.2.2.2.2.2.2.2.2.2.2.2.2.2.2.2.2.2.2.1) (hSt.2.2.2.2.2.2.2.2.2.2.2.2.2.2.2.2.2.2.2.2.2.2.2.2.2.2.2.2.2.2.2.2.2.2.2.2.2.2.2.2.2.2.1) (hSt.2.2.2.2.2.2.2.2.2.2.2.2.2.2.2.2.2.2.2.2.2.2.2.2.2.2.2.2.2.2.2.2.2.2.2.2.2.2.2.2.2.2.2.1) (hSt.2.2.2.2.2.2.2.2.2.2.2.2.2.2.2.2.2.2.2.2.2.2.2.2.2.2.2.2.2.2.2.2.2.2.2.2.2.2.2.2.2.2.2.2) hend (L + 6) 0 0 τ3 (fun a i => τ3 (a + 222) i) rfl (Nat.le_refl _) (Nat.zero_le _) (h00 rf3 τ3 r5)
  refine go H4 [] ls4 ?_ hP5 hS5
  have e1 : ρ 0 = s.heap.size + 0 := hρ 0 (by decide)
  have e2 : ρ 222 = s.heap.size + 222 := hρ 222 (by decide)
  show lv_has ls4 4 [(3, .int (nI 0)), (2, .ref (ρ 222)), (1, .ref (ρ 0)), (0, .ref (ρ 400000))]
  rw [e1, e2, hρs]
  exact hl4
