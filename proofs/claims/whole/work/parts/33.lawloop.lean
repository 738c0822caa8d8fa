/-! the law's loop, over what each call must show -/
def Step0 (F : Nat) (Rl : Nat → Tau → Tau → Prop) : Prop := ∀ (n : Nat) (tx tm : Tau) (a1 : Int32), n < 512 → Rl n tx tm → ∃ (r : Int32) (tx' tm' : Tau), X10_state F a1 tx = some (r, tx') ∧ X11_state F a1 tm = some (r, tm') ∧ Rl (n + 1) tx' tm'
def Step1 (F : Nat) (Rl : Nat → Tau → Tau → Prop) : Prop := ∀ (n : Nat) (tx tm : Tau) (a1 : Int32), n < 512 → Rl n tx tm → ∃ (r : Int32) (tx' tm' : Tau), X10_power F a1 tx = some (r, tx') ∧ X11_power F a1 tm = some (r, tm') ∧ Rl (n + 1) tx' tm'
def Step2 (F : Nat) (Rl : Nat → Tau → Tau → Prop) : Prop := ∀ (n : Nat) (tx tm : Tau) (a1 : Int32) (a2 : Int32) (a3 : Int32), n < 512 → Rl n tx tm → ∃ (r : Int32) (tx' tm' : Tau), X10_mute F a1 a2 (bz a3) tx = some (r, tx') ∧ X11_mute F a1 a2 (bz a3) tm = some (r, tm') ∧ Rl (n + 1) tx' tm'
def Step3 (F : Nat) (Rl : Nat → Tau → Tau → Prop) : Prop := ∀ (n : Nat) (tx tm : Tau) (a1 : Int32) (a2 : Int32) (a3 : Int32), n < 512 → Rl n tx tm → ∃ (r : Int32) (tx' tm' : Tau), X10_set F a1 a2 a3 tx = some (r, tx') ∧ X11_set F a1 a2 a3 tm = some (r, tm') ∧ Rl (n + 1) tx' tm'
def Step4 (F : Nat) (Rl : Nat → Tau → Tau → Prop) : Prop := ∀ (n : Nat) (tx tm : Tau) (a1 : Int32) (a2 : Int32) (a3 : Int32), n < 512 → Rl n tx tm → ∃ (r : Int32) (tx' tm' : Tau), X10_act F a1 a2 a3 tx = some (r, tx') ∧ X11_act F a1 a2 a3 tm = some (r, tm') ∧ Rl (n + 1) tx' tm'
def Step5 (F : Nat) (Rl : Nat → Tau → Tau → Prop) : Prop := ∀ (n : Nat) (tx tm : Tau) (a1 : Int32), n < 512 → Rl n tx tm → ∃ (r : Int32) (tx' tm' : Tau), X10_days F a1 tx = some (r, tx') ∧ X11_days F a1 tm = some (r, tm') ∧ Rl (n + 1) tx' tm'
def Step6 (F : Nat) (Rl : Nat → Tau → Tau → Prop) : Prop := ∀ (n : Nat) (tx tm : Tau) (a1 : Int32) (a2 : Int32) (a3 : Int32) (a4 : Int32) (a5 : Int32), n < 512 → Rl n tx tm → ∃ (r : Int32) (tx' tm' : Tau), X10_feed F a1 a2 a3 a4 a5 tx = some (r, tx') ∧ X11_feed F a1 a2 a3 a4 a5 tm = some (r, tm') ∧ Rl (n + 1) tx' tm'
def Step7 (F : Nat) (Rl : Nat → Tau → Tau → Prop) : Prop := ∀ (n : Nat) (tx tm : Tau) (a1 : Int32), n < 512 → Rl n tx tm → ∃ (r : Int32) (tx' tm' : Tau), X10_end F a1 tx = some (r, tx') ∧ X11_end F a1 tm = some (r, tm') ∧ Rl (n + 1) tx' tm'
def Step8 (F : Nat) (Rl : Nat → Tau → Tau → Prop) : Prop := ∀ (n : Nat) (tx tm : Tau) (a1 : Int32), n < 512 → Rl n tx tm → ∃ (r : Int32) (tx' tm' : Tau), X10_text F a1 tx = some (r, tx') ∧ X11_text F a1 tm = some (r, tm') ∧ Rl (n + 1) tx' tm'
def Step9 (F : Nat) (Rl : Nat → Tau → Tau → Prop) : Prop := ∀ (n : Nat) (tx tm : Tau) (a1 : Int32), n < 512 → Rl n tx tm → ∃ (r : Int32) (tx' tm' : Tau), X10_fault F a1 tx = some (r, tx') ∧ X11_fault F a1 tm = some (r, tm') ∧ Rl (n + 1) tx' tm'
def Step10 (F : Nat) (Rl : Nat → Tau → Tau → Prop) : Prop := ∀ (n : Nat) (tx tm : Tau) (a1 : Int32) (a2 : Int32), n < 512 → Rl n tx tm → ∃ (r : Int32) (tx' tm' : Tau), X10_of F a1 a2 tx = some (r, tx') ∧ X11_of F a1 a2 tm = some (r, tm') ∧ Rl (n + 1) tx' tm'
def Step11 (F : Nat) (Rl : Nat → Tau → Tau → Prop) : Prop := ∀ (n : Nat) (tx tm : Tau) (a1 : Int32) (a2 : Int32), n < 512 → Rl n tx tm → ∃ (r : Int32) (tx' tm' : Tau), X10_powerOf F a1 a2 tx = some (r, tx') ∧ X11_powerOf F a1 a2 tm = some (r, tm') ∧ Rl (n + 1) tx' tm'
def Step12 (F : Nat) (Rl : Nat → Tau → Tau → Prop) : Prop := ∀ (n : Nat) (tx tm : Tau) (a1 : Int32) (a2 : Int32), n < 512 → Rl n tx tm → ∃ (r : Int32) (tx' tm' : Tau), X10_book F a1 a2 tx = some (r, tx') ∧ X11_book F a1 a2 tm = some (r, tm') ∧ Rl (n + 1) tx' tm'
def Step13 (F : Nat) (Rl : Nat → Tau → Tau → Prop) : Prop := ∀ (n : Nat) (tx tm : Tau) (a1 : Int32) (a2 : Int32), n < 512 → Rl n tx tm → ∃ (r : Int32) (tx' tm' : Tau), X10_goes F a1 a2 tx = some (r, tx') ∧ X11_goes F a1 a2 tm = some (r, tm') ∧ Rl (n + 1) tx' tm'
def Step14 (F : Nat) (Rl : Nat → Tau → Tau → Prop) : Prop := ∀ (n : Nat) (tx tm : Tau) (a1 : Int32), n < 512 → Rl n tx tm → ∃ (r : Int32) (tx' tm' : Tau), X10_peace F a1 tx = some (r, tx') ∧ X11_peace F a1 tm = some (r, tm') ∧ Rl (n + 1) tx' tm'
def Step15 (F : Nat) (Rl : Nat → Tau → Tau → Prop) : Prop := ∀ (n : Nat) (tx tm : Tau) (a1 : Int32), n < 512 → Rl n tx tm → ∃ (r : Int32) (tx' tm' : Tau), X10_shows F a1 tx = some (r, tx') ∧ X11_shows F a1 tm = some (r, tm') ∧ Rl (n + 1) tx' tm'
def Step16 (F : Nat) (Rl : Nat → Tau → Tau → Prop) : Prop := ∀ (n : Nat) (tx tm : Tau) (a1 : Int32), n < 512 → Rl n tx tm → ∃ (r : Int32) (tx' tm' : Tau), X10_alike F a1 tx = some (r, tx') ∧ X11_alike F a1 tm = some (r, tm') ∧ Rl (n + 1) tx' tm'
def Step17 (F : Nat) (Rl : Nat → Tau → Tau → Prop) : Prop := ∀ (n : Nat) (tx tm : Tau) (a1 : Int32) (a2 : Int32), n < 512 → Rl n tx tm → ∃ (r : Int32) (tx' tm' : Tau), X10_weighs F a1 a2 tx = some (r, tx') ∧ X11_weighs F a1 a2 tm = some (r, tm') ∧ Rl (n + 1) tx' tm'
def Step18 (F : Nat) (Rl : Nat → Tau → Tau → Prop) : Prop := ∀ (n : Nat) (tx tm : Tau) (a1 : Int32) (a2 : Int32), n < 512 → Rl n tx tm → ∃ (r : Int32) (tx' tm' : Tau), X10_lightest F a1 a2 tx = some (r, tx') ∧ X11_lightest F a1 a2 tm = some (r, tm') ∧ Rl (n + 1) tx' tm'
def Step19 (F : Nat) (Rl : Nat → Tau → Tau → Prop) : Prop := ∀ (n : Nat) (tx tm : Tau) (a1 : Int32), n < 512 → Rl n tx tm → ∃ (r : Int32) (tx' tm' : Tau), X10_hears F a1 tx = some (r, tx') ∧ X11_hears F a1 tm = some (r, tm') ∧ Rl (n + 1) tx' tm'
def Step20 (F : Nat) (Rl : Nat → Tau → Tau → Prop) : Prop := ∀ (n : Nat) (tx tm : Tau) (a1 : Int32) (a2 : Int32), n < 512 → Rl n tx tm → ∃ (r : Int32) (tx' tm' : Tau), X10_heard F a1 a2 tx = some (r, tx') ∧ X11_heard F a1 a2 tm = some (r, tm') ∧ Rl (n + 1) tx' tm'
def Step21 (F : Nat) (Rl : Nat → Tau → Tau → Prop) : Prop := ∀ (n : Nat) (tx tm : Tau) (a1 : Int32), n < 512 → Rl n tx tm → ∃ (r : Int32) (tx' tm' : Tau), X10_count F a1 tx = some (r, tx') ∧ X11_count F a1 tm = some (r, tm') ∧ Rl (n + 1) tx' tm'
def Step22 (F : Nat) (Rl : Nat → Tau → Tau → Prop) : Prop := ∀ (n : Nat) (tx tm : Tau), n < 512 → Rl n tx tm → ∃ (r : Int32) (tx' tm' : Tau), X10_signs F  tx = some (r, tx') ∧ X11_signs F  tm = some (r, tm') ∧ Rl (n + 1) tx' tm'
def Step23 (F : Nat) (Rl : Nat → Tau → Tau → Prop) : Prop := ∀ (n : Nat) (tx tm : Tau) (a1 : Int32) (a2 : Int32), n < 512 → Rl n tx tm → ∃ (r : Int32) (tx' tm' : Tau), X10_pins F a1 a2 tx = some (r, tx') ∧ X11_pins F a1 a2 tm = some (r, tm') ∧ Rl (n + 1) tx' tm'
def Step24 (F : Nat) (Rl : Nat → Tau → Tau → Prop) : Prop := ∀ (n : Nat) (tx tm : Tau) (a1 : Int32) (a2 : Int32) (a3 : Int32), n < 512 → Rl n tx tm → ∃ (r : Int32) (tx' tm' : Tau), X10_table F a1 a2 a3 tx = some (r, tx') ∧ X11_table F a1 a2 a3 tm = some (r, tm') ∧ Rl (n + 1) tx' tm'
def Step25 (F : Nat) (Rl : Nat → Tau → Tau → Prop) : Prop := ∀ (n : Nat) (tx tm : Tau) (a1 : Int32), n < 512 → Rl n tx tm → ∃ (r : Int32) (tx' tm' : Tau), X10_tables F a1 tx = some (r, tx') ∧ X11_tables F a1 tm = some (r, tm') ∧ Rl (n + 1) tx' tm'
def Step26 (F : Nat) (Rl : Nat → Tau → Tau → Prop) : Prop := ∀ (n : Nat) (tx tm : Tau) (a1 : Int32) (a2 : Int32) (a3 : Int32), n < 512 → Rl n tx tm → ∃ (r : Int32) (tx' tm' : Tau), X10_stand F a1 a2 a3 tx = some (r, tx') ∧ X11_stand F a1 a2 a3 tm = some (r, tm') ∧ Rl (n + 1) tx' tm'
def Step27 (F : Nat) (Rl : Nat → Tau → Tau → Prop) : Prop := ∀ (n : Nat) (tx tm : Tau) (a1 : Int32) (a2 : Int32) (a3 : Int32), n < 512 → Rl n tx tm → ∃ (r : Int32) (tx' tm' : Tau), X10_worth F a1 a2 a3 tx = some (r, tx') ∧ X11_worth F a1 a2 a3 tm = some (r, tm') ∧ Rl (n + 1) tx' tm'
def Step28 (F : Nat) (Rl : Nat → Tau → Tau → Prop) : Prop := ∀ (n : Nat) (tx tm : Tau) (a1 : Int32) (a2 : Int32), n < 512 → Rl n tx tm → ∃ (r : Int32) (tx' tm' : Tau), X10_sent F a1 a2 tx = some (r, tx') ∧ X11_sent F a1 a2 tm = some (r, tm') ∧ Rl (n + 1) tx' tm'
def Step29 (F : Nat) (Rl : Nat → Tau → Tau → Prop) : Prop := ∀ (n : Nat) (tx tm : Tau) (a1 : Int32) (a2 : Int32), n < 512 → Rl n tx tm → ∃ (r : Int32) (tx' tm' : Tau), X10_load F a1 a2 tx = some (r, tx') ∧ X11_load F a1 a2 tm = some (r, tm') ∧ Rl (n + 1) tx' tm'
def Step30 (F : Nat) (Rl : Nat → Tau → Tau → Prop) : Prop := ∀ (n : Nat) (tx tm : Tau) (a1 : Int32) (a2 : Int32), n < 512 → Rl n tx tm → ∃ (r : Int32) (tx' tm' : Tau), X10_carried F a1 a2 tx = some (r, tx') ∧ X11_carried F a1 a2 tm = some (r, tm') ∧ Rl (n + 1) tx' tm'
def Step31 (F : Nat) (Rl : Nat → Tau → Tau → Prop) : Prop := ∀ (n : Nat) (tx tm : Tau) (a1 : Int32) (a2 : Int32) (a3 : Int32), n < 512 → Rl n tx tm → ∃ (r : Int32) (tx' tm' : Tau), X10_promise F a1 a2 a3 tx = some (r, tx') ∧ X11_promise F a1 a2 a3 tm = some (r, tm') ∧ Rl (n + 1) tx' tm'
def Step32 (F : Nat) (Rl : Nat → Tau → Tau → Prop) : Prop := ∀ (n : Nat) (tx tm : Tau) (a1 : Int32), n < 512 → Rl n tx tm → ∃ (r : Int32) (tx' tm' : Tau), X10_kept F a1 tx = some (r, tx') ∧ X11_kept F a1 tm = some (r, tm') ∧ Rl (n + 1) tx' tm'
def Step33 (F : Nat) (Rl : Nat → Tau → Tau → Prop) : Prop := ∀ (n : Nat) (tx tm : Tau) (a1 : Int32) (a2 : Int32), n < 512 → Rl n tx tm → ∃ (r : Int32) (tx' tm' : Tau), X10_hat F a1 a2 tx = some (r, tx') ∧ X11_hat F a1 a2 tm = some (r, tm') ∧ Rl (n + 1) tx' tm'
def Step34 (F : Nat) (Rl : Nat → Tau → Tau → Prop) : Prop := ∀ (n : Nat) (tx tm : Tau) (a1 : Int32), n < 512 → Rl n tx tm → ∃ (r : Int32) (tx' tm' : Tau), X10_hats F a1 tx = some (r, tx') ∧ X11_hats F a1 tm = some (r, tm') ∧ Rl (n + 1) tx' tm'
def Step35 (F : Nat) (Rl : Nat → Tau → Tau → Prop) : Prop := ∀ (n : Nat) (tx tm : Tau) (a1 : Int32) (a2 : Int32), n < 512 → Rl n tx tm → ∃ (r : Int32) (tx' tm' : Tau), X10_border F a1 a2 tx = some (r, tx') ∧ X11_border F a1 a2 tm = some (r, tm') ∧ Rl (n + 1) tx' tm'
def Step36 (F : Nat) (Rl : Nat → Tau → Tau → Prop) : Prop := ∀ (n : Nat) (tx tm : Tau) (a1 : Int32), n < 512 → Rl n tx tm → ∃ (r : Int32) (tx' tm' : Tau), X10_map F a1 tx = some (r, tx') ∧ X11_map F a1 tm = some (r, tm') ∧ Rl (n + 1) tx' tm'
def Step37 (F : Nat) (Rl : Nat → Tau → Tau → Prop) : Prop := ∀ (n : Nat) (tx tm : Tau) (a1 : Int32) (a2 : Int32), n < 512 → Rl n tx tm → ∃ (r : Int32) (tx' tm' : Tau), X10_cloth F a1 a2 tx = some (r, tx') ∧ X11_cloth F a1 a2 tm = some (r, tm') ∧ Rl (n + 1) tx' tm'
def Step38 (F : Nat) (Rl : Nat → Tau → Tau → Prop) : Prop := ∀ (n : Nat) (tx tm : Tau) (a1 : Int32), n < 512 → Rl n tx tm → ∃ (r : Int32) (tx' tm' : Tau), X10_cloths F a1 tx = some (r, tx') ∧ X11_cloths F a1 tm = some (r, tm') ∧ Rl (n + 1) tx' tm'
def Step39 (F : Nat) (Rl : Nat → Tau → Tau → Prop) : Prop := ∀ (n : Nat) (tx tm : Tau) (a1 : Int32), n < 512 → Rl n tx tm → ∃ (r : Int32) (tx' tm' : Tau), X10_interpreter F a1 tx = some (r, tx') ∧ X11_interpreter F a1 tm = some (r, tm') ∧ Rl (n + 1) tx' tm'
def Step40 (F : Nat) (Rl : Nat → Tau → Tau → Prop) : Prop := ∀ (n : Nat) (tx tm : Tau) (a1 : Int32), n < 512 → Rl n tx tm → ∃ (r : Int32) (tx' tm' : Tau), X10_word F a1 tx = some (r, tx') ∧ X11_word F a1 tm = some (r, tm') ∧ Rl (n + 1) tx' tm'
def Step41 (F : Nat) (Rl : Nat → Tau → Tau → Prop) : Prop := ∀ (n : Nat) (tx tm : Tau) (a1 : Int32) (a2 : Int32) (a3 : Int32) (a4 : Int32), n < 512 → Rl n tx tm → ∃ (r : Int32) (tx' tm' : Tau), X10_silence F a1 a2 a3 (bz a4) tx = some (r, tx') ∧ X11_silence F a1 a2 a3 (bz a4) tm = some (r, tm') ∧ Rl (n + 1) tx' tm'
def Step42 (F : Nat) (Rl : Nat → Tau → Tau → Prop) : Prop := ∀ (n : Nat) (tx tm : Tau), n < 512 → Rl n tx tm → ∃ (r : Int32) (tx' tm' : Tau), X10_undo F  tx = some (r, tx') ∧ X11_undo F  tm = some (r, tm') ∧ Rl (n + 1) tx' tm'
def Step43 (F : Nat) (Rl : Nat → Tau → Tau → Prop) : Prop := ∀ (n : Nat) (tx tm : Tau) (a1 : Int32), n < 512 → Rl n tx tm → ∃ (r : Int32) (tx' tm' : Tau), X10_image F (bz a1) tx = some (r, tx') ∧ X11_image F (bz a1) tm = some (r, tm') ∧ Rl (n + 1) tx' tm'
def Step44 (F : Nat) (Rl : Nat → Tau → Tau → Prop) : Prop := ∀ (n : Nat) (tx tm : Tau) (a1 : Int32), n < 512 → Rl n tx tm → ∃ (r : Int32) (tx' tm' : Tau), X10_look F a1 tx = some (r, tx') ∧ X11_look F a1 tm = some (r, tm') ∧ Rl (n + 1) tx' tm'
theorem inb_of {n N : Nat} (h : n < N) (hN : N < 2 ^ 31) : inb (nI n) N = true := by
  simp only [inb, Bool.and_eq_true, decide_eq_true_eq]
  exact ⟨nI_pos' (by omega), by show (nI n).toNatClampNeg < N; rw [nI_clamp (by omega)]; exact h⟩
theorem len_sub {N i : Nat} (hN : N < 100000) (hi : i < 100000) : (Int32.ofNat N - 6 < nI i) ↔ N < i + 6 := by
  have e : (Int32.ofNat N - 6).toInt = (N : Int) - 6 := pk_sub_toInt (a := N) (b := 6) (by omega) (by omega)
  rw [Int32.lt_iff_toInt_lt, e, nI_toInt (by omega)]
  omega
set_option maxRecDepth 20000 in
set_option maxHeartbeats 4000000 in
theorem law_loop {K : Ctx} {Q : State → Prop} {Ln : Nat} {xs : Nat → Int32} (C : Cx K sysU "BasketEnvoysLaw" code 4 100) (hX : Scr K sysU Ln xs) (hLn : Ln ≤ 3072) (F : Nat) (Rl : Nat → Tau → Tau → Prop) (hmono : ∀ n tx tm, Rl n tx tm → Rl (n + 1) tx tm)
    (hs0 : Step0 F Rl) (hs1 : Step1 F Rl) (hs2 : Step2 F Rl) (hs3 : Step3 F Rl) (hs4 : Step4 F Rl) (hs5 : Step5 F Rl) (hs6 : Step6 F Rl) (hs7 : Step7 F Rl) (hs8 : Step8 F Rl) (hs9 : Step9 F Rl) (hs10 : Step10 F Rl) (hs11 : Step11 F Rl) (hs12 : Step12 F Rl) (hs13 : Step13 F Rl) (hs14 : Step14 F Rl) (hs15 : Step15 F Rl) (hs16 : Step16 F Rl) (hs17 : Step17 F Rl) (hs18 : Step18 F Rl) (hs19 : Step19 F Rl) (hs20 : Step20 F Rl) (hs21 : Step21 F Rl) (hs22 : Step22 F Rl) (hs23 : Step23 F Rl) (hs24 : Step24 F Rl) (hs25 : Step25 F Rl) (hs26 : Step26 F Rl) (hs27 : Step27 F Rl) (hs28 : Step28 F Rl) (hs29 : Step29 F Rl) (hs30 : Step30 F Rl) (hs31 : Step31 F Rl) (hs32 : Step32 F Rl) (hs33 : Step33 F Rl) (hs34 : Step34 F Rl) (hs35 : Step35 F Rl) (hs36 : Step36 F Rl) (hs37 : Step37 F Rl) (hs38 : Step38 F Rl) (hs39 : Step39 F Rl) (hs40 : Step40 F Rl) (hs41 : Step41 F Rl) (hs42 : Step42 F Rl) (hs43 : Step43 F Rl) (hs44 : Step44 F Rl)
    (hend : ∀ (τ : Tau) (L : List (Nat × Value)), At K sysU 4 Q 1647 L [] τ) : ∀ (f n i : Nat) (tx tm : Tau), i = 6 * n → Ln + 6 ≤ f + i → i ≤ Ln + 6 → Rl n tx tm → At K sysU 4 Q 18 [(3, .int (nI i)), (2, .ref 222), (1, .ref 0), (0, .ref 400000)] [] (mkU tx tm) := by
  intro f
  induction f with
  | zero =>
    intro n i tx tm hi hf hle hR
    refine at_seg (pc' := 20) (L' := [(3, .int (nI i)), (2, .ref 222), (1, .ref 0), (0, .ref 400000)]) (S' := [.ref 400000, .int (nI i)]) C ?_ [(.iload_n 3, 0), (.aload_n 0, 0)] _ _ _ (by decide +kernel) rfl
    refine at_slen C hX (by decide +kernel) ?_
    refine at_seg (pc' := 24) (L' := [(3, .int (nI i)), (2, .ref 222), (1, .ref 0), (0, .ref 400000)]) (S' := [.int (Int32.ofNat Ln - 6), .int (nI i)]) C ?_ [(.bipush 6, 6), (.isub, 0)] _ _ _ (by decide +kernel) rfl
    exact at_icmpgt 1647 (off := 1623) C (by decide +kernel) (by decide) (fun _ => hend _ _) (fun q => absurd ((len_sub (by omega) (by omega)).mpr (by omega)) q)
  | succ f ih =>
    intro n i tx tm hi hf hle hR
    refine at_seg (pc' := 20) (L' := [(3, .int (nI i)), (2, .ref 222), (1, .ref 0), (0, .ref 400000)]) (S' := [.ref 400000, .int (nI i)]) C ?_ [(.iload_n 3, 0), (.aload_n 0, 0)] _ _ _ (by decide +kernel) rfl
    refine at_slen C hX (by decide +kernel) ?_
    refine at_seg (pc' := 24) (L' := [(3, .int (nI i)), (2, .ref 222), (1, .ref 0), (0, .ref 400000)]) (S' := [.int (Int32.ofNat Ln - 6), .int (nI i)]) C ?_ [(.bipush 6, 6), (.isub, 0)] _ _ _ (by decide +kernel) rfl
    refine at_icmpgt 1647 (off := 1623) C (by decide +kernel) (by decide) (fun _ => hend _ _) (fun q => ?_)
    have hlt : ¬ Ln < i + 6 := fun z => q ((len_sub (by omega) (by omega)).mpr z)
    have h0 : inb (nI i) Ln = true := inb_of (by omega) (by omega)
    have h1 : inb (nI i + 1) Ln = true := by rw [show nI i + 1 = nI (i + 1) from nI_add i 1]; exact inb_of (by omega) (by omega)
    have h2 : inb (nI i + 2) Ln = true := by rw [show nI i + 2 = nI (i + 2) from nI_add i 2]; exact inb_of (by omega) (by omega)
    have h3 : inb (nI i + 3) Ln = true := by rw [show nI i + 3 = nI (i + 3) from nI_add i 3]; exact inb_of (by omega) (by omega)
    have h4 : inb (nI i + 4) Ln = true := by rw [show nI i + 4 = nI (i + 4) from nI_add i 4]; exact inb_of (by omega) (by omega)
    have h5 : inb (nI i + 5) Ln = true := by rw [show nI i + 5 = nI (i + 5) from nI_add i 5]; exact inb_of (by omega) (by omega)
    have e6 : nI i + 6 = nI (i + 6) := nI_add i 6
    have hn : n < 512 := by omega
    have go : ∀ tx' tm', Rl (n + 1) tx' tm' → At K sysU 4 Q 18 [(3, .int (nI i + 6)), (2, .ref 222), (1, .ref 0), (0, .ref 400000)] [] (mkU tx' tm') := fun tx' tm' hR' => by
      rw [e6]
      exact ih (n + 1) (i + 6) tx' tm' (by omega) (by omega) (by omega) hR'
    refine at_seg (pc' := 29) (L' := [(3, .int (nI i)), (2, .ref 222), (1, .ref 0), (0, .ref 400000)]) (S' := [.int (nI i), .ref 400000]) C ?_ [(.aload_n 0, 0), (.iload_n 3, 0)] _ _ _ (by decide +kernel) rfl
    refine at_sld C hX h0 (by decide +kernel) ?_
    refine at_seg (pc' := 33) (L' := [(3, .int (nI i)), (2, .ref 222), (1, .ref 0), (0, .ref 400000)]) (S' := [.int (xs (ix (nI i)) &&& 63)]) C ?_ [(.bipush 63, 63), (.iand, 0)] _ _ _ (by decide +kernel) rfl
    generalize xs (ix (nI i)) &&& 63 = u
    have hd : decode code 33 = .ok (.tableswitch 1608 0 44 #[195, 218, 241, 300, 343, 386, 409, 472, 495, 518, 541, 574, 607, 640, 673, 696, 719, 742, 775, 808, 831, 864, 887, 900, 933, 976, 999, 1042, 1085, 1118, 1151, 1184, 1227, 1250, 1283, 1306, 1339, 1362, 1395, 1418, 1441, 1464, 1533, 1546, 1585], 195) := by decide +kernel
    by_cases e0 : u = 0
    · refine at_tabIn (off := 195) 228 C hd (by rw [e0]; decide) (by rw [e0]; decide) (by rw [e0]; decide) (by decide) ?_
      obtain ⟨r, tx', tm', hx, hm, hr⟩ := hs0 n tx tm (xs (ix (nI i + 1))) hn hR
      exact law_0 F C hX h1 h2 h3 h4 h5 hx hm (go _ _ hr)
    by_cases e1 : u = 1
    · refine at_tabIn (off := 218) 251 C hd (by rw [e1]; decide) (by rw [e1]; decide) (by rw [e1]; decide) (by decide) ?_
      obtain ⟨r, tx', tm', hx, hm, hr⟩ := hs1 n tx tm (xs (ix (nI i + 1))) hn hR
      exact law_1 F C hX h1 h2 h3 h4 h5 hx hm (go _ _ hr)
    by_cases e2 : u = 2
    · refine at_tabIn (off := 241) 274 C hd (by rw [e2]; decide) (by rw [e2]; decide) (by rw [e2]; decide) (by decide) ?_
      obtain ⟨r, tx', tm', hx, hm, hr⟩ := hs2 n tx tm (xs (ix (nI i + 1))) (xs (ix (nI i + 2))) (xs (ix (nI i + 3))) hn hR
      exact law_2 F C hX h1 h2 h3 h4 h5 hx hm (go _ _ hr)
    by_cases e3 : u = 3
    · refine at_tabIn (off := 300) 333 C hd (by rw [e3]; decide) (by rw [e3]; decide) (by rw [e3]; decide) (by decide) ?_
      obtain ⟨r, tx', tm', hx, hm, hr⟩ := hs3 n tx tm (xs (ix (nI i + 1))) (xs (ix (nI i + 2))) (xs (ix (nI i + 3))) hn hR
      exact law_3 F C hX h1 h2 h3 h4 h5 hx hm (go _ _ hr)
    by_cases e4 : u = 4
    · refine at_tabIn (off := 343) 376 C hd (by rw [e4]; decide) (by rw [e4]; decide) (by rw [e4]; decide) (by decide) ?_
      obtain ⟨r, tx', tm', hx, hm, hr⟩ := hs4 n tx tm (xs (ix (nI i + 1))) (xs (ix (nI i + 2))) (xs (ix (nI i + 3))) hn hR
      exact law_4 F C hX h1 h2 h3 h4 h5 hx hm (go _ _ hr)
    by_cases e5 : u = 5
    · refine at_tabIn (off := 386) 419 C hd (by rw [e5]; decide) (by rw [e5]; decide) (by rw [e5]; decide) (by decide) ?_
      obtain ⟨r, tx', tm', hx, hm, hr⟩ := hs5 n tx tm (xs (ix (nI i + 1))) hn hR
      exact law_5 F C hX h1 h2 h3 h4 h5 hx hm (go _ _ hr)
    by_cases e6 : u = 6
    · refine at_tabIn (off := 409) 442 C hd (by rw [e6]; decide) (by rw [e6]; decide) (by rw [e6]; decide) (by decide) ?_
      obtain ⟨r, tx', tm', hx, hm, hr⟩ := hs6 n tx tm (xs (ix (nI i + 1))) (xs (ix (nI i + 2))) (xs (ix (nI i + 3))) (xs (ix (nI i + 4))) (xs (ix (nI i + 5))) hn hR
      exact law_6 F C hX h1 h2 h3 h4 h5 hx hm (go _ _ hr)
    by_cases e7 : u = 7
    · refine at_tabIn (off := 472) 505 C hd (by rw [e7]; decide) (by rw [e7]; decide) (by rw [e7]; decide) (by decide) ?_
      obtain ⟨r, tx', tm', hx, hm, hr⟩ := hs7 n tx tm (xs (ix (nI i + 1))) hn hR
      exact law_7 F C hX h1 h2 h3 h4 h5 hx hm (go _ _ hr)
    by_cases e8 : u = 8
    · refine at_tabIn (off := 495) 528 C hd (by rw [e8]; decide) (by rw [e8]; decide) (by rw [e8]; decide) (by decide) ?_
      obtain ⟨r, tx', tm', hx, hm, hr⟩ := hs8 n tx tm (xs (ix (nI i + 1))) hn hR
      exact law_8 F C hX h1 h2 h3 h4 h5 hx hm (go _ _ hr)
    by_cases e9 : u = 9
    · refine at_tabIn (off := 518) 551 C hd (by rw [e9]; decide) (by rw [e9]; decide) (by rw [e9]; decide) (by decide) ?_
      obtain ⟨r, tx', tm', hx, hm, hr⟩ := hs9 n tx tm (xs (ix (nI i + 1))) hn hR
      exact law_9 F C hX h1 h2 h3 h4 h5 hx hm (go _ _ hr)
    by_cases e10 : u = 10
    · refine at_tabIn (off := 541) 574 C hd (by rw [e10]; decide) (by rw [e10]; decide) (by rw [e10]; decide) (by decide) ?_
      obtain ⟨r, tx', tm', hx, hm, hr⟩ := hs10 n tx tm (xs (ix (nI i + 1))) (xs (ix (nI i + 2))) hn hR
      exact law_10 F C hX h1 h2 h3 h4 h5 hx hm (go _ _ hr)
    by_cases e11 : u = 11
    · refine at_tabIn (off := 574) 607 C hd (by rw [e11]; decide) (by rw [e11]; decide) (by rw [e11]; decide) (by decide) ?_
      obtain ⟨r, tx', tm', hx, hm, hr⟩ := hs11 n tx tm (xs (ix (nI i + 1))) (xs (ix (nI i + 2))) hn hR
      exact law_11 F C hX h1 h2 h3 h4 h5 hx hm (go _ _ hr)
    by_cases e12 : u = 12
    · refine at_tabIn (off := 607) 640 C hd (by rw [e12]; decide) (by rw [e12]; decide) (by rw [e12]; decide) (by decide) ?_
      obtain ⟨r, tx', tm', hx, hm, hr⟩ := hs12 n tx tm (xs (ix (nI i + 1))) (xs (ix (nI i + 2))) hn hR
      exact law_12 F C hX h1 h2 h3 h4 h5 hx hm (go _ _ hr)
    by_cases e13 : u = 13
    · refine at_tabIn (off := 640) 673 C hd (by rw [e13]; decide) (by rw [e13]; decide) (by rw [e13]; decide) (by decide) ?_
      obtain ⟨r, tx', tm', hx, hm, hr⟩ := hs13 n tx tm (xs (ix (nI i + 1))) (xs (ix (nI i + 2))) hn hR
      exact law_13 F C hX h1 h2 h3 h4 h5 hx hm (go _ _ hr)
    by_cases e14 : u = 14
    · refine at_tabIn (off := 673) 706 C hd (by rw [e14]; decide) (by rw [e14]; decide) (by rw [e14]; decide) (by decide) ?_
      obtain ⟨r, tx', tm', hx, hm, hr⟩ := hs14 n tx tm (xs (ix (nI i + 1))) hn hR
      exact law_14 F C hX h1 h2 h3 h4 h5 hx hm (go _ _ hr)
    by_cases e15 : u = 15
    · refine at_tabIn (off := 696) 729 C hd (by rw [e15]; decide) (by rw [e15]; decide) (by rw [e15]; decide) (by decide) ?_
      obtain ⟨r, tx', tm', hx, hm, hr⟩ := hs15 n tx tm (xs (ix (nI i + 1))) hn hR
      exact law_15 F C hX h1 h2 h3 h4 h5 hx hm (go _ _ hr)
    by_cases e16 : u = 16
    · refine at_tabIn (off := 719) 752 C hd (by rw [e16]; decide) (by rw [e16]; decide) (by rw [e16]; decide) (by decide) ?_
      obtain ⟨r, tx', tm', hx, hm, hr⟩ := hs16 n tx tm (xs (ix (nI i + 1))) hn hR
      exact law_16 F C hX h1 h2 h3 h4 h5 hx hm (go _ _ hr)
    by_cases e17 : u = 17
    · refine at_tabIn (off := 742) 775 C hd (by rw [e17]; decide) (by rw [e17]; decide) (by rw [e17]; decide) (by decide) ?_
      obtain ⟨r, tx', tm', hx, hm, hr⟩ := hs17 n tx tm (xs (ix (nI i + 1))) (xs (ix (nI i + 2))) hn hR
      exact law_17 F C hX h1 h2 h3 h4 h5 hx hm (go _ _ hr)
    by_cases e18 : u = 18
    · refine at_tabIn (off := 775) 808 C hd (by rw [e18]; decide) (by rw [e18]; decide) (by rw [e18]; decide) (by decide) ?_
      obtain ⟨r, tx', tm', hx, hm, hr⟩ := hs18 n tx tm (xs (ix (nI i + 1))) (xs (ix (nI i + 2))) hn hR
      exact law_18 F C hX h1 h2 h3 h4 h5 hx hm (go _ _ hr)
    by_cases e19 : u = 19
    · refine at_tabIn (off := 808) 841 C hd (by rw [e19]; decide) (by rw [e19]; decide) (by rw [e19]; decide) (by decide) ?_
      obtain ⟨r, tx', tm', hx, hm, hr⟩ := hs19 n tx tm (xs (ix (nI i + 1))) hn hR
      exact law_19 F C hX h1 h2 h3 h4 h5 hx hm (go _ _ hr)
    by_cases e20 : u = 20
    · refine at_tabIn (off := 831) 864 C hd (by rw [e20]; decide) (by rw [e20]; decide) (by rw [e20]; decide) (by decide) ?_
      obtain ⟨r, tx', tm', hx, hm, hr⟩ := hs20 n tx tm (xs (ix (nI i + 1))) (xs (ix (nI i + 2))) hn hR
      exact law_20 F C hX h1 h2 h3 h4 h5 hx hm (go _ _ hr)
    by_cases e21 : u = 21
    · refine at_tabIn (off := 864) 897 C hd (by rw [e21]; decide) (by rw [e21]; decide) (by rw [e21]; decide) (by decide) ?_
      obtain ⟨r, tx', tm', hx, hm, hr⟩ := hs21 n tx tm (xs (ix (nI i + 1))) hn hR
      exact law_21 F C hX h1 h2 h3 h4 h5 hx hm (go _ _ hr)
    by_cases e22 : u = 22
    · refine at_tabIn (off := 887) 920 C hd (by rw [e22]; decide) (by rw [e22]; decide) (by rw [e22]; decide) (by decide) ?_
      obtain ⟨r, tx', tm', hx, hm, hr⟩ := hs22 n tx tm  hn hR
      exact law_22 F C hX h1 h2 h3 h4 h5 hx hm (go _ _ hr)
    by_cases e23 : u = 23
    · refine at_tabIn (off := 900) 933 C hd (by rw [e23]; decide) (by rw [e23]; decide) (by rw [e23]; decide) (by decide) ?_
      obtain ⟨r, tx', tm', hx, hm, hr⟩ := hs23 n tx tm (xs (ix (nI i + 1))) (xs (ix (nI i + 2))) hn hR
      exact law_23 F C hX h1 h2 h3 h4 h5 hx hm (go _ _ hr)
    by_cases e24 : u = 24
    · refine at_tabIn (off := 933) 966 C hd (by rw [e24]; decide) (by rw [e24]; decide) (by rw [e24]; decide) (by decide) ?_
      obtain ⟨r, tx', tm', hx, hm, hr⟩ := hs24 n tx tm (xs (ix (nI i + 1))) (xs (ix (nI i + 2))) (xs (ix (nI i + 3))) hn hR
      exact law_24 F C hX h1 h2 h3 h4 h5 hx hm (go _ _ hr)
    by_cases e25 : u = 25
    · refine at_tabIn (off := 976) 1009 C hd (by rw [e25]; decide) (by rw [e25]; decide) (by rw [e25]; decide) (by decide) ?_
      obtain ⟨r, tx', tm', hx, hm, hr⟩ := hs25 n tx tm (xs (ix (nI i + 1))) hn hR
      exact law_25 F C hX h1 h2 h3 h4 h5 hx hm (go _ _ hr)
    by_cases e26 : u = 26
    · refine at_tabIn (off := 999) 1032 C hd (by rw [e26]; decide) (by rw [e26]; decide) (by rw [e26]; decide) (by decide) ?_
      obtain ⟨r, tx', tm', hx, hm, hr⟩ := hs26 n tx tm (xs (ix (nI i + 1))) (xs (ix (nI i + 2))) (xs (ix (nI i + 3))) hn hR
      exact law_26 F C hX h1 h2 h3 h4 h5 hx hm (go _ _ hr)
    by_cases e27 : u = 27
    · refine at_tabIn (off := 1042) 1075 C hd (by rw [e27]; decide) (by rw [e27]; decide) (by rw [e27]; decide) (by decide) ?_
      obtain ⟨r, tx', tm', hx, hm, hr⟩ := hs27 n tx tm (xs (ix (nI i + 1))) (xs (ix (nI i + 2))) (xs (ix (nI i + 3))) hn hR
      exact law_27 F C hX h1 h2 h3 h4 h5 hx hm (go _ _ hr)
    by_cases e28 : u = 28
    · refine at_tabIn (off := 1085) 1118 C hd (by rw [e28]; decide) (by rw [e28]; decide) (by rw [e28]; decide) (by decide) ?_
      obtain ⟨r, tx', tm', hx, hm, hr⟩ := hs28 n tx tm (xs (ix (nI i + 1))) (xs (ix (nI i + 2))) hn hR
      exact law_28 F C hX h1 h2 h3 h4 h5 hx hm (go _ _ hr)
    by_cases e29 : u = 29
    · refine at_tabIn (off := 1118) 1151 C hd (by rw [e29]; decide) (by rw [e29]; decide) (by rw [e29]; decide) (by decide) ?_
      obtain ⟨r, tx', tm', hx, hm, hr⟩ := hs29 n tx tm (xs (ix (nI i + 1))) (xs (ix (nI i + 2))) hn hR
      exact law_29 F C hX h1 h2 h3 h4 h5 hx hm (go _ _ hr)
    by_cases e30 : u = 30
    · refine at_tabIn (off := 1151) 1184 C hd (by rw [e30]; decide) (by rw [e30]; decide) (by rw [e30]; decide) (by decide) ?_
      obtain ⟨r, tx', tm', hx, hm, hr⟩ := hs30 n tx tm (xs (ix (nI i + 1))) (xs (ix (nI i + 2))) hn hR
      exact law_30 F C hX h1 h2 h3 h4 h5 hx hm (go _ _ hr)
    by_cases e31 : u = 31
    · refine at_tabIn (off := 1184) 1217 C hd (by rw [e31]; decide) (by rw [e31]; decide) (by rw [e31]; decide) (by decide) ?_
      obtain ⟨r, tx', tm', hx, hm, hr⟩ := hs31 n tx tm (xs (ix (nI i + 1))) (xs (ix (nI i + 2))) (xs (ix (nI i + 3))) hn hR
      exact law_31 F C hX h1 h2 h3 h4 h5 hx hm (go _ _ hr)
    by_cases e32 : u = 32
    · refine at_tabIn (off := 1227) 1260 C hd (by rw [e32]; decide) (by rw [e32]; decide) (by rw [e32]; decide) (by decide) ?_
      obtain ⟨r, tx', tm', hx, hm, hr⟩ := hs32 n tx tm (xs (ix (nI i + 1))) hn hR
      exact law_32 F C hX h1 h2 h3 h4 h5 hx hm (go _ _ hr)
    by_cases e33 : u = 33
    · refine at_tabIn (off := 1250) 1283 C hd (by rw [e33]; decide) (by rw [e33]; decide) (by rw [e33]; decide) (by decide) ?_
      obtain ⟨r, tx', tm', hx, hm, hr⟩ := hs33 n tx tm (xs (ix (nI i + 1))) (xs (ix (nI i + 2))) hn hR
      exact law_33 F C hX h1 h2 h3 h4 h5 hx hm (go _ _ hr)
    by_cases e34 : u = 34
    · refine at_tabIn (off := 1283) 1316 C hd (by rw [e34]; decide) (by rw [e34]; decide) (by rw [e34]; decide) (by decide) ?_
      obtain ⟨r, tx', tm', hx, hm, hr⟩ := hs34 n tx tm (xs (ix (nI i + 1))) hn hR
      exact law_34 F C hX h1 h2 h3 h4 h5 hx hm (go _ _ hr)
    by_cases e35 : u = 35
    · refine at_tabIn (off := 1306) 1339 C hd (by rw [e35]; decide) (by rw [e35]; decide) (by rw [e35]; decide) (by decide) ?_
      obtain ⟨r, tx', tm', hx, hm, hr⟩ := hs35 n tx tm (xs (ix (nI i + 1))) (xs (ix (nI i + 2))) hn hR
      exact law_35 F C hX h1 h2 h3 h4 h5 hx hm (go _ _ hr)
    by_cases e36 : u = 36
    · refine at_tabIn (off := 1339) 1372 C hd (by rw [e36]; decide) (by rw [e36]; decide) (by rw [e36]; decide) (by decide) ?_
      obtain ⟨r, tx', tm', hx, hm, hr⟩ := hs36 n tx tm (xs (ix (nI i + 1))) hn hR
      exact law_36 F C hX h1 h2 h3 h4 h5 hx hm (go _ _ hr)
    by_cases e37 : u = 37
    · refine at_tabIn (off := 1362) 1395 C hd (by rw [e37]; decide) (by rw [e37]; decide) (by rw [e37]; decide) (by decide) ?_
      obtain ⟨r, tx', tm', hx, hm, hr⟩ := hs37 n tx tm (xs (ix (nI i + 1))) (xs (ix (nI i + 2))) hn hR
      exact law_37 F C hX h1 h2 h3 h4 h5 hx hm (go _ _ hr)
    by_cases e38 : u = 38
    · refine at_tabIn (off := 1395) 1428 C hd (by rw [e38]; decide) (by rw [e38]; decide) (by rw [e38]; decide) (by decide) ?_
      obtain ⟨r, tx', tm', hx, hm, hr⟩ := hs38 n tx tm (xs (ix (nI i + 1))) hn hR
      exact law_38 F C hX h1 h2 h3 h4 h5 hx hm (go _ _ hr)
    by_cases e39 : u = 39
    · refine at_tabIn (off := 1418) 1451 C hd (by rw [e39]; decide) (by rw [e39]; decide) (by rw [e39]; decide) (by decide) ?_
      obtain ⟨r, tx', tm', hx, hm, hr⟩ := hs39 n tx tm (xs (ix (nI i + 1))) hn hR
      exact law_39 F C hX h1 h2 h3 h4 h5 hx hm (go _ _ hr)
    by_cases e40 : u = 40
    · refine at_tabIn (off := 1441) 1474 C hd (by rw [e40]; decide) (by rw [e40]; decide) (by rw [e40]; decide) (by decide) ?_
      obtain ⟨r, tx', tm', hx, hm, hr⟩ := hs40 n tx tm (xs (ix (nI i + 1))) hn hR
      exact law_40 F C hX h1 h2 h3 h4 h5 hx hm (go _ _ hr)
    by_cases e41 : u = 41
    · refine at_tabIn (off := 1464) 1497 C hd (by rw [e41]; decide) (by rw [e41]; decide) (by rw [e41]; decide) (by decide) ?_
      obtain ⟨r, tx', tm', hx, hm, hr⟩ := hs41 n tx tm (xs (ix (nI i + 1))) (xs (ix (nI i + 2))) (xs (ix (nI i + 3))) (xs (ix (nI i + 4))) hn hR
      exact law_41 F C hX h1 h2 h3 h4 h5 hx hm (go _ _ hr)
    by_cases e42 : u = 42
    · refine at_tabIn (off := 1533) 1566 C hd (by rw [e42]; decide) (by rw [e42]; decide) (by rw [e42]; decide) (by decide) ?_
      obtain ⟨r, tx', tm', hx, hm, hr⟩ := hs42 n tx tm  hn hR
      exact law_42 F C hX h1 h2 h3 h4 h5 hx hm (go _ _ hr)
    by_cases e43 : u = 43
    · refine at_tabIn (off := 1546) 1579 C hd (by rw [e43]; decide) (by rw [e43]; decide) (by rw [e43]; decide) (by decide) ?_
      obtain ⟨r, tx', tm', hx, hm, hr⟩ := hs43 n tx tm (xs (ix (nI i + 1))) hn hR
      exact law_43 F C hX h1 h2 h3 h4 h5 hx hm (go _ _ hr)
    by_cases e44 : u = 44
    · refine at_tabIn (off := 1585) 1618 C hd (by rw [e44]; decide) (by rw [e44]; decide) (by rw [e44]; decide) (by decide) ?_
      obtain ⟨r, tx', tm', hx, hm, hr⟩ := hs44 n tx tm (xs (ix (nI i + 1))) hn hR
      exact law_44 F C hX h1 h2 h3 h4 h5 hx hm (go _ _ hr)
    refine at_tabOut 1641 C hd (by have q0 := toInt_neZ (z := 0) e0 (by decide); have q1 := toInt_neZ (z := 1) e1 (by decide); have q2 := toInt_neZ (z := 2) e2 (by decide); have q3 := toInt_neZ (z := 3) e3 (by decide); have q4 := toInt_neZ (z := 4) e4 (by decide); have q5 := toInt_neZ (z := 5) e5 (by decide); have q6 := toInt_neZ (z := 6) e6 (by decide); have q7 := toInt_neZ (z := 7) e7 (by decide); have q8 := toInt_neZ (z := 8) e8 (by decide); have q9 := toInt_neZ (z := 9) e9 (by decide); have q10 := toInt_neZ (z := 10) e10 (by decide); have q11 := toInt_neZ (z := 11) e11 (by decide); have q12 := toInt_neZ (z := 12) e12 (by decide); have q13 := toInt_neZ (z := 13) e13 (by decide); have q14 := toInt_neZ (z := 14) e14 (by decide); have q15 := toInt_neZ (z := 15) e15 (by decide); have q16 := toInt_neZ (z := 16) e16 (by decide); have q17 := toInt_neZ (z := 17) e17 (by decide); have q18 := toInt_neZ (z := 18) e18 (by decide); have q19 := toInt_neZ (z := 19) e19 (by decide); have q20 := toInt_neZ (z := 20) e20 (by decide); have q21 := toInt_neZ (z := 21) e21 (by decide); have q22 := toInt_neZ (z := 22) e22 (by decide); have q23 := toInt_neZ (z := 23) e23 (by decide); have q24 := toInt_neZ (z := 24) e24 (by decide); have q25 := toInt_neZ (z := 25) e25 (by decide); have q26 := toInt_neZ (z := 26) e26 (by decide); have q27 := toInt_neZ (z := 27) e27 (by decide); have q28 := toInt_neZ (z := 28) e28 (by decide); have q29 := toInt_neZ (z := 29) e29 (by decide); have q30 := toInt_neZ (z := 30) e30 (by decide); have q31 := toInt_neZ (z := 31) e31 (by decide); have q32 := toInt_neZ (z := 32) e32 (by decide); have q33 := toInt_neZ (z := 33) e33 (by decide); have q34 := toInt_neZ (z := 34) e34 (by decide); have q35 := toInt_neZ (z := 35) e35 (by decide); have q36 := toInt_neZ (z := 36) e36 (by decide); have q37 := toInt_neZ (z := 37) e37 (by decide); have q38 := toInt_neZ (z := 38) e38 (by decide); have q39 := toInt_neZ (z := 39) e39 (by decide); have q40 := toInt_neZ (z := 40) e40 (by decide); have q41 := toInt_neZ (z := 41) e41 (by decide); have q42 := toInt_neZ (z := 42) e42 (by decide); have q43 := toInt_neZ (z := 43) e43 (by decide); have q44 := toInt_neZ (z := 44) e44 (by decide); omega) (by decide) ?_
    refine at_seg (pc' := 18) (L' := [(3, .int (nI i + 6)), (2, .ref 222), (1, .ref 0), (0, .ref 400000)]) (S' := []) C ?_ [(.iinc 3 6, 6), (.goto (-1626), 0)] _ _ _ (by decide +kernel) rfl
    exact go _ _ (hmono _ _ _ hR)
