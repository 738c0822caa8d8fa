/-! PURE PART. Texts: a law read -/
theorem line_sim {F l N i n : Nat} {y : Nat → Nat} {B0x B0m τx τm : Tau} {ops : List (Nat × Nat)} (hF : 5000 ≤ F) (hl : l ≤ 400) (hsN : stt y l N = l) (hsl : ∀ j, j < N → stt y l j < l) (hX : LinX y l N B0x i n ops τx) (hM : LinM y l B0m i n ops τm) (hc : (encs ops).length ≤ i) (hn : n ≤ 16) (hT : ∀ k, k < n → LinT ops k τx τm) :
    (∃ τx' τm' i' new, X3_readLawLine F (nI n) τx = some (0, τx') ∧ X11_aLine F τm = some (1, τm') ∧ n < 16 ∧ i < i' ∧ i + (encs new).length ≤ i' ∧ LinX y l N B0x i' (n + 1) (ops ++ new) τx' ∧ LinM y l B0m i' n (ops ++ new) τm' ∧ (∀ o ∈ new, okOp o) ∧ ∀ k, k < n + 1 → LinT (ops ++ new) k τx' τm') ∨
    (∃ τx' τm' k p, X3_readLawLine F (nI n) τx = some (0, τx') ∧ X11_aLine F τm = some (0, τm') ∧ XW B0x k p τx' ∧ MW B0m k p τm') := by
  have hX0 := hX
  have hM0 := hM
  obtain ⟨x1, x2, x3, x4, x5, x6, x7, x8⟩ := hX
  obtain ⟨y1, y2, y3, y4, y5, y6⟩ := hM
  have E : EnvT 0 y l N τx τm := ⟨by decide, hl, x5, y3, hsN, hsl⟩
  have hN := x5.2.1
  have hXL : XL y l N τx i (encs ops) τx := ⟨⟨x1, x2, x3, x4, fun _ _ _ => rfl⟩, x6⟩
  have hMS : MS 0 y l τm i τm := ⟨y1, y2, fun _ _ _ => rfl⟩
  have hge := encs_ge ops
  have tko := tk_ok (a := 0) (y := y) (l := l) (i := i)
  have hcM := ms_code hMS
  have toXW : ∀ k p τ, 0 < k ∧ k < 4 → τ 197 1 = nI k → τ 197 2 = nI p → (∀ c j, ¬ gX c j → τ c j = τx c j) → XW B0x k p τ := fun k p τ h1 h2 h3 h4 => ⟨h1, h2, h3, fun c j hc => (h4 c j hc).trans (x8 c j hc)⟩
  have toMW : ∀ k p B τ, (∀ c j, c ≠ 5 → B c j = τm c j) → MD B k p τ → MW B0m k p τ := fun k p B τ hB h => ⟨h.1, h.2.1, fun c j hc => by
    have hc2 := hc
    unfold gM at hc2
    rw [h.2.2 c j (by unfold frM; omega), hB c j (by omega)]
    exact y6 c j hc⟩
  have fail : ∀ k, 0 < k ∧ k < 4 → X3_readLawLine F (nI n) τx = X6_refuse F (nI k) τx → X11_aLine F τm = (cal (X11_bad F (nI k) τm) fun r3 τ4 => some (vp_nar .boolean r3, τ4)) → ∃ τx' τm' k p, X3_readLawLine F (nI n) τx = some (0, τx') ∧ X11_aLine F τm = some (0, τm') ∧ XW B0x k p τx' ∧ MW B0m k p τm' := by
    intro k hk e1 e2
    obtain ⟨τ1, t1, t2⟩ := xl_ref (F := F) (k := k) hXL (by omega) hk
    obtain ⟨τ2, u1, u2⟩ := ms_bad (F := F) (k := k) hMS
    exact ⟨τ1, τ2, k, _, e1.trans t1, by rw [e2, u1, cal_some, nar0], toXW k _ τ1 hk t2.1.2.1 t2.1.2.2.1 (fun c j hc => t2.1.2.2.2 c j (by unfold gX at hc; unfold frX; omega)), toMW k _ τm τ2 (fun _ _ _ => rfl) u2⟩
  have refu : ∀ k τ, (cal (X6_refuse F k τ) fun r7 τ8 => some ((0 : Int32), τ8)) = X6_refuse F k τ := by
    intro k τ
    unfold X6_refuse pst
    by_cases c : τ 197 1 = 0
    · rw [if_pos c, cal_some]
    · rw [if_neg c, cal_some]
  have in1 : ∀ c : Nat, c < 1000 → ¬ (20 ≤ c ∧ c ≤ 22) → X11_isIn F (nI c) 20 22 τm = some (0, τm) := by
    intro c h1 h2
    rw [X11_isIn_eq, bI_f (show ¬ ((20 : Int32) ≤ nI c ∧ nI c ≤ 22) from fun z => h2 ((in_iff (lo := 20) (hi := 22) (by decide) (by omega) (by decide)).mp z))]
  rcases xs_word (F := F) hXL.1 with ⟨u, hu, w1⟩ | ⟨hu, w1⟩
  · have hu17 : u < 17 := by rw [hu] at tko; exact tko
    have hcd : τm 0 18 = nI (wcd 0 u) := by rw [hcM, hu]; rfl
    by_cases cu : u ≤ 2
    · have hw20 : wcd 0 u = 20 + u := by
        unfold wcd
        rw [if_pos rfl, if_pos (by omega)]
      rw [hw20] at hcd
      have hin : X11_isIn F (nI (20 + u)) 20 22 τm = some (1, τm) := by
        rw [X11_isIn_eq, bI_t (show (20 : Int32) ≤ nI (20 + u) ∧ nI (20 + u) ≤ 22 from (in_iff (lo := 20) (hi := 22) (by decide) (by omega) (by decide)).mpr (by omega))]
      have hwi : X10_within F (nI u) 0 2 τx = some (1, τx) := by
        rw [X10_within_eq, bI_t (show (0 : Int32) ≤ nI u ∧ nI u ≤ 2 from (in_iff (lo := 0) (hi := 2) (by decide) (by omega) (by decide)).mpr (by omega))]
      by_cases c16 : n = 16
      · right
        refine fail 3 (by decide) ?_ ?_
        · unfold X3_readLawLine
          rw [w1, cal_some, hwi, cal_some, if_neg n10, if_neg (by rw [c16]; decide)]
          exact refu 3 τx
        · unfold X11_aLine
          rw [hcd, hin, cal_some, if_neg n10, if_pos (by rw [y5, c16]; rfl)]
          rfl
      · have hn16 : n < 16 := by omega
        have hlt := tk_N hsN x4 (by rw [hu]; exact (nofun))
        obtain ⟨τ1, s1, s2⟩ := xl_skip (F := F) E hXL hlt
        have k4 : (4 : Int32) * nI n = nI (4 * n) := litM
        have k43 : nI (4 * n) + 3 = nI (4 * n + 3) := litA'
        have k41 : nI (4 * n) + 1 = nI (4 * n + 1) := litA'
        have h8 : ML y l (up τm 5 (4 * n + 3) (nI (20 + u))) i 0 ops (up (up τm 0 24 0) 5 (4 * n + 3) (nI (20 + u))) := ml_5 (ml_d0 hMS y4)
        have E8 : EnvT 0 y l N τx (up τm 5 (4 * n + 3) (nI (20 + u))) := env_5 E
        obtain ⟨τ10, n1, n2⟩ := ml_next hF E8 h8
        have f13 : ∀ B i d o τ, ML y l B i d o τ → B 0 13 = nI n → τ 0 13 = nI n := fun B i d o τ h hB => (h.1.2.2 _ _ (by unfold frM; omega)).trans hB
        have b8 : up τm 5 (4 * n + 3) (nI (20 + u)) 0 13 = nI n := (up_nc (by decide)).trans y5
        have h11 : ML y l (up (up τm 5 (4 * n + 3) (nI (20 + u))) 5 (4 * n) (nI ops.length)) (i + 1) 0 ops (up τ10 5 (4 * n) (nI ops.length)) := ml_5 n2
        have E11 : EnvT 0 y l N τx (up (up τm 5 (4 * n + 3) (nI (20 + u))) 5 (4 * n) (nI ops.length)) := env_5 E8
        have b11 : up (up τm 5 (4 * n + 3) (nI (20 + u))) 5 (4 * n) (nI ops.length) 0 13 = nI n := (up_nc (by decide)).trans b8
        have eM : X11_aLine F τm = cal (X11_sumUp F (up τ10 5 (4 * n) (nI ops.length))) fun r12 τ13 => if r12 = 0 then (some (0, τ13)) else (ast τ13 5 64 ((4 * (τ13 0 13)) + 1) (τ13 0 14) fun τ14 => if (τ14 0 18) = 3 then (cal (X11_next0 F τ14) fun r15 τ16 => cal (X11_any F (X11_oneTest F 12) τ16) fun r17 τ18 => if r17 = 0 then (some (0, τ18)) else (X11_aLine_j123 F τ18)) else (X11_aLine_j123 F τ14)) := by
          unfold X11_aLine
          rw [hcd, hin, cal_some, if_neg n10, if_neg (show ¬ τm 0 13 = 16 by rw [y5, lit_eq (by decide) (by omega)]; exact c16), pst_eq, up_nj (show (13 : Nat) ≠ 24 by decide), y5, k4, k43, up_nj (show (18 : Nat) ≠ 24 by decide), hcd, ast_nI (by omega) (by omega), n1, cal_some, f13 _ _ _ _ _ n2 b8, k4, n2.2.2.1, ast_nI (by omega) (by omega)]
        have eX : X3_readLawLine F (nI n) τx = cal (X3_readSum F τ1) fun r11 τ12 => cal (X6_isWord F 3 τ12) fun r13 τ14 => if r13 = 0 then (X3_readLawLine_j99 F (nI u) (nI (encs ops).length) (-1) τ14) else (cal (X6_skip F τ14) fun r19 τ20 => cal (X2_here F 203 τ20) fun r21 τ22 => cal (X3_readAny F 12 0 τ22) fun r23 τ24 => X3_readLawLine_j99 F (nI u) (nI (encs ops).length) r21 τ24) := by
          unfold X3_readLawLine X2_here
          rw [w1, cal_some, hwi, cal_some, if_neg n10, if_pos (show nI n < 16 from nI_lt (b := 16) hn16 (by decide)), s1, cal_some, cal_some, s2.2.1]
        rw [eX, eM]
        have hB5 : ∀ (v1 v2 : Int32) c j, c ≠ 5 → up (up τm 5 (4 * n + 3) v1) 5 (4 * n) v2 c j = τm c j := fun v1 v2 c j hc => by rw [up_nc hc, up_nc hc]
        rcases sum_sim hF E11 s2 h11 (by omega) with ⟨τ2, τ13, i1, m1, u1, u2, u3, u4, u5, u6, u7⟩ | ⟨r, τ2, τ13, k, p, u1, u2, u3, u4⟩
        · have hi1 := u3.1.2.2.2.1
          have en1 : (encs (ops ++ m1)).length = (encs ops).length + (encs m1).length := by rw [encs_app, List.length_append]
          have lo1 := encs_ge (ops ++ m1)
          have tko1 := tk_ok (a := 0) (y := y) (l := l) (i := i1)
          have h14 : ML y l (up (up (up τm 5 (4 * n + 3) (nI (20 + u))) 5 (4 * n) (nI ops.length)) 5 (4 * n + 1) (nI (ops ++ m1).length)) i1 0 (ops ++ m1) (up τ13 5 (4 * n + 1) (nI (ops ++ m1).length)) := ml_5 u4
          have E14 : EnvT 0 y l N τx (up (up (up τm 5 (4 * n + 3) (nI (20 + u))) 5 (4 * n) (nI ops.length)) 5 (4 * n + 1) (nI (ops ++ m1).length)) := env_5 E11
          rw [u1, cal_some, u2, cal_some, if_neg n10, f13 _ _ _ _ _ u4 b11, k4, k41, u4.2.2.1, ast_nI (by omega) (by omega), ms_code h14.1]
          have gB : ∀ c j, ¬ (c = 5 ∧ 4 * n ≤ j ∧ j < 4 * n + 4) → up (up (up τm 5 (4 * n + 3) (nI (20 + u))) 5 (4 * n) (nI ops.length)) 5 (4 * n + 1) (nI (ops ++ m1).length) c j = τm c j := fun c j hcj => by rw [up_if, if_neg (by omega), up_if, if_neg (by omega), up_if, if_neg (by omega)]
          have gB0 : up (up (up τm 5 (4 * n + 3) (nI (20 + u))) 5 (4 * n) (nI ops.length)) 5 (4 * n + 1) (nI (ops ++ m1).length) 5 (4 * n) = nI ops.length := by rw [up_nj (by omega), up_c]
          have gB1 : up (up (up τm 5 (4 * n + 3) (nI (20 + u))) 5 (4 * n) (nI ops.length)) 5 (4 * n + 1) (nI (ops ++ m1).length) 5 (4 * n + 1) = nI (ops ++ m1).length := up_c
          have gB3 : up (up (up τm 5 (4 * n + 3) (nI (20 + u))) 5 (4 * n) (nI ops.length)) 5 (4 * n + 1) (nI (ops ++ m1).length) 5 (4 * n + 3) = nI (20 + u) := by rw [up_nj (by omega), up_nj (by omega), up_c]
          have hB5' : ∀ c j, c ≠ 5 → up (up (up τm 5 (4 * n + 3) (nI (20 + u))) 5 (4 * n) (nI ops.length)) 5 (4 * n + 1) (nI (ops ++ m1).length) c j = τm c j := fun c j hc => by rw [up_nc hc, up_nc hc, up_nc hc]
          by_cases c3 : tk 0 y l i1 = .wrd 3
          · have hlt1 := tk_N hsN hi1 (by rw [c3]; exact (nofun))
            have w3 : X6_isWord F 3 τ2 = some (1, τ2) := (xs_isW (F := F) (u := 3) u3.1 (by decide) (by decide)).1 c3
            obtain ⟨τ3, p1, p2⟩ := xl_skip (F := F) E11 u3 hlt1
            obtain ⟨τ16, q1, q2⟩ := ml_next hF E14 h14
            have eR : X3_readAny F 12 0 τ3 = X3_readAny_B F (X3_readAny F 11) (nI 0) τ3 := rfl
            unfold X2_here
            rw [w3, cal_some, if_neg n10, p1, cal_some, cal_some, p2.2.1, if_pos (show cM 0 (tk 0 y l i1) = 3 by rw [c3]; rfl), q1, cal_some, eR]
            rcases any_sim hF E14 ((test_all hF E14 8 0 (by omega)).toH (n := 11) (m := 12) hF (by decide) (by decide)) p2 q2 (by omega) with ⟨τ4, τ18, i2, m2, v1, v2, v3, v4, v5, v6, v7⟩ | ⟨r, τ4, τ18, k, p, v1, v2, v3, v4⟩
            · have en2 : (encs (ops ++ m1 ++ m2)).length = (encs ops).length + (encs m1).length + (encs m2).length := by rw [encs_app, List.length_append, en1]
              have hm2 : (ops ++ m1).length ≠ (ops ++ m1 ++ m2).length := by
                intro z
                rw [List.length_append (as := ops ++ m1)] at z
                have : m2 = [] := List.eq_nil_of_length_eq_zero (by omega)
                have hv := v7 [] (Nat.zero_le _)
                rw [this] at hv
                exact absurd hv (by decide)
              have t1 : (ops ++ m1 ++ m2).take ops.length = ops := by rw [List.append_assoc]; exact List.take_left
              have t2 : (ops ++ m1 ++ m2).take (ops ++ m1).length = ops ++ m1 := List.take_left
              rw [v1, cal_some, v2, cal_some, if_neg n10]
              have le := line_end (F := F) (i := i) (a := ops.length) (m := (ops ++ m1).length) (ops' := ops ++ m1 ++ m2) (wd := u) (v3 := nI (encs (ops ++ m1)).length) hF E14 hX0 hM0 hn16 (by omega) (by rw [List.length_append]; omega) (by rw [List.length_append (as := ops ++ m1)]; omega) gB gB0 gB1 gB3 v3 v4 (by omega) (by rw [if_neg hm2, t2]) (by rw [t2, List.drop_left]; exact u7 [] (Nat.zero_le _)) (fun _ => by rw [List.drop_left]; exact v7 [] (Nat.zero_le _))
              rw [t1] at le
              rcases le with ⟨τx', τm', z1, z2, z3, z4, z5, z6, z7⟩ | ⟨τx', τm', k, p, z1, z2, z3, z4⟩
              · left
                have as : ops ++ (m1 ++ m2) = ops ++ m1 ++ m2 := (List.append_assoc _ _ _).symm
                refine ⟨τx', τm', i2 + 1, m1 ++ m2, z1, z2, hn16, by omega, by rw [encs_app, List.length_append]; omega, by rw [as]; exact z3, by rw [as]; exact z4, ?_, fun k hk => ?_⟩
                · intro o ho
                  rcases List.mem_append.mp ho with ho | ho
                  · exact u6 o ho
                  · exact v6 o ho
                · by_cases e : k = n
                  · rw [e, as]; exact z5
                  · exact (hT k (by omega)).more (fun c h1 h2 => z6 c k h1 h2 e) (fun j hj => z7 _ (by omega))
              · exact .inr ⟨τx', τm', k, p, z1, z2, z3, z4⟩
            · right
              obtain ⟨τ5, w2, w3, w4, w5⟩ := dl_line (F := F) (v1 := nI u) (v2 := nI (encs ops).length) (v3 := nI (encs (ops ++ m1)).length) v3 x7 hn16
              exact ⟨τ5, τ18, k, p, by rw [v1, cal_some]; exact w2, by rw [v2, cal_some, if_pos rfl], toXW k p τ5 v3.1.1 w3 w4 w5, toMW k p _ τ18 hB5' v4⟩
          · have w3 : X6_isWord F 3 τ2 = some (0, τ2) := (xs_isW (F := F) (u := 3) u3.1 (by decide) (by decide)).2 c3
            rw [w3, cal_some, if_pos rfl, if_neg (show ¬ cM 0 (tk 0 y l i1) = 3 from fun z => c3 ((cM_wd (v := 3) (by decide) tko1 (by decide)).mp z))]
            have t1 : (ops ++ m1).take ops.length = ops := List.take_left
            have le := line_end (F := F) (i := i) (a := ops.length) (m := (ops ++ m1).length) (ops' := ops ++ m1) (wd := u) (v3 := -1) hF E14 hX0 hM0 hn16 (by omega) (by rw [List.length_append]; omega) (Nat.le_refl _) gB gB0 gB1 gB3 u3 h14 (by omega) (if_pos rfl).symm (by rw [List.take_length, List.drop_left]; exact u7 [] (Nat.zero_le _)) (fun z => absurd z (Nat.lt_irrefl _))
            rw [t1] at le
            rcases le with ⟨τx', τm', z1, z2, z3, z4, z5, z6, z7⟩ | ⟨τx', τm', k, p, z1, z2, z3, z4⟩
            · left
              refine ⟨τx', τm', i1 + 1, m1, z1, z2, hn16, by omega, by omega, z3, z4, u6, fun k hk => ?_⟩
              by_cases e : k = n
              · rw [e]; exact z5
              · exact (hT k (by omega)).more (fun c h1 h2 => z6 c k h1 h2 e) (fun j hj => z7 _ (by omega))
            · exact .inr ⟨τx', τm', k, p, z1, z2, z3, z4⟩
        · right
          obtain ⟨τ5, w2, w3, w4, w5⟩ := dl_line (F := F) (v1 := nI u) (v2 := nI (encs ops).length) (v3 := -1) u3 x7 hn16
          exact ⟨τ5, τ13, k, p, by rw [u1, cal_some, xd_isW u3.1, cal_some, if_pos rfl]; exact w2, by rw [u2, cal_some, if_pos rfl], toXW k p τ5 u3.1.1 w3 w4 w5, toMW k p _ τ13 (fun c j hc => by rw [up_nc hc, up_nc hc]) u4⟩
    · right
      have hw : ¬ (20 ≤ wcd 0 u ∧ wcd 0 u ≤ 22) ∧ wcd 0 u < 1000 := by
        have hz := wcd_tab 0 (by decide) u (by exact hu17)
        unfold wcd at hz ⊢
        rw [if_pos rfl] at hz ⊢
        by_cases z : u < 7
        · rw [if_neg (by omega), if_pos z]; omega
        · rw [if_neg (by omega), if_neg z]; omega
      refine fail 1 (by decide) ?_ ?_
      · unfold X3_readLawLine
        rw [w1, cal_some, X10_within_eq, bI_f (show ¬ ((0 : Int32) ≤ nI u ∧ nI u ≤ 2) from fun z => cu ((in_iff (lo := 0) (hi := 2) (by decide) (by omega) (by decide)).mp z).2), cal_some, if_pos rfl]
        exact refu 1 τx
      · unfold X11_aLine
        rw [hcd, in1 _ hw.2 hw.1, cal_some, if_pos rfl]
        rfl
  · right
    refine fail 1 (by decide) ?_ ?_
    · unfold X3_readLawLine
      rw [w1, cal_some, X10_within_eq, bI_f (by decide), cal_some, if_pos rfl]
      exact refu 1 τx
    · have hin : X11_isIn F (cM 0 (tk 0 y l i)) 20 22 τm = some (0, τm) := by
        generalize tk 0 y l i = t at hu tko
        cases t using Tok.cs with
        | fin => exact in1 0 (by decide) (by decide)
        | unk => exact in1 1 (by decide) (by decide)
        | num n => exact in1 2 (by decide) (by decide)
        | sgn b =>
          have hb := sgn_rng tko
          exact in1 (100 + b) (by omega) (by omega)
        | wrd u => exact absurd rfl (hu u)
      unfold X11_aLine
      rw [hcM, hin, cal_some, if_pos rfl]
      rfl
