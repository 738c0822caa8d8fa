/-! PURE PART. Texts: the law's steps as both readers lay them; sums -/
def CXc (cs : List Nat) (τ : Tau) : Prop := τ 203 1 = nI cs.length ∧ ∀ j v, cs[j]? = some v → τ 208 j = nI v
def CMc (ops : List (Nat × Nat)) (τ : Tau) : Prop := τ 0 14 = nI ops.length ∧ ∀ i o, ops[i]? = some o → τ 6 (2 * i) = nI o.1 ∧ (o.1 = 0 ∨ o.1 = 26 → τ 6 (2 * i + 1) = nI o.2)
def XL (y : Nat → Nat) (l N : Nat) (B : Tau) (i : Nat) (cs : List Nat) (τ : Tau) : Prop := XS 0 y l N B i τ ∧ CXc cs τ
def ML (y : Nat → Nat) (l : Nat) (B : Tau) (i d : Nat) (ops : List (Nat × Nat)) (τ : Tau) : Prop := MS 0 y l B i τ ∧ τ 0 24 = nI d ∧ CMc ops τ
def DL (B : Tau) (k p : Nat) (τ : Tau) : Prop := XD B k p τ ∧ ∃ m, m ≤ 400 ∧ τ 203 1 = nI m
theorem enc_pos (o : Nat × Nat) : 1 ≤ (enc o).length := by
  unfold enc
  repeat' split
  all_goals exact Nat.succ_le_succ (Nat.zero_le _)
theorem encs_one (o : Nat × Nat) : encs [o] = enc o := by
  unfold encs
  rw [List.flatMap_cons, List.flatMap_nil, List.append_nil]
theorem encs_ge (p : List (Nat × Nat)) : p.length ≤ (encs p).length := by
  induction p with
  | nil => exact Nat.zero_le _
  | cons o p ih =>
    have h := enc_pos o
    show p.length + 1 ≤ (enc o ++ encs p).length
    rw [List.length_append]
    omega
theorem xl_skip {F l N i : Nat} {y : Nat → Nat} {Bx Bm τ : Tau} {cs : List Nat} (E : EnvT 0 y l N Bx Bm) (h : XL y l N Bx i cs τ) (hi : i < N) : ∃ τ', X6_skip F τ = some (0, τ') ∧ XL y l N Bx (i + 1) cs τ' := by
  obtain ⟨h1, h2, h3⟩ := h
  obtain ⟨τ', t1, t2, t3⟩ := xs_skip (F := F) E h1 hi
  exact ⟨τ', t1, t2, (t3 _ _ (by omega)).trans h2, fun j v hj => (t3 _ _ (by omega)).trans (h3 j v hj)⟩
theorem ml_next {F l N i d : Nat} {y : Nat → Nat} {Bx Bm τ : Tau} {ops : List (Nat × Nat)} (hF : 5000 ≤ F) (E : EnvT 0 y l N Bx Bm) (h : ML y l Bm i d ops τ) : ∃ τ', X11_next0 F τ = some (0, τ') ∧ ML y l Bm (i + 1) d ops τ' := by
  obtain ⟨h1, hd, h2, h3⟩ := h
  obtain ⟨τ', t1, t2, t3⟩ := ms_next hF E h1
  exact ⟨τ', t1, t2, (t3 _ _ (by omega)).trans hd, (t3 _ _ (by omega)).trans h2, fun j o hj => by
    rw [t3 _ _ (by omega), t3 _ _ (by omega)]
    exact h3 j o hj⟩
theorem xl_ref {F l N i k : Nat} {y : Nat → Nat} {Bx τ : Tau} {cs : List Nat} (h : XL y l N Bx i cs τ) (hc : cs.length ≤ 400) (hk : 0 < k ∧ k < 4) : ∃ τ', X6_refuse F (nI k) τ = some (0, τ') ∧ DL Bx k (stt y l i) τ' := by
  obtain ⟨τ', t1, t2, t3⟩ := xs_ref (F := F) h.1 hk
  exact ⟨τ', t1, t2, cs.length, hc, (t3 _ _ (by decide)).trans h.2.1⟩
theorem xl_emit {F l N i v : Nat} {y : Nat → Nat} {Bx τ : Tau} {cs : List Nat} (h : XL y l N Bx i cs τ) (hc : cs.length < 400) : ∃ τ', X2_emit F 203 (nI v) τ = some (0, τ') ∧ XL y l N Bx i (cs ++ [v]) τ' := by
  obtain ⟨⟨g1, g2, ⟨c1, c2, c3, c4⟩, g4, g5⟩, h2, h3⟩ := h
  have kk : nI cs.length + 1 = nI (cs.length + 1) := litA'
  refine ⟨up (up τ 208 cs.length (nI v)) 203 1 (nI (cs.length + 1)), ?_, ⟨?_, ?_, ⟨?_, ?_, ?_, ?_⟩, g4, fun c j hc' => ?_⟩, ?_, fun j w hj => ?_⟩
  · unfold X2_emit
    rw [h2, if_neg (show ¬ (400 : Int32) ≤ nI cs.length from nI_ge (b := 400) (by omega) (by decide)), ast_nI (by omega) (by omega), pst_eq, up_nc (by decide), h2, kk]
  · rw [up_nc (by decide), up_nc (by decide)]; exact g1
  · rw [up_nc (by decide), up_nc (by decide)]; exact g2
  · rw [up_nc (by decide), up_nc (by decide)]; exact c1
  · rw [up_nc (by decide), up_nc (by decide)]; exact c2
  · rw [up_nc (by decide), up_nc (by decide)]; exact c3
  · rw [up_nc (by decide), up_nc (by decide)]; exact c4
  · have hc2 := hc'
    unfold frX at hc2
    rw [up_if, if_neg (by omega), up_if, if_neg (by omega)]
    exact g5 c j hc'
  · rw [up_c, List.length_append]; rfl
  · rw [up_nc (by decide)]
    by_cases e : j = cs.length
    · rw [e] at hj ⊢
      rw [List.getElem?_append_right (Nat.le_refl _), Nat.sub_self] at hj
      injection hj with hj
      rw [up_c, hj]
    · have hlt : j < cs.length := by
        have := (List.getElem?_eq_some_iff.mp hj).1
        rw [List.length_append] at this
        have h1 : [v].length = 1 := rfl
        omega
      rw [List.getElem?_append_left hlt] at hj
      rw [up_nj e]
      exact h3 j w hj
theorem dl_emit {F k p : Nat} {B τ : Tau} (v : Int32) (h : DL B k p τ) : ∃ τ', X2_emit F 203 v τ = some (0, τ') ∧ DL B k p τ' := by
  obtain ⟨⟨h1, h2, h3, h4⟩, m, h5, h6⟩ := h
  unfold X2_emit
  rw [h6]
  by_cases c : m < 400
  · have kk : nI m + 1 = nI (m + 1) := litA'
    refine ⟨up (up τ 208 m v) 203 1 (nI (m + 1)), ?_, ⟨h1, ?_, ?_, fun c j hc' => ?_⟩, m + 1, by omega, up_c⟩
    · rw [if_neg (show ¬ (400 : Int32) ≤ nI m from nI_ge (b := 400) (by omega) (by decide)), ast_nI (by omega) (by omega), pst_eq, up_nc (by decide), h6, kk]
    · rw [up_nc (by decide), up_nc (by decide)]; exact h2
    · rw [up_nc (by decide), up_nc (by decide)]; exact h3
    · have hc2 := hc'
      unfold frX at hc2
      rw [up_if, if_neg (by omega), up_if, if_neg (by omega)]
      exact h4 c j hc'
  · exact ⟨τ, if_pos (show (400 : Int32) ≤ nI m from nI_le (a := 400) (by omega) (by omega)), ⟨h1, h2, h3, h4⟩, m, h5, h6⟩
theorem ml_lay {F l i d : Nat} {y : Nat → Nat} {Bm τ : Tau} {ops : List (Nat × Nat)} (o : Nat × Nat) (w : Int32) (h : ML y l Bm i d ops τ) (hl : ops.length < 410) (hw : o.1 = 0 ∨ o.1 = 26 → w = nI o.2) : ∃ τ', X11_lay F (nI o.1) w τ = some (0, τ') ∧ ML y l Bm i d (ops ++ [o]) τ' := by
  obtain ⟨⟨g1, ⟨m1, m2, m3, m4⟩, g5⟩, hd, h2, h3⟩ := h
  have kk : nI ops.length + 1 = nI (ops.length + 1) := litA'
  have k2 : (2 : Int32) * nI ops.length = nI (2 * ops.length) := litM
  have k3 : nI (2 * ops.length) + 1 = nI (2 * ops.length + 1) := litA'
  refine ⟨up (up (up τ 6 (2 * ops.length) (nI o.1)) 6 (2 * ops.length + 1) w) 0 14 (nI (ops.length + 1)), ?_, ⟨?_, ⟨?_, ?_, ?_, fun n hn => ?_⟩, fun c j hc' => ?_⟩, ?_, ?_, fun j q hj => ?_⟩
  · unfold X11_lay
    rw [h2, k2, ast_nI (by omega) (by omega), up_nc (show (0 : Nat) ≠ 6 by decide), h2, k2, k3, ast_nI (by omega) (by omega), pst_eq, up_nc (show (0 : Nat) ≠ 6 by decide), up_nc (show (0 : Nat) ≠ 6 by decide), h2, kk]
  · rw [up_nj (by decide), up_nc (by decide), up_nc (by decide)]; exact g1
  · rw [up_nj (by decide), up_nc (by decide), up_nc (by decide)]; exact m1
  · rw [up_nj (by decide), up_nc (by decide), up_nc (by decide)]; exact m2
  · rw [up_nj (by decide), up_nc (by decide), up_nc (by decide)]; exact m3
  · rw [up_nj (by decide), up_nc (by decide), up_nc (by decide)]; exact m4 n hn
  · have hc2 := hc'
    unfold frM at hc2
    rw [up_if, if_neg (by omega), up_if, if_neg (by omega), up_if, if_neg (by omega)]
    exact g5 c j hc'
  · rw [up_nj (by decide), up_nc (by decide), up_nc (by decide)]; exact hd
  · rw [up_c, List.length_append]; rfl
  · rw [up_nc (b := 2 * j) (show (6 : Nat) ≠ 0 by decide), up_nc (b := 2 * j + 1) (show (6 : Nat) ≠ 0 by decide)]
    by_cases e : j = ops.length
    · rw [e] at hj ⊢
      rw [List.getElem?_append_right (Nat.le_refl _), Nat.sub_self] at hj
      injection hj with hj
      rw [up_nj (show 2 * ops.length ≠ 2 * ops.length + 1 by omega), up_c, up_c, ← hj]
      exact ⟨rfl, hw⟩
    · have hlt : j < ops.length := by
        have := (List.getElem?_eq_some_iff.mp hj).1
        rw [List.length_append] at this
        have h1 : [o].length = 1 := rfl
        omega
      rw [List.getElem?_append_left hlt] at hj
      rw [up_nj (by omega), up_nj (by omega), up_nj (by omega), up_nj (by omega)]
      exact h3 j q hj
/-- both readers fail alike -/
def Fl (Bx Bm : Tau) (rx rm : Option (Int32 × Tau)) : Prop := ∃ r τx τm k p, rx = some (r, τx) ∧ rm = some (0, τm) ∧ DL Bx k p τx ∧ MD Bm k p τm
def tyB (b : Nat) (c : Bool) (new : List (Nat × Nat)) : Prop := ∀ s : List Bool, s.length ≤ b → tyc new s = some (c :: s)
theorem unit_sim {F l N i d : Nat} {y : Nat → Nat} {Bx Bm τx τm : Tau} {ops : List (Nat × Nat)} (hF : 5000 ≤ F) (E : EnvT 0 y l N Bx Bm) (h : XL y l N Bx i (encs ops) τx) (h' : ML y l Bm i d ops τm) (hc : (encs ops).length ≤ i) :
    (∃ τx' τm' o, X3_readUnit F τx = some (0, τx') ∧ X11_unit F τm = some (1, τm') ∧ XL y l N Bx (i + 1) (encs (ops ++ [o])) τx' ∧ ML y l Bm (i + 1) d (ops ++ [o]) τm' ∧ okOp o ∧ o.1 ≤ 10 ∧ i < N) ∨ Fl Bx Bm (X3_readUnit F τx) (X11_unit F τm) := by
  have e5 := E.2.2.2.2.1
  have hN := E.2.2.1.2.1
  have hiN := h.1.2.2.2.1
  have hge := encs_ge ops
  have tko := tk_ok (a := 0) (y := y) (l := l) (i := i)
  have hcM := ms_code h'.1
  have fail : X3_readUnit F τx = X6_refuse F 1 τx → X11_unit F τm = (cal (X11_bad F 1 τm) fun r7 τ8 => some (vp_nar .boolean r7, τ8)) → Fl Bx Bm (X3_readUnit F τx) (X11_unit F τm) := by
    intro e1 e2
    obtain ⟨τx', t1, t2⟩ := xl_ref (F := F) (k := 1) h (by omega) (by decide)
    obtain ⟨τm', u1, u2⟩ := ms_bad (F := F) (k := 1) h'.1
    exact ⟨0, τx', τm', 1, stt y l i, e1.trans t1, by rw [e2, show X11_bad F 1 τm = _ from u1, cal_some, nar0], t2, u2⟩
  have refu : ∀ τ, (cal (X6_refuse F 1 τ) fun r7 τ8 => some ((0 : Int32), τ8)) = X6_refuse F 1 τ := by
    intro τ
    unfold X6_refuse pst
    by_cases c : τ 197 1 = 0
    · rw [if_pos c, cal_some]
    · rw [if_neg c, cal_some]
  have in1 : ∀ c : Nat, c < 1000 → ¬ (41 ≤ c ∧ c ≤ 50) → X11_isIn F (nI c) 41 50 τm = some (0, τm) := by
    intro c h1 h2
    rw [X11_isIn_eq, bI_f (show ¬ ((41 : Int32) ≤ nI c ∧ nI c ≤ 50) from fun z => h2 ((in_iff (lo := 41) (hi := 50) (by decide) (by omega) (by decide)).mp z))]
  rcases xs_num (F := F) h.1 with ⟨n, hn, q1, q2⟩ | ⟨hn, q1⟩
  · left
    have hlt := tk_N e5 hiN (by rw [hn]; exact (nofun))
    have hn9 : n ≤ 9999 := by rw [hn] at tko; exact tko
    have en : encs (ops ++ [(0, n)]) = encs ops ++ [32 + n] := by rw [encs_app, encs_one]; rfl
    obtain ⟨τ1, a1, a2⟩ := xl_emit (F := F) (v := 32 + n) h (by omega)
    obtain ⟨τ2, b1, b2⟩ := xl_skip (F := F) E a2 hlt
    obtain ⟨τ3, c1, c2⟩ := ml_lay (F := F) (0, n) (nI n) h' (by omega) (fun _ => rfl)
    obtain ⟨τ4, d1, d2⟩ := ml_next hF E c2
    refine ⟨τ2, τ4, (0, n), ?_, ?_, by rw [en]; exact b2, d2, ⟨.inl (Nat.zero_le _), fun _ => hn9, fun z => absurd z (show ¬ (0 : Nat) = 26 by decide)⟩, Nat.zero_le _, hlt⟩
    · unfold X3_readUnit
      rcases xs_word (F := F) h.1 with ⟨u, hu, -⟩ | ⟨-, w1⟩
      · rw [hu] at hn; exact (nomatch hn)
      · have k : (32 : Int32) + nI n = nI (32 + n) := litA
        rw [w1, cal_some, q1, cal_some, if_neg n10, q2, cal_some, k, a1, cal_some, b1, cal_some]
    · unfold X11_unit X11_unit_j30 X11_unit_j46
      rw [hn] at hcM
      rw [hcM, show cM 0 (Tok.num n) = nI 2 from rfl, in1 2 (by decide) (by decide), cal_some, if_pos (show τm 0 18 = 2 from hcM), if_pos rfl, ms_num h'.1 hn, show X11_lay F 0 (nI n) τm = _ from c1, cal_some, d1, cal_some]
  · have hnm : ¬ cM 0 (tk 0 y l i) = 2 := fun z => by
      obtain ⟨n, hz⟩ := (cM_nm (by decide) tko).mp z
      exact hn n hz
    rcases xs_word (F := F) h.1 with ⟨u, hu, w1⟩ | ⟨hu, w1⟩
    · have hu17 : u < 17 := by rw [hu] at tko; exact tko
      by_cases c : 7 ≤ u ∧ u ≤ 16
      · left
        have hlt := tk_N e5 hiN (by rw [hu]; exact (nofun))
        have en : encs (ops ++ [(u - 6, 0)]) = encs ops ++ [u - 7] := by
          rw [encs_app, encs_one]
          unfold enc
          rw [if_neg (show ¬ u - 6 = 0 by omega), if_pos (show u - 6 < 23 by omega), show (u - 6, 0).1 - 1 = u - 7 from by show u - 6 - 1 = u - 7; omega]
        obtain ⟨τ1, a1, a2⟩ := xl_emit (F := F) (v := u - 7) h (by omega)
        obtain ⟨τ2, b1, b2⟩ := xl_skip (F := F) E a2 hlt
        obtain ⟨τ3, c1, c2⟩ := ml_lay (F := F) (u - 6, 0) (τm 0 20) h' (by omega) (fun z => by
          have : u - 6 = 0 ∨ u - 6 = 26 := z
          omega)
        obtain ⟨τ4, d1, d2⟩ := ml_next hF E c2
        refine ⟨τ2, τ4, (u - 6, 0), ?_, ?_, by rw [en]; exact b2, d2, ⟨.inl (by show u - 6 ≤ 10; omega), fun _ => by show 0 ≤ 9999; omega, fun z => by
          have : u - 6 = 26 := z
          omega⟩, by show u - 6 ≤ 10; omega, hlt⟩
        · unfold X3_readUnit
          rw [w1, cal_some, q1, cal_some, if_pos rfl, within_in (lo := 7) (hi := 16) c (by decide), cal_some, if_neg n10, litS c.1, a1, cal_some, b1, cal_some]
        · have hcd : τm 0 18 = nI (34 + u) := by
            rw [hcM, hu]
            show nI (wcd 0 u) = _
            unfold wcd
            rw [if_pos rfl, if_neg (by omega), if_neg (by omega)]
          have k40 : nI (34 + u) - 40 = nI (u - 6) := by rw [litS (show 40 ≤ 34 + u by omega), show 34 + u - 40 = u - 6 from by omega]
          unfold X11_unit X11_unit_j30 X11_unit_j46
          rw [hcd, X11_isIn_eq, bI_t (show (41 : Int32) ≤ nI (34 + u) ∧ nI (34 + u) ≤ 50 from (in_iff (lo := 41) (hi := 50) (by decide) (by omega) (by decide)).mpr (by omega)), cal_some, if_neg (show ¬ τm 0 18 = 2 by rw [hcd, lit_eq (by decide) (by omega)]; omega), if_neg n10, if_neg n10, hcd, k40, show X11_lay F (nI (u - 6)) (τm 0 20) τm = _ from c1, cal_some, d1, cal_some]
      · right
        refine fail ?_ ?_
        · unfold X3_readUnit
          rw [w1, cal_some, q1, cal_some, if_pos rfl, within_out (lo := 7) (hi := 16) (by show u < 7 ∨ 16 < u; omega) (by omega) (by decide) (by decide), cal_some, if_pos rfl]
          exact refu τx
        · have hcd : τm 0 18 = nI (wcd 0 u) := by rw [hcM, hu]; rfl
          have hw : wcd 0 u < 41 ∧ wcd 0 u ≠ 2 := by
            have hz := wcd_tab 0 (by decide) u (by exact hu17)
            unfold wcd at hz ⊢
            rw [if_pos rfl] at hz ⊢
            by_cases z : u < 3
            · rw [if_pos z]; omega
            · rw [if_neg z, if_pos (by omega)]; omega
          unfold X11_unit
          rw [hcd, in1 _ (by omega) (by omega), cal_some, if_neg (by rw [hcM]; exact hnm), if_pos rfl]
    · right
      refine fail ?_ ?_
      · unfold X3_readUnit
        rw [w1, cal_some, q1, cal_some, if_pos rfl, X10_within_eq, bI_f (by decide), cal_some, if_pos rfl]
        exact refu τx
      · have hin : X11_isIn F (cM 0 (tk 0 y l i)) 41 50 τm = some (0, τm) := by
          generalize tk 0 y l i = t at hu hn tko
          cases t using Tok.cs with
          | fin => exact in1 0 (by decide) (by decide)
          | unk => exact in1 1 (by decide) (by decide)
          | num n => exact absurd rfl (hn n)
          | sgn b =>
            have hb := sgn_rng tko
            exact in1 (100 + b) (by omega) (by omega)
          | wrd u => exact absurd rfl (hu u)
        unfold X11_unit
        rw [hcM, hin, cal_some, if_neg (by rw [hcM]; exact hnm), if_pos rfl]
