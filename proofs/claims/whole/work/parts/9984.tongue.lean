/-! PURE PART. Texts: a row of tongues -/
section Dt
variable {F k p : Nat} {Bx τ : Tau} {K : Int32 → Tau → Option (Int32 × Tau)}
theorem dt_num {lo hi : Int32} (h : XD Bx k p τ) (hK : ∀ τ', XD Bx k p τ' → ∃ r τ'', K 0 τ' = some (r, τ'') ∧ XD Bx k p τ'') : ∃ r τ'', cal (X6_takeNumber F lo hi τ) K = some (r, τ'') ∧ XD Bx k p τ'' := by
  rw [xd_takeN h, cal_some]
  exact hK τ h
theorem dt_word {u : Int32} (h : XD Bx k p τ) (hK : ∀ τ', XD Bx k p τ' → ∃ r τ'', K 0 τ' = some (r, τ'') ∧ XD Bx k p τ'') : ∃ r τ'', cal (X6_takeWord F u τ) K = some (r, τ'') ∧ XD Bx k p τ'' := by
  rw [xd_takeW h, cal_some]
  exact hK τ h
theorem dt_put {j : Nat} {v : Int32} (hj : j < 128) (h : XD Bx k p τ) (hK : ∀ τ', XD Bx k p τ' → ∃ r τ'', K 1 τ' = some (r, τ'') ∧ XD Bx k p τ'') : ∃ r τ'', cal (X10_put F 210 (nI j) v 1 τ) K = some (r, τ'') ∧ XD Bx k p τ'' := by
  rw [put_X hj, cal_some]
  exact hK _ (xd_put h)
end Dt
theorem need_M {F a l N i u : Nat} {y : Nat → Nat} {Bx Bm τ : Tau} (hF : 5000 ≤ F) (E : EnvT a y l N Bx Bm) (h : MS a y l Bm i τ) (ht : tk a y l i = .wrd u) : ∃ τ', X11_need F (nI (wcd a u)) τ = some (1, τ') ∧ MS a y l Bm (i + 1) τ' ∧ ofM τ τ' := by
  obtain ⟨τ', u1, u2, u3⟩ := ms_next hF E h
  refine ⟨τ', ?_, u2, fun c k hc => u3 c k (by omega)⟩
  unfold X11_need
  rw [ms_code h, ht, if_pos (show cM a (Tok.wrd u) = nI (wcd a u) from rfl), u1, cal_some]
theorem ms_12 {a l N i : Nat} {y : Nat → Nat} {Bx Bm τ : Tau} (E : EnvT a y l N Bx Bm) (h : MS a y l Bm i τ) : τ 0 12 = nI a := (h.2.2 _ _ (by unfold frM; omega)).trans E.2.2.2.1.2.1
/-- the things said, of the rows kept so far -/
def sayN (c : Nat → Int32) : Nat → Nat → Int32
  | 0, k => nI (k % 12)
  | n + 1, k => if k = 12 * ix (c (8 * n)) + ix (c (8 * n + 1)) then c (8 * n + 2) else sayN c n k
theorem sayN_congr {c c' : Nat → Int32} : ∀ n k, (∀ j, j < 8 * n → c' j = c j) → sayN c' n k = sayN c n k := by
  intro n
  induction n with
  | zero => exact fun _ _ => rfl
  | succ n ih =>
    intro k h
    rw [show sayN c' (n + 1) k = if k = 12 * ix (c' (8 * n)) + ix (c' (8 * n + 1)) then c' (8 * n + 2) else sayN c' n k from rfl, h _ (by omega), h _ (by omega), h _ (by omega), ih k (fun j hj => h j (by omega))]
    rfl
def I1 (nP n : Nat) (cx cm : Nat → Int32) : Prop := (∀ r, r < n → ∃ p t v, p < nP ∧ t < 12 ∧ v < 16 ∧ cx (8 * r) = nI p ∧ cx (8 * r + 1) = nI t ∧ cx (8 * r + 2) = nI v) ∧ ∀ k, k < 120 → cm k = sayN cx n k
theorem I1.snoc {nP n p t v : Nat} {cx cm cx' cm' : Nat → Int32} (hnP : nP ≤ 10) (h : I1 nP n cx cm) (hp : p < nP) (ht : t < 12) (hv : v < 16) (e : ∀ j, j < 8 * n → cx' j = cx j) (e0 : cx' (8 * n) = nI p) (e1 : cx' (8 * n + 1) = nI t) (e2 : cx' (8 * n + 2) = nI v) (em : ∀ k, k < 120 → cm' k = if k = 12 * p + t then nI v else cm k) : I1 nP (n + 1) cx' cm' := by
  obtain ⟨h1, h2⟩ := h
  refine ⟨fun r hr => ?_, fun k hk => ?_⟩
  · by_cases c : r = n
    · rw [c]; exact ⟨p, t, v, hp, ht, hv, e0, e1, e2⟩
    · obtain ⟨p', t', v', a1, a2, a3, a4, a5, a6⟩ := h1 r (by omega)
      exact ⟨p', t', v', a1, a2, a3, (e _ (by omega)).trans a4, (e _ (by omega)).trans a5, (e _ (by omega)).trans a6⟩
  · rw [em k hk, show sayN cx' (n + 1) k = if k = 12 * ix (cx' (8 * n)) + ix (cx' (8 * n + 1)) then cx' (8 * n + 2) else sayN cx' n k from rfl, e0, e1, e2, ix_nI (by omega), ix_nI (by omega), sayN_congr n k e, h2 k hk]
theorem body1 {F l N i n nP nM : Nat} {y : Nat → Nat} {Bx Bm τx τm : Tau} (hF : 5000 ≤ F) (E : EnvT 1 y l N Bx Bm) (hT : twn nP nM Bx Bm) (hnP : nP ≤ 10) (hn : n < 16) (h : XS 1 y l N Bx (i + 1) τx) (h' : MS 1 y l Bm i τm) (hw : tk 1 y l i = .wrd 0) (hI : I1 nP n (τx 210) (τm 7)) :
    Ok 1 y l N Bx Bm i (I1 nP (n + 1)) (cal (X3_readTongue F 2 (8 * nI n) τx) fun r7 τ8 => X3_readRow_j89 F 2 τ8) (X11_aRow F τm) ∨ Fr Bx Bm (cal (X3_readTongue F 2 (8 * nI n) τx) fun r7 τ8 => X3_readRow_j89 F 2 τ8) (X11_aRow F τm) := by
  have k8 : (8 : Int32) * nI n = nI (8 * n) := litM
  have k81 : nI (8 * n) + 1 = nI (8 * n + 1) := litA'
  have k82 : nI (8 * n) + 2 = nI (8 * n + 2) := litA'
  have j89 : ∀ k p τ, XD Bx k p τ → ∃ r τ'', X3_readRow_j89 F 2 τ = some (r, τ'') ∧ XD Bx k p τ'' := fun k p τ h => ⟨0, τ, xd_j89 h, h⟩
  obtain ⟨τ1, n1, n2, n3⟩ := need_M (u := 0) hF E h' hw
  have hx1 := (twn_X hT h).1
  have hm1 := (twn_M hT h').1
  unfold X11_aRow
  rw [ms_12 E h', if_pos (show nI 1 = 1 from rfl)]
  unfold X3_readTongue X11_aTongue X11_told
  rw [ald_lit (by decide) (by decide), hm1, show X11_need F 8 τm = _ from n1, cal_some, if_neg n10, hx1, k8, k81, k82]
  rcases num_sim (j := 130) (lo := 0) (hi := nI nP - 1) hF E h n2 (by decide) with ⟨τ2, τ3, p, a1, a2, a3, a4, a5, a6, a7, a8⟩ | ⟨τ2, τ3, r, k, q, a1, a2, a3, a4⟩
  · have hp := below (by omega) a5 a6
    rw [a1, cal_some, put_X (by omega), cal_some, show X11_number F 130 0 (nI nP - 1) τ1 = _ from a2, cal_some, if_neg n10, cal_some, if_neg n10]
    rcases word_sim (u := 1) hF E (xs_put (j := 8 * n) (v := nI p) a3) a4 (by decide) with ⟨τ4, τ5, b1, b2, b3, b4, b5, b6⟩ | ⟨τ4, τ5, k, q, b1, b2, b3, b4⟩
    · rw [show X6_takeWord F 1 (up τ2 210 (8 * n) (nI p)) = _ from b1, cal_some, show X11_need F 9 τ3 = _ from b2, cal_some, if_neg n10]
      rcases num_sim (j := 131) (lo := 0) (hi := 11) hF E b3 b4 (by decide) with ⟨τ6, τ7, t, c1, c2, c3, c4, c5, c6, c7, c8⟩ | ⟨τ6, τ7, r, k, q, c1, c2, c3, c4⟩
      · have ht : t < 12 := by have := (in_iff (lo := 0) (hi := 11) (by decide) (by omega) (by decide)).mp c5; omega
        rw [c1, cal_some, put_X (by omega), cal_some, show X11_number F 131 0 11 τ5 = _ from c2, cal_some, if_neg n10, cal_some, if_neg n10]
        rcases word_sim (u := 2) hF E (xs_put (j := 8 * n + 1) (v := nI t) c3) c4 (by decide) with ⟨τ8, τ9, d1, d2, d3, d4, d5, d6⟩ | ⟨τ8, τ9, k, q, d1, d2, d3, d4⟩
        · rw [show X6_takeWord F 2 (up τ6 210 (8 * n + 1) (nI t)) = _ from d1, cal_some, show X11_need F 10 τ7 = _ from d2, cal_some, if_neg n10]
          rcases num_sim (j := 132) (lo := 0) (hi := 15) hF E d3 d4 (by decide) with ⟨τ10, τ11, v, e1, e2, e3, e4, e5, e6, e7, e8⟩ | ⟨τ10, τ11, r, k, q, e1, e2, e3, e4⟩
          · have hv : v < 16 := by have := (in_iff (lo := 0) (hi := 15) (by decide) (by omega) (by decide)).mp e5; omega
            have g12 : ∀ k, τ11 7 k = up τ9 7 132 (nI v) 7 k := fun k => e8 7 k (by omega)
            have g9 : ∀ k, τ9 7 k = up τ5 7 131 (nI t) 7 k := fun k => (d6 7 k (by omega)).trans (c8 7 k (by omega))
            have g5 : ∀ k, τ5 7 k = up τ1 7 130 (nI p) 7 k := fun k => (b6 7 k (by omega)).trans (a8 7 k (by omega))
            have g1 : ∀ k, τ1 7 k = τm 7 k := fun k => n3 7 k (by omega)
            have v0 : τ11 7 130 = nI p := by rw [g12, up_nj (by decide), g9, up_nj (by decide), g5, up_c]
            have v1 : τ11 7 131 = nI t := by rw [g12, up_nj (by decide), g9, up_c]
            have v2 : τ11 7 132 = nI v := by rw [g12, up_c]
            have k12 : (12 : Int32) * nI p = nI (12 * p) := litM
            rw [e1, cal_some, put_X (by omega), cal_some, cal_some, show X11_number F 132 0 15 τ9 = _ from e2, cal_some, if_neg n10, cal_some, if_neg n10, ald_lit (by decide) (by decide), ald_lit (by decide) (by decide), ald_lit (by decide) (by decide), v0, v1, v2, k12, nI_add, ast_nI (by omega) (by omega), cal_some, if_neg n10]
            refine row_end hF E (xs_put e3) (ms_put e4) (by omega) (hI.snoc (p := p) (t := t) (v := v) hnP hp ht hv (fun j hj => ?_) ?_ ?_ up_c (fun k hk => ?_))
            · rw [up_nj (by omega), e7 _ _ (by decide), d5 _ _ (by decide), up_nj (by omega), c7 _ _ (by decide), b5 _ _ (by decide), up_nj (by omega), a7 _ _ (by decide)]
            · rw [up_nj (by omega), e7 _ _ (by decide), d5 _ _ (by decide), up_nj (by omega), c7 _ _ (by decide), b5 _ _ (by decide), up_c]
            · rw [up_nj (by omega), e7 _ _ (by decide), d5 _ _ (by decide), up_c]
            · rw [up_if]
              by_cases z : k = 12 * p + t
              · rw [if_pos ⟨rfl, z⟩, if_pos z]
              · rw [if_neg (fun q => z q.2), if_neg z, g12, up_nj (by omega), g9, up_nj (by omega), g5, up_nj (by omega), g1]
          · right
            rw [e1, cal_some, put_X (by omega), cal_some, cal_some, show X11_number F 132 0 15 τ9 = _ from e2, cal_some, if_pos rfl, cal_some, if_pos rfl, cal_some, if_pos rfl]
            obtain ⟨r', τ', z1, z2⟩ := j89 _ _ _ (xd_put (j := 8 * n + 2) (v := r) e3)
            exact ⟨r', τ', τ11, k, q, z1, rfl, z2, e4⟩
        · right
          rw [show X6_takeWord F 2 (up τ6 210 (8 * n + 1) (nI t)) = _ from d1, cal_some, show X11_need F 10 τ7 = _ from d2, cal_some, if_pos rfl, cal_some, if_pos rfl, cal_some, if_pos rfl]
          obtain ⟨r', τ', z1, z2⟩ := dt_num (F := F) (lo := 0) (hi := 15) (K := fun r13 τ14 => cal (X10_put F 210 (nI (8 * n + 2)) r13 1 τ14) fun r15 τ16 => some (0, τ16)) d3 (fun τ' h => dt_put (by omega) h fun τ' h => ⟨0, τ', rfl, h⟩)
          rw [z1, cal_some]
          obtain ⟨r', τ', z1, z2⟩ := j89 _ _ _ z2
          exact ⟨r', τ', τ9, k, q, z1, rfl, z2, d4⟩
      · right
        rw [c1, cal_some, put_X (by omega), cal_some, show X11_number F 131 0 11 τ5 = _ from c2, cal_some, if_pos rfl, cal_some, if_pos rfl, cal_some, if_pos rfl]
        obtain ⟨r', τ', z1, z2⟩ := dt_word (F := F) (u := 2) (K := fun r11 τ12 => cal (X6_takeNumber F 0 15 τ12) fun r13 τ14 => cal (X10_put F 210 (nI (8 * n + 2)) r13 1 τ14) fun r15 τ16 => some (0, τ16)) (xd_put (j := 8 * n + 1) (v := r) c3) (fun τ' h => dt_num h fun τ' h => dt_put (by omega) h fun τ' h => ⟨0, τ', rfl, h⟩)
        rw [z1, cal_some]
        obtain ⟨r', τ', z1, z2⟩ := j89 _ _ _ z2
        exact ⟨r', τ', τ7, k, q, z1, rfl, z2, c4⟩
    · right
      rw [show X6_takeWord F 1 (up τ2 210 (8 * n) (nI p)) = _ from b1, cal_some, show X11_need F 9 τ3 = _ from b2, cal_some, if_pos rfl, cal_some, if_pos rfl, cal_some, if_pos rfl]
      obtain ⟨r', τ', z1, z2⟩ := dt_num (F := F) (lo := 0) (hi := 11) (K := fun r7 τ8 => cal (X10_put F 210 (nI (8 * n + 1)) r7 1 τ8) fun r9 τ10 => cal (X6_takeWord F 2 τ10) fun r11 τ12 => cal (X6_takeNumber F 0 15 τ12) fun r13 τ14 => cal (X10_put F 210 (nI (8 * n + 2)) r13 1 τ14) fun r15 τ16 => some (0, τ16)) b3 (fun τ' h => dt_put (by omega) h fun τ' h => dt_word h fun τ' h => dt_num h fun τ' h => dt_put (by omega) h fun τ' h => ⟨0, τ', rfl, h⟩)
      rw [z1, cal_some]
      obtain ⟨r', τ', z1, z2⟩ := j89 _ _ _ z2
      exact ⟨r', τ', τ5, k, q, z1, rfl, z2, b4⟩
  · right
    rw [a1, cal_some, put_X (by omega), cal_some, show X11_number F 130 0 (nI nP - 1) τ1 = _ from a2, cal_some, if_pos rfl, cal_some, if_pos rfl, cal_some, if_pos rfl]
    obtain ⟨r', τ', z1, z2⟩ := dt_word (F := F) (u := 1) (K := fun r5 τ6 => cal (X6_takeNumber F 0 11 τ6) fun r7 τ8 => cal (X10_put F 210 (nI (8 * n + 1)) r7 1 τ8) fun r9 τ10 => cal (X6_takeWord F 2 τ10) fun r11 τ12 => cal (X6_takeNumber F 0 15 τ12) fun r13 τ14 => cal (X10_put F 210 (nI (8 * n + 2)) r13 1 τ14) fun r15 τ16 => some (0, τ16)) (xd_put (j := 8 * n) (v := r) a3) (fun τ' h => dt_num h fun τ' h => dt_put (by omega) h fun τ' h => dt_word h fun τ' h => dt_num h fun τ' h => dt_put (by omega) h fun τ' h => ⟨0, τ', rfl, h⟩)
    rw [z1, cal_some]
    obtain ⟨r', τ', z1, z2⟩ := j89 _ _ _ z2
    exact ⟨r', τ', τ3, k, q, z1, rfl, z2, a4⟩
