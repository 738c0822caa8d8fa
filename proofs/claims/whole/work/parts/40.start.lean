/-! the law's first rows, at the machine -/
section Wb
variable {K : Ctx} {b : Nat} {kd ln : Nat → Nat} {nL d : Nat} {Q : State → Prop} {own : String} {cc : ByteArray} {cells slots pc : Nat} {ls : Array Slot} {st : List Value} {n : Nat} {rf : RF} {τ : Tau} {index : Nat} {H : Heap} {locs : List Loc}
theorem w_new (ci N : Nat) {Cn : String} {T : u_T} {ty : Nat → FieldType} {f : Nat → Nat} (hC : Cls ci Cn T ty N) (C : Cc K b own cc nL d) (hkd : kd n = ci ∧ ln n = N) (hcl : Cond.classLink own index Cn ∈ lw_g) (hin : Cond.instantiable Cn N ∈ lw_g) (hini : Cond.initialized Cn ∈ lw_g) (hf : ∀ j, j < N → (f j = 0 ∧ defaultValue (ty j) = .int 0) ∨ (f j = 1 ∧ defaultValue (ty j) = .null)) (hcells : cells + 1 ≤ K.2.2.2.1.cells) (hslots : slots + N ≤ K.2.2.2.1.slots) (hd : decode cc pc = .ok (.new index, 3))
    (hP : PC K.2.2.2.2.2.2.2.2.2.2.2.2.1 K.2.2.2.2.2.2.2.2.2.2.2.2.2.1 b kd ln n rf τ H) (hz : H.size = b + n) (hS : va_S (fun q => b ≤ q) K.2.2.2.2.1.heap H locs)
    (k : ∀ H1, PC K.2.2.2.2.2.2.2.2.2.2.2.2.1 K.2.2.2.2.2.2.2.2.2.2.2.2.2.1 b kd ln (n + 1) (nC rf n f) (zC τ n) H1 → H1.size = b + (n + 1) → va_S (fun q => b ≤ q) K.2.2.2.2.1.heap H1 locs → W K.1 K.2.1 K.2.2.1 K.2.2.2.1 K.2.2.2.2.1 K.2.2.2.2.2.1 K.2.2.2.2.2.2.1 K.2.2.2.2.2.2.2.1 K.2.2.2.2.2.2.2.2.1 K.2.2.2.2.2.2.2.2.2.1 H1 locs (cells + 1) (slots + N) Q (F0 K.2.2.2.2.2.1 (pc + 3) ls (.ref (b + n) :: st))) : W K.1 K.2.1 K.2.2.1 K.2.2.2.1 K.2.2.2.2.1 K.2.2.2.2.2.1 K.2.2.2.2.2.2.1 K.2.2.2.2.2.2.2.1 K.2.2.2.2.2.2.2.2.1 K.2.2.2.2.2.2.2.2.2.1 H locs cells slots Q (F0 K.2.2.2.2.2.1 pc ls st) := by
  obtain ⟨g1, g2, g3, g4, g5⟩ := hC
  have hKn := C.2.2.2.2.2.2.1.1 ci _ g1
  refine W.newcK C.1 C.2.1 C.2.2.2.1 (C.2.2.2.2.1 _ hcl) (C.2.2.2.2.1 _ hin) (C.2.2.2.2.1 _ hini) rfl hd hcells hslots hKn.2.1 hz fun H1 kC hkC e1 z1 o1 => ?_
  have hP1 : PC K.2.2.2.2.2.2.2.2.2.2.2.2.1 K.2.2.2.2.2.2.2.2.2.2.2.2.2.1 b kd ln (n + 1) (nC rf n f) (zC τ n) H1 := by
    refine hP.push hz (fun q hq => o1 q (by rw [← hz]; exact hq)) (fun k hk => ⟨nC_ne (Nat.ne_of_lt hk), zC_ne (Nat.ne_of_lt hk)⟩) ?_
    unfold enC
    rw [hkd.1, if_pos g5, hkd.2]
    refine ⟨_, g1, (u_born ty C.2.2.2.2.1 g2 hKn hkC e1 g3).to (fun j hj => ?_)⟩
    unfold vp_V
    rw [List.getD_eq_getElem?_getD, List.getElem?_map, List.getElem?_range hj]
    show defaultValue (ty j) = fc b (nC rf n f n j) (zC τ n n j)
    have e2 : nC rf n f n j = f j := by simp [nC]
    have e3 : zC τ n n j = 0 := by simp [zC]
    rw [e2, e3]
    rcases hf j hj with ⟨q1, q2⟩ | ⟨q1, q2⟩ <;> rw [q1, q2] <;> rfl
  exact k H1 hP1 (by omega) ⟨Nat.le_trans hS.1 (by omega), fun q q1 q2 => (o1 q (by have := hS.1; omega)).trans (hS.2.1 q q1 q2), hS.2.2⟩
theorem w_ctor {nm : MethodName} {bytes : ByteArray} {nl d' mc ms c n1 : Nat} {rf1 : RF} {τ1 : Tau} (C : Cc K b own cc nL d) (hw : MWi nm bytes nl 0) (hl : Cond.methodLink own index nm ∈ lw_g) (hls : ls.size = nL) (hd' : d' + 1 ≤ d ∧ 19 + nl + 64 * d' ≤ 64 * d) (hrest : (st.map fun v => v.category).sum ≤ 8) (hcells : cells + mc ≤ K.2.2.2.1.cells) (hslots : slots + ms ≤ K.2.2.2.1.slots) (hd : decode cc pc = .ok (.invokespecial index, 3))
    (hM : MCc kd ln nm bytes nl d' mc ms [.ref c] n rf τ n1 rf1 τ1)
    (hP : PC K.2.2.2.2.2.2.2.2.2.2.2.2.1 K.2.2.2.2.2.2.2.2.2.2.2.2.2.1 b kd ln n rf τ H) (hz : H.size = b + n) (hSt : va_S (fun q => b ≤ q) K.2.2.2.2.1.heap H locs)
    (k : ∀ H1 locs1, PC K.2.2.2.2.2.2.2.2.2.2.2.2.1 K.2.2.2.2.2.2.2.2.2.2.2.2.2.1 b kd ln n1 rf1 τ1 H1 → H1.size = b + n1 → va_S (fun q => b ≤ q) K.2.2.2.2.1.heap H1 locs1 → W K.1 K.2.1 K.2.2.1 K.2.2.2.1 K.2.2.2.2.1 K.2.2.2.2.2.1 K.2.2.2.2.2.2.1 K.2.2.2.2.2.2.2.1 K.2.2.2.2.2.2.2.2.1 K.2.2.2.2.2.2.2.2.2.1 H1 locs1 (cells + mc) (slots + ms) Q (F0 K.2.2.2.2.2.1 (pc + 3) ls st)) : W K.1 K.2.1 K.2.2.1 K.2.2.2.1 K.2.2.2.2.1 K.2.2.2.2.2.1 K.2.2.2.2.2.2.1 K.2.2.2.2.2.2.2.1 K.2.2.2.2.2.2.2.2.1 K.2.2.2.2.2.2.2.2.2.1 H locs cells slots Q (F0 K.2.2.2.2.2.1 pc ls (.ref (b + c) :: st)) := by
  obtain ⟨w1, w2, w3, w4, w5, w6, w7⟩ := hw
  have hM1 := hM K.2.1 K.2.2.2.2.2.2.2.2.2.2.2.2.1 K.2.2.2.2.2.2.2.2.2.2.2.2.2.1 b
  obtain ⟨hx, hb1, hml, hown, hts, hR, hK, hN, hlk, hb, hAO⟩ := C
  refine va_callv (va_runI (As := []) (rest := st) ⟨hx, hb1, hml, hown, hts⟩ hM1 (cwI (bytes := bytes) (maxL := nl) (ws' := lw_g) 0 hts (goodIn_l rfl w1) rfl rfl rfl (hts _ w2) (hts _ hl) (hts _ w3) w4 ⟨w5, w6, w7⟩ ?_) ⟨PpC.blind, fun U hU hW => ⟨rfl, by rw [hU]; exact hP, by rw [hU]; exact hz, SttC.warm hW ⟨hK, hN, hAO⟩⟩⟩ rfl rfl hls rfl ?_ hd ⟨hcells, hslots⟩) hSt (fun q _ h => h) (fun q h => h) (fun u t H1 locs1 ht hvm hw9 hB hz1 hk1 hS1 => ?_)
  · exact ⟨Nat.le_trans hd'.1 hR.1, by have h1 := hR.2; have h2 := hd'.2; show 8 + (nl + 11) + 64 * d' ≤ _; omega⟩
  · show 2 * 0 + _ ≤ 8
    omega
  · obtain ⟨hB1, hB2⟩ := hB
    rw [ht] at hB1 hB2
    exact k H1 locs1 hB1 hB2 hS1
end Wb
/-- what the run gives, in pieces -/
theorem runU_parts : ∃ (n1 : Nat) (rf1 : RF) (τ1 : Tau) (rf3 : RF) (τ3 : Tau), C10_init 0 1 (nC rf00 0 (fun j => ([1, 1, 0, 1, 1, 1, 1, 1] : List Nat).getD j 0)) (zC tau00 0) = some (n1, rf1, τ1) ∧ n1 = 222 ∧ C11_init 222 223 (nC rf1 222 (fun j => ([1, 1, 1, 1, 0, 0, 1, 1, 1, 1, 1, 1, 0, 0, 0, 0, 0, 0, 0, 0, 0, 0, 0, 0, 0, 0, 0, 1, 1, 1, 1, 1, 1, 1, 1, 1, 1] : List Nat).getD j 0)) (zC τ1 222) = some (243, rf3, τ3) ∧ okRf rf3 = true ∧ runU = some (243, rf3, τ3) := by
  have h := runU_ok
  cases hr : runU with
  | none => rw [hr] at h; cases h
  | some q =>
    obtain ⟨n3, rf3, τ3⟩ := q
    rw [hr] at h
    simp only [okRun, Bool.and_eq_true, beq_iff_eq] at h
    obtain ⟨rfl, h2⟩ := h
    unfold runU cnew ccall at hr
    rw [if_pos (by decide +kernel)] at hr
    obtain ⟨⟨n1, rf1, τ1⟩, e1, e2⟩ := Option.bind_eq_some_iff.mp hr
    dsimp only at e2
    split at e2
    · rename_i hn1
      subst hn1
      rw [if_pos (by decide +kernel)] at e2
      obtain ⟨⟨n2, rf2, τ2⟩, e3, e4⟩ := Option.bind_eq_some_iff.mp e2
      cases e4
      exact ⟨222, rf1, τ1, rf2, τ2, e1, rfl, e3, h2, rfl⟩
    · cases e2
