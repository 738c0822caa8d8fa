/-! the two systems: tables by program; the words in the table of words -/
theorem in_c1 {w : Cond} (i : Nat) (h : tables_1_1[i]? = some w) (g : goodWord w = true) : w ∈ lw_g := in_g (List.mem_append_right _ (List.mem_append_left _ (List.mem_of_getElem? h))) g
theorem in_d1 {w : Cond} (i : Nat) (h : tables_1_1[i]? = some w) (g : isNest w = true) : w ∈ nestW := List.mem_filter.mpr ⟨List.mem_append_right _ (List.mem_append_left _ (List.mem_of_getElem? h)), g⟩
theorem in_c2 {w : Cond} (i : Nat) (h : tables_1_2[i]? = some w) (g : goodWord w = true) : w ∈ lw_g := in_g (List.mem_append_right _ (List.mem_append_right _ (List.mem_append_left _ (List.mem_of_getElem? h)))) g
theorem in_d2 {w : Cond} (i : Nat) (h : tables_1_2[i]? = some w) (g : isNest w = true) : w ∈ nestW := List.mem_filter.mpr ⟨List.mem_append_right _ (List.mem_append_right _ (List.mem_append_left _ (List.mem_of_getElem? h))), g⟩
theorem in_c3 {w : Cond} (i : Nat) (h : tables_1_3[i]? = some w) (g : goodWord w = true) : w ∈ lw_g := in_g (List.mem_append_right _ (List.mem_append_right _ (List.mem_append_right _ (List.mem_append_left _ (List.mem_of_getElem? h))))) g
theorem in_d3 {w : Cond} (i : Nat) (h : tables_1_3[i]? = some w) (g : isNest w = true) : w ∈ nestW := List.mem_filter.mpr ⟨List.mem_append_right _ (List.mem_append_right _ (List.mem_append_right _ (List.mem_append_left _ (List.mem_of_getElem? h)))), g⟩
theorem in_c4 {w : Cond} (i : Nat) (h : tables_1_4[i]? = some w) (g : goodWord w = true) : w ∈ lw_g := in_g (List.mem_append_right _ (List.mem_append_right _ (List.mem_append_right _ (List.mem_append_right _ (List.mem_append_left _ (List.mem_of_getElem? h)))))) g
theorem in_d4 {w : Cond} (i : Nat) (h : tables_1_4[i]? = some w) (g : isNest w = true) : w ∈ nestW := List.mem_filter.mpr ⟨List.mem_append_right _ (List.mem_append_right _ (List.mem_append_right _ (List.mem_append_right _ (List.mem_append_left _ (List.mem_of_getElem? h))))), g⟩
theorem in_c5 {w : Cond} (i : Nat) (h : tables_1_5[i]? = some w) (g : goodWord w = true) : w ∈ lw_g := in_g (List.mem_append_right _ (List.mem_append_right _ (List.mem_append_right _ (List.mem_append_right _ (List.mem_append_right _ (List.mem_append_left _ (List.mem_of_getElem? h))))))) g
theorem in_d5 {w : Cond} (i : Nat) (h : tables_1_5[i]? = some w) (g : isNest w = true) : w ∈ nestW := List.mem_filter.mpr ⟨List.mem_append_right _ (List.mem_append_right _ (List.mem_append_right _ (List.mem_append_right _ (List.mem_append_right _ (List.mem_append_left _ (List.mem_of_getElem? h)))))), g⟩
theorem in_c6 {w : Cond} (i : Nat) (h : tables_1_6[i]? = some w) (g : goodWord w = true) : w ∈ lw_g := in_g (List.mem_append_right _ (List.mem_append_right _ (List.mem_append_right _ (List.mem_append_right _ (List.mem_append_right _ (List.mem_append_right _ (List.mem_append_left _ (List.mem_of_getElem? h)))))))) g
theorem in_d6 {w : Cond} (i : Nat) (h : tables_1_6[i]? = some w) (g : isNest w = true) : w ∈ nestW := List.mem_filter.mpr ⟨List.mem_append_right _ (List.mem_append_right _ (List.mem_append_right _ (List.mem_append_right _ (List.mem_append_right _ (List.mem_append_right _ (List.mem_append_left _ (List.mem_of_getElem? h))))))), g⟩
theorem in_c7 {w : Cond} (i : Nat) (h : tables_1_7[i]? = some w) (g : goodWord w = true) : w ∈ lw_g := in_g (List.mem_append_right _ (List.mem_append_right _ (List.mem_append_right _ (List.mem_append_right _ (List.mem_append_right _ (List.mem_append_right _ (List.mem_append_right _ (List.mem_append_left _ (List.mem_of_getElem? h))))))))) g
theorem in_d7 {w : Cond} (i : Nat) (h : tables_1_7[i]? = some w) (g : isNest w = true) : w ∈ nestW := List.mem_filter.mpr ⟨List.mem_append_right _ (List.mem_append_right _ (List.mem_append_right _ (List.mem_append_right _ (List.mem_append_right _ (List.mem_append_right _ (List.mem_append_right _ (List.mem_append_left _ (List.mem_of_getElem? h)))))))), g⟩
theorem in_c8 {w : Cond} (i : Nat) (h : tables_1_8[i]? = some w) (g : goodWord w = true) : w ∈ lw_g := in_g (List.mem_append_right _ (List.mem_append_right _ (List.mem_append_right _ (List.mem_append_right _ (List.mem_append_right _ (List.mem_append_right _ (List.mem_append_right _ (List.mem_append_right _ (List.mem_append_left _ (List.mem_of_getElem? h)))))))))) g
theorem in_d8 {w : Cond} (i : Nat) (h : tables_1_8[i]? = some w) (g : isNest w = true) : w ∈ nestW := List.mem_filter.mpr ⟨List.mem_append_right _ (List.mem_append_right _ (List.mem_append_right _ (List.mem_append_right _ (List.mem_append_right _ (List.mem_append_right _ (List.mem_append_right _ (List.mem_append_right _ (List.mem_append_left _ (List.mem_of_getElem? h))))))))), g⟩
theorem in_c9 {w : Cond} (i : Nat) (h : tables_1_9[i]? = some w) (g : goodWord w = true) : w ∈ lw_g := in_g (List.mem_append_right _ (List.mem_append_right _ (List.mem_append_right _ (List.mem_append_right _ (List.mem_append_right _ (List.mem_append_right _ (List.mem_append_right _ (List.mem_append_right _ (List.mem_append_right _ (List.mem_of_getElem? h)))))))))) g
theorem in_d9 {w : Cond} (i : Nat) (h : tables_1_9[i]? = some w) (g : isNest w = true) : w ∈ nestW := List.mem_filter.mpr ⟨List.mem_append_right _ (List.mem_append_right _ (List.mem_append_right _ (List.mem_append_right _ (List.mem_append_right _ (List.mem_append_right _ (List.mem_append_right _ (List.mem_append_right _ (List.mem_append_right _ (List.mem_of_getElem? h))))))))), g⟩
theorem in_c0 {w : Cond} (i : Nat) (h : (k2_sels lw_privs)[i]? = some w) (g : goodWord w = true) : w ∈ lw_g := in_g (List.mem_append_left _ (List.mem_of_getElem? h)) g
def kdXL : List Nat := [10, 9, 8, 20, 20, 20, 20, 20, 20, 20, 20, 20, 20, 20, 20, 7, 5, 20, 5, 20, 5, 20, 5, 20, 5, 20, 5, 20, 5, 20, 5, 20, 5, 20, 20, 20, 20, 20, 20, 2, 20, 20, 20, 20, 20, 20, 20, 20, 20, 20, 20, 20, 9, 8, 20, 20, 20, 20, 20, 20, 20, 20, 20, 20, 20, 20, 7, 5, 20, 5, 20, 5, 20, 5, 20, 5, 20, 5, 20, 5, 20, 5, 20, 5, 20, 20, 20, 20, 20, 20, 2, 20, 20, 20, 20, 20, 20, 20, 20, 20, 20, 20, 20, 8, 20, 20, 20, 20, 20, 20, 20, 20, 20, 20, 20, 20, 1, 23, 8, 20, 20, 20, 20, 20, 20, 20, 20, 20, 20, 20, 20, 8, 20, 20, 20, 20, 20, 20, 20, 20, 20, 20, 20, 20, 8, 20, 20, 20, 20, 20, 20, 20, 20, 20, 20, 20, 20, 8, 20, 20, 20, 20, 20, 20, 20, 20, 20, 20, 20, 20, 8, 20, 20, 20, 20, 20, 20, 20, 20, 20, 20, 20, 20, 8, 20, 20, 20, 20, 20, 20, 20, 20, 20, 20, 20, 20, 3, 6, 22, 20, 20, 20, 20, 2, 20, 20, 20, 20, 20, 20, 20, 0, 20, 4, 20, 20, 20, 20, 20, 20, 20, 21]
def lnXL : List Nat := [8, 9, 19, 10, 10, 10, 10, 14, 14, 14, 14, 14, 14, 14, 112, 14, 2, 8, 2, 8, 2, 8, 2, 10, 2, 12, 2, 14, 2, 12, 2, 12, 2, 6, 12, 9, 9, 36, 8, 8, 16, 16, 16, 16, 400, 32, 600, 4, 120, 64, 60, 10, 9, 19, 10, 10, 10, 10, 14, 14, 14, 14, 14, 14, 14, 112, 14, 2, 8, 2, 8, 2, 8, 2, 10, 2, 12, 2, 14, 2, 12, 2, 12, 2, 6, 12, 9, 9, 36, 8, 8, 16, 16, 16, 16, 400, 32, 600, 4, 120, 64, 60, 10, 19, 10, 10, 10, 10, 14, 14, 14, 14, 14, 14, 14, 112, 3, 6, 19, 10, 10, 10, 10, 14, 14, 14, 14, 14, 14, 14, 112, 19, 10, 10, 10, 10, 14, 14, 14, 14, 14, 14, 14, 112, 19, 10, 10, 10, 10, 14, 14, 14, 14, 14, 14, 14, 112, 19, 10, 10, 10, 10, 14, 14, 14, 14, 14, 14, 14, 112, 19, 10, 10, 10, 10, 14, 14, 14, 14, 14, 14, 14, 112, 19, 10, 10, 10, 10, 14, 14, 14, 14, 14, 14, 14, 112, 3, 13, 400, 401, 401, 401, 401, 8, 16, 16, 16, 16, 400, 32, 128, 2, 10, 11, 1024, 1024, 8, 8, 5, 6, 169, 1024]
def rfXL : List (List Nat) := [[2, 53, 0, 104, 117, 197, 212, 214], [3, 16, 40, 47, 48, 49, 50, 51, 52], [0, 0, 0, 0, 0, 0, 0, 4, 5, 6, 7, 8, 9, 10, 11, 12, 13, 14, 15], [], [], [], [], [], [], [], [], [], [], [], [], [17, 19, 21, 23, 25, 27, 29, 31, 33, 35, 36, 37, 38, 39], [0, 18], [], [0, 20], [], [0, 22], [], [0, 24], [], [0, 26], [], [0, 28], [], [0, 30], [], [0, 32], [], [0, 34], [], [], [], [], [], [], [0, 0, 41, 42, 43, 44, 45, 46], [], [], [], [], [], [], [], [], [], [], [], [], [54, 67, 91, 98, 99, 100, 101, 102, 103], [0, 0, 0, 0, 0, 0, 0, 55, 56, 57, 58, 59, 60, 61, 62, 63, 64, 65, 66], [], [], [], [], [], [], [], [], [], [], [], [], [68, 70, 72, 74, 76, 78, 80, 82, 84, 86, 87, 88, 89, 90], [0, 69], [], [0, 71], [], [0, 73], [], [0, 75], [], [0, 77], [], [0, 79], [], [0, 81], [], [0, 83], [], [0, 85], [], [], [], [], [], [], [0, 0, 92, 93, 94, 95, 96, 97], [], [], [], [], [], [], [], [], [], [], [], [], [0, 0, 0, 0, 0, 0, 0, 105, 106, 107, 108, 109, 110, 111, 112, 113, 114, 115, 116], [], [], [], [], [], [], [], [], [], [], [], [], [0, 0, 118], [119, 132, 145, 158, 171, 184], [0, 0, 0, 0, 0, 0, 0, 120, 121, 122, 123, 124, 125, 126, 127, 128, 129, 130, 131], [], [], [], [], [], [], [], [], [], [], [], [], [0, 0, 0, 0, 0, 0, 0, 133, 134, 135, 136, 137, 138, 139, 140, 141, 142, 143, 144], [], [], [], [], [], [], [], [], [], [], [], [], [0, 0, 0, 0, 0, 0, 0, 146, 147, 148, 149, 150, 151, 152, 153, 154, 155, 156, 157], [], [], [], [], [], [], [], [], [], [], [], [], [0, 0, 0, 0, 0, 0, 0, 159, 160, 161, 162, 163, 164, 165, 166, 167, 168, 169, 170], [], [], [], [], [], [], [], [], [], [], [], [], [0, 0, 0, 0, 0, 0, 0, 172, 173, 174, 175, 176, 177, 178, 179, 180, 181, 182, 183], [], [], [], [], [], [], [], [], [], [], [], [], [0, 0, 0, 0, 0, 0, 0, 185, 186, 187, 188, 189, 190, 191, 192, 193, 194, 195, 196], [], [], [], [], [], [], [], [], [], [], [], [], [198, 204, 211], [0, 0, 0, 0, 0, 0, 0, 0, 199, 200, 201, 202, 203], [], [], [], [], [], [0, 0, 205, 206, 207, 208, 209, 210], [], [], [], [], [], [], [], [2, 213], [], [2, 16, 215, 216, 217, 218, 219, 220, 221, 222, 0], [], [], [], [], [], [], [], []]
def kdX (c : Nat) : Nat := kdXL.getD c 99
def lnX (c : Nat) : Nat := lnXL.getD c 0
def rfX (c j : Nat) : Option Nat := match (rfXL.getD c []).getD j 0 with
  | 0 => none
  | q + 1 => some q
abbrev sysX : Sys := (222, kdX, lnX, rfX)
theorem ltX {c k : Nat} (h : kdX c = k) (hk : k < 99) : c < 222 := by
  rcases Nat.lt_or_ge c 222 with q | q
  · exact q
  · have e : kdX c = 99 := by
      unfold kdX
      rw [List.getD_eq_getElem?_getD, List.getElem?_eq_none (by exact q)]
      rfl
    omega
def kdML : List Nat := [11, 20, 20, 20, 20, 20, 20, 20, 20, 20, 20, 20, 21, 21, 20, 20, 20, 20, 20, 20, 21]
def lnML : List Nat := [37, 2244, 2244, 1530, 255, 64, 820, 140, 400, 420, 11, 8, 441, 441, 64, 256, 256, 169, 169, 5, 1024]
def rfML : List (List Nat) := [[2, 3, 4, 5, 0, 0, 6, 7, 8, 9, 10, 11, 0, 0, 0, 0, 0, 0, 0, 0, 0, 0, 0, 0, 0, 0, 0, 12, 13, 14, 15, 16, 17, 18, 19, 20, 21], [], [], [], [], [], [], [], [], [], [], [], [], [], [], [], [], [], [], [], []]
def kdM (c : Nat) : Nat := kdML.getD c 99
def lnM (c : Nat) : Nat := lnML.getD c 0
def rfM (c j : Nat) : Option Nat := match (rfML.getD c []).getD j 0 with
  | 0 => none
  | q + 1 => some q
abbrev sysM : Sys := (21, kdM, lnM, rfM)
theorem ltM {c k : Nat} (h : kdM c = k) (hk : k < 99) : c < 21 := by
  rcases Nat.lt_or_ge c 21 with q | q
  · exact q
  · have e : kdM c = 99 := by
      unfold kdM
      rw [List.getD_eq_getElem?_getD, List.getElem?_eq_none (by exact q)]
      rfl
    omega
theorem isX0 {c : Nat} (h : kdX c = 0) : c ∈ ([211] : List Nat) := (show ∀ c, c < 222 → kdX c = 0 → c ∈ ([211] : List Nat) from by decide +kernel) c (ltX h (by decide)) h
theorem obX0 {c : Nat} (h : kdX c = 0) : lnX c = 2 := (show ∀ c ∈ ([211] : List Nat), lnX c = 2 from by decide +kernel) c (isX0 h)
theorem frX0_0 {c : Nat} (h : kdX c = 0) : rfX c 0 = some 1 := (show ∀ c ∈ ([211] : List Nat), rfX c 0 = some 1 from by decide +kernel) c (isX0 h)
theorem krX0_0 {c : Nat} (h : kdX c = 0) : kdX 1 = 9 := (show ∀ c ∈ ([211] : List Nat), kdX 1 = 9 from by decide +kernel) c (isX0 h)
theorem frX0_1 {c : Nat} (h : kdX c = 0) : rfX c 1 = some 212 := (show ∀ c ∈ ([211] : List Nat), rfX c 1 = some 212 from by decide +kernel) c (isX0 h)
theorem krX0_1 {c : Nat} (h : kdX c = 0) : kdX 212 = 20 := (show ∀ c ∈ ([211] : List Nat), kdX 212 = 20 from by decide +kernel) c (isX0 h)
theorem nrX0_1 {c : Nat} (h : kdX c = 0) : lnX 212 = 10 := (show ∀ c ∈ ([211] : List Nat), lnX 212 = 10 from by decide +kernel) c (isX0 h)
theorem isX1 {c : Nat} (h : kdX c = 1) : c ∈ ([116] : List Nat) := (show ∀ c, c < 222 → kdX c = 1 → c ∈ ([116] : List Nat) from by decide +kernel) c (ltX h (by decide)) h
theorem obX1 {c : Nat} (h : kdX c = 1) : lnX c = 3 := (show ∀ c ∈ ([116] : List Nat), lnX c = 3 from by decide +kernel) c (isX1 h)
theorem fiX1_0 {c : Nat} (h : kdX c = 1) : rfX c 0 = none := (show ∀ c ∈ ([116] : List Nat), rfX c 0 = none from by decide +kernel) c (isX1 h)
theorem fiX1_1 {c : Nat} (h : kdX c = 1) : rfX c 1 = none := (show ∀ c ∈ ([116] : List Nat), rfX c 1 = none from by decide +kernel) c (isX1 h)
theorem frX1_2 {c : Nat} (h : kdX c = 1) : rfX c 2 = some 117 := (show ∀ c ∈ ([116] : List Nat), rfX c 2 = some 117 from by decide +kernel) c (isX1 h)
theorem krX1_2 {c : Nat} (h : kdX c = 1) : kdX 117 = 23 := (show ∀ c ∈ ([116] : List Nat), kdX 117 = 23 from by decide +kernel) c (isX1 h)
theorem nrX1_2 {c : Nat} (h : kdX c = 1) : lnX 117 = 6 := (show ∀ c ∈ ([116] : List Nat), lnX 117 = 6 from by decide +kernel) c (isX1 h)
theorem isX2 {c : Nat} (h : kdX c = 2) : c ∈ ([39, 90, 203] : List Nat) := (show ∀ c, c < 222 → kdX c = 2 → c ∈ ([39, 90, 203] : List Nat) from by decide +kernel) c (ltX h (by decide)) h
theorem obX2 {c : Nat} (h : kdX c = 2) : lnX c = 8 := (show ∀ c ∈ ([39, 90, 203] : List Nat), lnX c = 8 from by decide +kernel) c (isX2 h)
theorem fiX2_0 {c : Nat} (h : kdX c = 2) : rfX c 0 = none := (show ∀ c ∈ ([39, 90, 203] : List Nat), rfX c 0 = none from by decide +kernel) c (isX2 h)
theorem fiX2_1 {c : Nat} (h : kdX c = 2) : rfX c 1 = none := (show ∀ c ∈ ([39, 90, 203] : List Nat), rfX c 1 = none from by decide +kernel) c (isX2 h)
theorem frX2_2 {c : Nat} (h : kdX c = 2) : rfX c 2 = some (c + 1) := (show ∀ c ∈ ([39, 90, 203] : List Nat), rfX c 2 = some (c + 1) from by decide +kernel) c (isX2 h)
theorem krX2_2 {c : Nat} (h : kdX c = 2) : kdX (c + 1) = 20 := (show ∀ c ∈ ([39, 90, 203] : List Nat), kdX (c + 1) = 20 from by decide +kernel) c (isX2 h)
theorem nrX2_2 {c : Nat} (h : kdX c = 2) : lnX (c + 1) = 16 := (show ∀ c ∈ ([39, 90, 203] : List Nat), lnX (c + 1) = 16 from by decide +kernel) c (isX2 h)
theorem frX2_3 {c : Nat} (h : kdX c = 2) : rfX c 3 = some (c + 2) := (show ∀ c ∈ ([39, 90, 203] : List Nat), rfX c 3 = some (c + 2) from by decide +kernel) c (isX2 h)
theorem krX2_3 {c : Nat} (h : kdX c = 2) : kdX (c + 2) = 20 := (show ∀ c ∈ ([39, 90, 203] : List Nat), kdX (c + 2) = 20 from by decide +kernel) c (isX2 h)
theorem nrX2_3 {c : Nat} (h : kdX c = 2) : lnX (c + 2) = 16 := (show ∀ c ∈ ([39, 90, 203] : List Nat), lnX (c + 2) = 16 from by decide +kernel) c (isX2 h)
theorem frX2_4 {c : Nat} (h : kdX c = 2) : rfX c 4 = some (c + 3) := (show ∀ c ∈ ([39, 90, 203] : List Nat), rfX c 4 = some (c + 3) from by decide +kernel) c (isX2 h)
theorem krX2_4 {c : Nat} (h : kdX c = 2) : kdX (c + 3) = 20 := (show ∀ c ∈ ([39, 90, 203] : List Nat), kdX (c + 3) = 20 from by decide +kernel) c (isX2 h)
theorem nrX2_4 {c : Nat} (h : kdX c = 2) : lnX (c + 3) = 16 := (show ∀ c ∈ ([39, 90, 203] : List Nat), lnX (c + 3) = 16 from by decide +kernel) c (isX2 h)
theorem frX2_5 {c : Nat} (h : kdX c = 2) : rfX c 5 = some (c + 4) := (show ∀ c ∈ ([39, 90, 203] : List Nat), rfX c 5 = some (c + 4) from by decide +kernel) c (isX2 h)
theorem krX2_5 {c : Nat} (h : kdX c = 2) : kdX (c + 4) = 20 := (show ∀ c ∈ ([39, 90, 203] : List Nat), kdX (c + 4) = 20 from by decide +kernel) c (isX2 h)
theorem nrX2_5 {c : Nat} (h : kdX c = 2) : lnX (c + 4) = 16 := (show ∀ c ∈ ([39, 90, 203] : List Nat), lnX (c + 4) = 16 from by decide +kernel) c (isX2 h)
theorem frX2_6 {c : Nat} (h : kdX c = 2) : rfX c 6 = some (c + 5) := (show ∀ c ∈ ([39, 90, 203] : List Nat), rfX c 6 = some (c + 5) from by decide +kernel) c (isX2 h)
theorem krX2_6 {c : Nat} (h : kdX c = 2) : kdX (c + 5) = 20 := (show ∀ c ∈ ([39, 90, 203] : List Nat), kdX (c + 5) = 20 from by decide +kernel) c (isX2 h)
theorem nrX2_6 {c : Nat} (h : kdX c = 2) : lnX (c + 5) = 400 := (show ∀ c ∈ ([39, 90, 203] : List Nat), lnX (c + 5) = 400 from by decide +kernel) c (isX2 h)
theorem frX2_7 {c : Nat} (h : kdX c = 2) : rfX c 7 = some (c + 6) := (show ∀ c ∈ ([39, 90, 203] : List Nat), rfX c 7 = some (c + 6) from by decide +kernel) c (isX2 h)
theorem krX2_7 {c : Nat} (h : kdX c = 2) : kdX (c + 6) = 20 := (show ∀ c ∈ ([39, 90, 203] : List Nat), kdX (c + 6) = 20 from by decide +kernel) c (isX2 h)
theorem nrX2_7 {c : Nat} (h : kdX c = 2) : lnX (c + 6) = 32 := (show ∀ c ∈ ([39, 90, 203] : List Nat), lnX (c + 6) = 32 from by decide +kernel) c (isX2 h)
theorem isX3 {c : Nat} (h : kdX c = 3) : c ∈ ([196] : List Nat) := (show ∀ c, c < 222 → kdX c = 3 → c ∈ ([196] : List Nat) from by decide +kernel) c (ltX h (by decide)) h
theorem obX3 {c : Nat} (h : kdX c = 3) : lnX c = 3 := (show ∀ c ∈ ([196] : List Nat), lnX c = 3 from by decide +kernel) c (isX3 h)
theorem frX3_0 {c : Nat} (h : kdX c = 3) : rfX c 0 = some 197 := (show ∀ c ∈ ([196] : List Nat), rfX c 0 = some 197 from by decide +kernel) c (isX3 h)
theorem krX3_0 {c : Nat} (h : kdX c = 3) : kdX 197 = 6 := (show ∀ c ∈ ([196] : List Nat), kdX 197 = 6 from by decide +kernel) c (isX3 h)
theorem frX3_1 {c : Nat} (h : kdX c = 3) : rfX c 1 = some 203 := (show ∀ c ∈ ([196] : List Nat), rfX c 1 = some 203 from by decide +kernel) c (isX3 h)
theorem krX3_1 {c : Nat} (h : kdX c = 3) : kdX 203 = 2 := (show ∀ c ∈ ([196] : List Nat), kdX 203 = 2 from by decide +kernel) c (isX3 h)
theorem frX3_2 {c : Nat} (h : kdX c = 3) : rfX c 2 = some 210 := (show ∀ c ∈ ([196] : List Nat), rfX c 2 = some 210 from by decide +kernel) c (isX3 h)
theorem krX3_2 {c : Nat} (h : kdX c = 3) : kdX 210 = 20 := (show ∀ c ∈ ([196] : List Nat), kdX 210 = 20 from by decide +kernel) c (isX3 h)
theorem nrX3_2 {c : Nat} (h : kdX c = 3) : lnX 210 = 128 := (show ∀ c ∈ ([196] : List Nat), lnX 210 = 128 from by decide +kernel) c (isX3 h)
theorem isX4 {c : Nat} (h : kdX c = 4) : c ∈ ([213] : List Nat) := (show ∀ c, c < 222 → kdX c = 4 → c ∈ ([213] : List Nat) from by decide +kernel) c (ltX h (by decide)) h
theorem obX4 {c : Nat} (h : kdX c = 4) : lnX c = 11 := (show ∀ c ∈ ([213] : List Nat), lnX c = 11 from by decide +kernel) c (isX4 h)
theorem frX4_0 {c : Nat} (h : kdX c = 4) : rfX c 0 = some 1 := (show ∀ c ∈ ([213] : List Nat), rfX c 0 = some 1 from by decide +kernel) c (isX4 h)
theorem krX4_0 {c : Nat} (h : kdX c = 4) : kdX 1 = 9 := (show ∀ c ∈ ([213] : List Nat), kdX 1 = 9 from by decide +kernel) c (isX4 h)
theorem frX4_1 {c : Nat} (h : kdX c = 4) : rfX c 1 = some 15 := (show ∀ c ∈ ([213] : List Nat), rfX c 1 = some 15 from by decide +kernel) c (isX4 h)
theorem krX4_1 {c : Nat} (h : kdX c = 4) : kdX 15 = 7 := (show ∀ c ∈ ([213] : List Nat), kdX 15 = 7 from by decide +kernel) c (isX4 h)
theorem frX4_2 {c : Nat} (h : kdX c = 4) : rfX c 2 = some 214 := (show ∀ c ∈ ([213] : List Nat), rfX c 2 = some 214 from by decide +kernel) c (isX4 h)
theorem krX4_2 {c : Nat} (h : kdX c = 4) : kdX 214 = 20 := (show ∀ c ∈ ([213] : List Nat), kdX 214 = 20 from by decide +kernel) c (isX4 h)
theorem nrX4_2 {c : Nat} (h : kdX c = 4) : lnX 214 = 1024 := (show ∀ c ∈ ([213] : List Nat), lnX 214 = 1024 from by decide +kernel) c (isX4 h)
theorem frX4_3 {c : Nat} (h : kdX c = 4) : rfX c 3 = some 215 := (show ∀ c ∈ ([213] : List Nat), rfX c 3 = some 215 from by decide +kernel) c (isX4 h)
theorem krX4_3 {c : Nat} (h : kdX c = 4) : kdX 215 = 20 := (show ∀ c ∈ ([213] : List Nat), kdX 215 = 20 from by decide +kernel) c (isX4 h)
theorem nrX4_3 {c : Nat} (h : kdX c = 4) : lnX 215 = 1024 := (show ∀ c ∈ ([213] : List Nat), lnX 215 = 1024 from by decide +kernel) c (isX4 h)
theorem frX4_4 {c : Nat} (h : kdX c = 4) : rfX c 4 = some 216 := (show ∀ c ∈ ([213] : List Nat), rfX c 4 = some 216 from by decide +kernel) c (isX4 h)
theorem krX4_4 {c : Nat} (h : kdX c = 4) : kdX 216 = 20 := (show ∀ c ∈ ([213] : List Nat), kdX 216 = 20 from by decide +kernel) c (isX4 h)
theorem nrX4_4 {c : Nat} (h : kdX c = 4) : lnX 216 = 8 := (show ∀ c ∈ ([213] : List Nat), lnX 216 = 8 from by decide +kernel) c (isX4 h)
theorem frX4_5 {c : Nat} (h : kdX c = 4) : rfX c 5 = some 217 := (show ∀ c ∈ ([213] : List Nat), rfX c 5 = some 217 from by decide +kernel) c (isX4 h)
theorem krX4_5 {c : Nat} (h : kdX c = 4) : kdX 217 = 20 := (show ∀ c ∈ ([213] : List Nat), kdX 217 = 20 from by decide +kernel) c (isX4 h)
theorem nrX4_5 {c : Nat} (h : kdX c = 4) : lnX 217 = 8 := (show ∀ c ∈ ([213] : List Nat), lnX 217 = 8 from by decide +kernel) c (isX4 h)
theorem frX4_6 {c : Nat} (h : kdX c = 4) : rfX c 6 = some 218 := (show ∀ c ∈ ([213] : List Nat), rfX c 6 = some 218 from by decide +kernel) c (isX4 h)
theorem krX4_6 {c : Nat} (h : kdX c = 4) : kdX 218 = 20 := (show ∀ c ∈ ([213] : List Nat), kdX 218 = 20 from by decide +kernel) c (isX4 h)
theorem nrX4_6 {c : Nat} (h : kdX c = 4) : lnX 218 = 5 := (show ∀ c ∈ ([213] : List Nat), lnX 218 = 5 from by decide +kernel) c (isX4 h)
theorem frX4_7 {c : Nat} (h : kdX c = 4) : rfX c 7 = some 219 := (show ∀ c ∈ ([213] : List Nat), rfX c 7 = some 219 from by decide +kernel) c (isX4 h)
theorem krX4_7 {c : Nat} (h : kdX c = 4) : kdX 219 = 20 := (show ∀ c ∈ ([213] : List Nat), kdX 219 = 20 from by decide +kernel) c (isX4 h)
theorem nrX4_7 {c : Nat} (h : kdX c = 4) : lnX 219 = 6 := (show ∀ c ∈ ([213] : List Nat), lnX 219 = 6 from by decide +kernel) c (isX4 h)
theorem frX4_8 {c : Nat} (h : kdX c = 4) : rfX c 8 = some 220 := (show ∀ c ∈ ([213] : List Nat), rfX c 8 = some 220 from by decide +kernel) c (isX4 h)
theorem krX4_8 {c : Nat} (h : kdX c = 4) : kdX 220 = 20 := (show ∀ c ∈ ([213] : List Nat), kdX 220 = 20 from by decide +kernel) c (isX4 h)
theorem nrX4_8 {c : Nat} (h : kdX c = 4) : lnX 220 = 169 := (show ∀ c ∈ ([213] : List Nat), lnX 220 = 169 from by decide +kernel) c (isX4 h)
theorem frX4_9 {c : Nat} (h : kdX c = 4) : rfX c 9 = some 221 := (show ∀ c ∈ ([213] : List Nat), rfX c 9 = some 221 from by decide +kernel) c (isX4 h)
theorem krX4_9 {c : Nat} (h : kdX c = 4) : kdX 221 = 21 := (show ∀ c ∈ ([213] : List Nat), kdX 221 = 21 from by decide +kernel) c (isX4 h)
theorem nrX4_9 {c : Nat} (h : kdX c = 4) : lnX 221 = 1024 := (show ∀ c ∈ ([213] : List Nat), lnX 221 = 1024 from by decide +kernel) c (isX4 h)
theorem fiX4_10 {c : Nat} (h : kdX c = 4) : rfX c 10 = none := (show ∀ c ∈ ([213] : List Nat), rfX c 10 = none from by decide +kernel) c (isX4 h)
theorem isX5 {c : Nat} (h : kdX c = 5) : c ∈ ([16, 18, 20, 22, 24, 26, 28, 30, 32, 67, 69, 71, 73, 75, 77, 79, 81, 83] : List Nat) := (show ∀ c, c < 222 → kdX c = 5 → c ∈ ([16, 18, 20, 22, 24, 26, 28, 30, 32, 67, 69, 71, 73, 75, 77, 79, 81, 83] : List Nat) from by decide +kernel) c (ltX h (by decide)) h
theorem obX5 {c : Nat} (h : kdX c = 5) : lnX c = 2 := (show ∀ c ∈ ([16, 18, 20, 22, 24, 26, 28, 30, 32, 67, 69, 71, 73, 75, 77, 79, 81, 83] : List Nat), lnX c = 2 from by decide +kernel) c (isX5 h)
theorem fiX5_0 {c : Nat} (h : kdX c = 5) : rfX c 0 = none := (show ∀ c ∈ ([16, 18, 20, 22, 24, 26, 28, 30, 32, 67, 69, 71, 73, 75, 77, 79, 81, 83] : List Nat), rfX c 0 = none from by decide +kernel) c (isX5 h)
theorem frX5_1 {c : Nat} (h : kdX c = 5) : rfX c 1 = some (c + 1) := (show ∀ c ∈ ([16, 18, 20, 22, 24, 26, 28, 30, 32, 67, 69, 71, 73, 75, 77, 79, 81, 83] : List Nat), rfX c 1 = some (c + 1) from by decide +kernel) c (isX5 h)
theorem krX5_1 {c : Nat} (h : kdX c = 5) : kdX (c + 1) = 20 := (show ∀ c ∈ ([16, 18, 20, 22, 24, 26, 28, 30, 32, 67, 69, 71, 73, 75, 77, 79, 81, 83] : List Nat), kdX (c + 1) = 20 from by decide +kernel) c (isX5 h)
theorem isX6 {c : Nat} (h : kdX c = 6) : c ∈ ([197] : List Nat) := (show ∀ c, c < 222 → kdX c = 6 → c ∈ ([197] : List Nat) from by decide +kernel) c (ltX h (by decide)) h
theorem obX6 {c : Nat} (h : kdX c = 6) : lnX c = 13 := (show ∀ c ∈ ([197] : List Nat), lnX c = 13 from by decide +kernel) c (isX6 h)
theorem fiX6_0 {c : Nat} (h : kdX c = 6) : rfX c 0 = none := (show ∀ c ∈ ([197] : List Nat), rfX c 0 = none from by decide +kernel) c (isX6 h)
theorem fiX6_1 {c : Nat} (h : kdX c = 6) : rfX c 1 = none := (show ∀ c ∈ ([197] : List Nat), rfX c 1 = none from by decide +kernel) c (isX6 h)
theorem fiX6_2 {c : Nat} (h : kdX c = 6) : rfX c 2 = none := (show ∀ c ∈ ([197] : List Nat), rfX c 2 = none from by decide +kernel) c (isX6 h)
theorem fiX6_3 {c : Nat} (h : kdX c = 6) : rfX c 3 = none := (show ∀ c ∈ ([197] : List Nat), rfX c 3 = none from by decide +kernel) c (isX6 h)
theorem fiX6_4 {c : Nat} (h : kdX c = 6) : rfX c 4 = none := (show ∀ c ∈ ([197] : List Nat), rfX c 4 = none from by decide +kernel) c (isX6 h)
theorem fiX6_5 {c : Nat} (h : kdX c = 6) : rfX c 5 = none := (show ∀ c ∈ ([197] : List Nat), rfX c 5 = none from by decide +kernel) c (isX6 h)
theorem fiX6_6 {c : Nat} (h : kdX c = 6) : rfX c 6 = none := (show ∀ c ∈ ([197] : List Nat), rfX c 6 = none from by decide +kernel) c (isX6 h)
theorem fiX6_7 {c : Nat} (h : kdX c = 6) : rfX c 7 = none := (show ∀ c ∈ ([197] : List Nat), rfX c 7 = none from by decide +kernel) c (isX6 h)
theorem frX6_8 {c : Nat} (h : kdX c = 6) : rfX c 8 = some 198 := (show ∀ c ∈ ([197] : List Nat), rfX c 8 = some 198 from by decide +kernel) c (isX6 h)
theorem krX6_8 {c : Nat} (h : kdX c = 6) : kdX 198 = 22 := (show ∀ c ∈ ([197] : List Nat), kdX 198 = 22 from by decide +kernel) c (isX6 h)
theorem nrX6_8 {c : Nat} (h : kdX c = 6) : lnX 198 = 400 := (show ∀ c ∈ ([197] : List Nat), lnX 198 = 400 from by decide +kernel) c (isX6 h)
theorem frX6_9 {c : Nat} (h : kdX c = 6) : rfX c 9 = some 199 := (show ∀ c ∈ ([197] : List Nat), rfX c 9 = some 199 from by decide +kernel) c (isX6 h)
theorem krX6_9 {c : Nat} (h : kdX c = 6) : kdX 199 = 20 := (show ∀ c ∈ ([197] : List Nat), kdX 199 = 20 from by decide +kernel) c (isX6 h)
theorem nrX6_9 {c : Nat} (h : kdX c = 6) : lnX 199 = 401 := (show ∀ c ∈ ([197] : List Nat), lnX 199 = 401 from by decide +kernel) c (isX6 h)
theorem frX6_10 {c : Nat} (h : kdX c = 6) : rfX c 10 = some 200 := (show ∀ c ∈ ([197] : List Nat), rfX c 10 = some 200 from by decide +kernel) c (isX6 h)
theorem krX6_10 {c : Nat} (h : kdX c = 6) : kdX 200 = 20 := (show ∀ c ∈ ([197] : List Nat), kdX 200 = 20 from by decide +kernel) c (isX6 h)
theorem nrX6_10 {c : Nat} (h : kdX c = 6) : lnX 200 = 401 := (show ∀ c ∈ ([197] : List Nat), lnX 200 = 401 from by decide +kernel) c (isX6 h)
theorem frX6_11 {c : Nat} (h : kdX c = 6) : rfX c 11 = some 201 := (show ∀ c ∈ ([197] : List Nat), rfX c 11 = some 201 from by decide +kernel) c (isX6 h)
theorem krX6_11 {c : Nat} (h : kdX c = 6) : kdX 201 = 20 := (show ∀ c ∈ ([197] : List Nat), kdX 201 = 20 from by decide +kernel) c (isX6 h)
theorem nrX6_11 {c : Nat} (h : kdX c = 6) : lnX 201 = 401 := (show ∀ c ∈ ([197] : List Nat), lnX 201 = 401 from by decide +kernel) c (isX6 h)
theorem frX6_12 {c : Nat} (h : kdX c = 6) : rfX c 12 = some 202 := (show ∀ c ∈ ([197] : List Nat), rfX c 12 = some 202 from by decide +kernel) c (isX6 h)
theorem krX6_12 {c : Nat} (h : kdX c = 6) : kdX 202 = 20 := (show ∀ c ∈ ([197] : List Nat), kdX 202 = 20 from by decide +kernel) c (isX6 h)
theorem nrX6_12 {c : Nat} (h : kdX c = 6) : lnX 202 = 401 := (show ∀ c ∈ ([197] : List Nat), lnX 202 = 401 from by decide +kernel) c (isX6 h)
theorem isX7 {c : Nat} (h : kdX c = 7) : c ∈ ([15, 66] : List Nat) := (show ∀ c, c < 222 → kdX c = 7 → c ∈ ([15, 66] : List Nat) from by decide +kernel) c (ltX h (by decide)) h
theorem obX7 {c : Nat} (h : kdX c = 7) : lnX c = 14 := (show ∀ c ∈ ([15, 66] : List Nat), lnX c = 14 from by decide +kernel) c (isX7 h)
theorem frX7_0 {c : Nat} (h : kdX c = 7) : rfX c 0 = some (c + 1) := (show ∀ c ∈ ([15, 66] : List Nat), rfX c 0 = some (c + 1) from by decide +kernel) c (isX7 h)
theorem krX7_0 {c : Nat} (h : kdX c = 7) : kdX (c + 1) = 5 := (show ∀ c ∈ ([15, 66] : List Nat), kdX (c + 1) = 5 from by decide +kernel) c (isX7 h)
theorem frX7_1 {c : Nat} (h : kdX c = 7) : rfX c 1 = some (c + 3) := (show ∀ c ∈ ([15, 66] : List Nat), rfX c 1 = some (c + 3) from by decide +kernel) c (isX7 h)
theorem krX7_1 {c : Nat} (h : kdX c = 7) : kdX (c + 3) = 5 := (show ∀ c ∈ ([15, 66] : List Nat), kdX (c + 3) = 5 from by decide +kernel) c (isX7 h)
theorem frX7_2 {c : Nat} (h : kdX c = 7) : rfX c 2 = some (c + 5) := (show ∀ c ∈ ([15, 66] : List Nat), rfX c 2 = some (c + 5) from by decide +kernel) c (isX7 h)
theorem krX7_2 {c : Nat} (h : kdX c = 7) : kdX (c + 5) = 5 := (show ∀ c ∈ ([15, 66] : List Nat), kdX (c + 5) = 5 from by decide +kernel) c (isX7 h)
theorem frX7_3 {c : Nat} (h : kdX c = 7) : rfX c 3 = some (c + 7) := (show ∀ c ∈ ([15, 66] : List Nat), rfX c 3 = some (c + 7) from by decide +kernel) c (isX7 h)
theorem krX7_3 {c : Nat} (h : kdX c = 7) : kdX (c + 7) = 5 := (show ∀ c ∈ ([15, 66] : List Nat), kdX (c + 7) = 5 from by decide +kernel) c (isX7 h)
theorem frX7_4 {c : Nat} (h : kdX c = 7) : rfX c 4 = some (c + 9) := (show ∀ c ∈ ([15, 66] : List Nat), rfX c 4 = some (c + 9) from by decide +kernel) c (isX7 h)
theorem krX7_4 {c : Nat} (h : kdX c = 7) : kdX (c + 9) = 5 := (show ∀ c ∈ ([15, 66] : List Nat), kdX (c + 9) = 5 from by decide +kernel) c (isX7 h)
theorem frX7_5 {c : Nat} (h : kdX c = 7) : rfX c 5 = some (c + 11) := (show ∀ c ∈ ([15, 66] : List Nat), rfX c 5 = some (c + 11) from by decide +kernel) c (isX7 h)
theorem krX7_5 {c : Nat} (h : kdX c = 7) : kdX (c + 11) = 5 := (show ∀ c ∈ ([15, 66] : List Nat), kdX (c + 11) = 5 from by decide +kernel) c (isX7 h)
theorem frX7_6 {c : Nat} (h : kdX c = 7) : rfX c 6 = some (c + 13) := (show ∀ c ∈ ([15, 66] : List Nat), rfX c 6 = some (c + 13) from by decide +kernel) c (isX7 h)
theorem krX7_6 {c : Nat} (h : kdX c = 7) : kdX (c + 13) = 5 := (show ∀ c ∈ ([15, 66] : List Nat), kdX (c + 13) = 5 from by decide +kernel) c (isX7 h)
theorem frX7_7 {c : Nat} (h : kdX c = 7) : rfX c 7 = some (c + 15) := (show ∀ c ∈ ([15, 66] : List Nat), rfX c 7 = some (c + 15) from by decide +kernel) c (isX7 h)
theorem krX7_7 {c : Nat} (h : kdX c = 7) : kdX (c + 15) = 5 := (show ∀ c ∈ ([15, 66] : List Nat), kdX (c + 15) = 5 from by decide +kernel) c (isX7 h)
theorem frX7_8 {c : Nat} (h : kdX c = 7) : rfX c 8 = some (c + 17) := (show ∀ c ∈ ([15, 66] : List Nat), rfX c 8 = some (c + 17) from by decide +kernel) c (isX7 h)
theorem krX7_8 {c : Nat} (h : kdX c = 7) : kdX (c + 17) = 5 := (show ∀ c ∈ ([15, 66] : List Nat), kdX (c + 17) = 5 from by decide +kernel) c (isX7 h)
theorem frX7_9 {c : Nat} (h : kdX c = 7) : rfX c 9 = some (c + 19) := (show ∀ c ∈ ([15, 66] : List Nat), rfX c 9 = some (c + 19) from by decide +kernel) c (isX7 h)
theorem krX7_9 {c : Nat} (h : kdX c = 7) : kdX (c + 19) = 20 := (show ∀ c ∈ ([15, 66] : List Nat), kdX (c + 19) = 20 from by decide +kernel) c (isX7 h)
theorem nrX7_9 {c : Nat} (h : kdX c = 7) : lnX (c + 19) = 12 := (show ∀ c ∈ ([15, 66] : List Nat), lnX (c + 19) = 12 from by decide +kernel) c (isX7 h)
theorem frX7_10 {c : Nat} (h : kdX c = 7) : rfX c 10 = some (c + 20) := (show ∀ c ∈ ([15, 66] : List Nat), rfX c 10 = some (c + 20) from by decide +kernel) c (isX7 h)
theorem krX7_10 {c : Nat} (h : kdX c = 7) : kdX (c + 20) = 20 := (show ∀ c ∈ ([15, 66] : List Nat), kdX (c + 20) = 20 from by decide +kernel) c (isX7 h)
theorem nrX7_10 {c : Nat} (h : kdX c = 7) : lnX (c + 20) = 9 := (show ∀ c ∈ ([15, 66] : List Nat), lnX (c + 20) = 9 from by decide +kernel) c (isX7 h)
theorem frX7_11 {c : Nat} (h : kdX c = 7) : rfX c 11 = some (c + 21) := (show ∀ c ∈ ([15, 66] : List Nat), rfX c 11 = some (c + 21) from by decide +kernel) c (isX7 h)
theorem krX7_11 {c : Nat} (h : kdX c = 7) : kdX (c + 21) = 20 := (show ∀ c ∈ ([15, 66] : List Nat), kdX (c + 21) = 20 from by decide +kernel) c (isX7 h)
theorem nrX7_11 {c : Nat} (h : kdX c = 7) : lnX (c + 21) = 9 := (show ∀ c ∈ ([15, 66] : List Nat), lnX (c + 21) = 9 from by decide +kernel) c (isX7 h)
theorem frX7_12 {c : Nat} (h : kdX c = 7) : rfX c 12 = some (c + 22) := (show ∀ c ∈ ([15, 66] : List Nat), rfX c 12 = some (c + 22) from by decide +kernel) c (isX7 h)
theorem krX7_12 {c : Nat} (h : kdX c = 7) : kdX (c + 22) = 20 := (show ∀ c ∈ ([15, 66] : List Nat), kdX (c + 22) = 20 from by decide +kernel) c (isX7 h)
theorem nrX7_12 {c : Nat} (h : kdX c = 7) : lnX (c + 22) = 36 := (show ∀ c ∈ ([15, 66] : List Nat), lnX (c + 22) = 36 from by decide +kernel) c (isX7 h)
theorem frX7_13 {c : Nat} (h : kdX c = 7) : rfX c 13 = some (c + 23) := (show ∀ c ∈ ([15, 66] : List Nat), rfX c 13 = some (c + 23) from by decide +kernel) c (isX7 h)
theorem krX7_13 {c : Nat} (h : kdX c = 7) : kdX (c + 23) = 20 := (show ∀ c ∈ ([15, 66] : List Nat), kdX (c + 23) = 20 from by decide +kernel) c (isX7 h)
theorem nrX7_13 {c : Nat} (h : kdX c = 7) : lnX (c + 23) = 8 := (show ∀ c ∈ ([15, 66] : List Nat), lnX (c + 23) = 8 from by decide +kernel) c (isX7 h)
theorem isX8 {c : Nat} (h : kdX c = 8) : c ∈ ([2, 53, 103, 118, 131, 144, 157, 170, 183] : List Nat) := (show ∀ c, c < 222 → kdX c = 8 → c ∈ ([2, 53, 103, 118, 131, 144, 157, 170, 183] : List Nat) from by decide +kernel) c (ltX h (by decide)) h
theorem obX8 {c : Nat} (h : kdX c = 8) : lnX c = 19 := (show ∀ c ∈ ([2, 53, 103, 118, 131, 144, 157, 170, 183] : List Nat), lnX c = 19 from by decide +kernel) c (isX8 h)
theorem fiX8_0 {c : Nat} (h : kdX c = 8) : rfX c 0 = none := (show ∀ c ∈ ([2, 53, 103, 118, 131, 144, 157, 170, 183] : List Nat), rfX c 0 = none from by decide +kernel) c (isX8 h)
theorem fiX8_1 {c : Nat} (h : kdX c = 8) : rfX c 1 = none := (show ∀ c ∈ ([2, 53, 103, 118, 131, 144, 157, 170, 183] : List Nat), rfX c 1 = none from by decide +kernel) c (isX8 h)
theorem fiX8_2 {c : Nat} (h : kdX c = 8) : rfX c 2 = none := (show ∀ c ∈ ([2, 53, 103, 118, 131, 144, 157, 170, 183] : List Nat), rfX c 2 = none from by decide +kernel) c (isX8 h)
theorem fiX8_3 {c : Nat} (h : kdX c = 8) : rfX c 3 = none := (show ∀ c ∈ ([2, 53, 103, 118, 131, 144, 157, 170, 183] : List Nat), rfX c 3 = none from by decide +kernel) c (isX8 h)
theorem fiX8_4 {c : Nat} (h : kdX c = 8) : rfX c 4 = none := (show ∀ c ∈ ([2, 53, 103, 118, 131, 144, 157, 170, 183] : List Nat), rfX c 4 = none from by decide +kernel) c (isX8 h)
theorem fiX8_5 {c : Nat} (h : kdX c = 8) : rfX c 5 = none := (show ∀ c ∈ ([2, 53, 103, 118, 131, 144, 157, 170, 183] : List Nat), rfX c 5 = none from by decide +kernel) c (isX8 h)
theorem fiX8_6 {c : Nat} (h : kdX c = 8) : rfX c 6 = none := (show ∀ c ∈ ([2, 53, 103, 118, 131, 144, 157, 170, 183] : List Nat), rfX c 6 = none from by decide +kernel) c (isX8 h)
theorem frX8_7 {c : Nat} (h : kdX c = 8) : rfX c 7 = some (c + 1) := (show ∀ c ∈ ([2, 53, 103, 118, 131, 144, 157, 170, 183] : List Nat), rfX c 7 = some (c + 1) from by decide +kernel) c (isX8 h)
theorem krX8_7 {c : Nat} (h : kdX c = 8) : kdX (c + 1) = 20 := (show ∀ c ∈ ([2, 53, 103, 118, 131, 144, 157, 170, 183] : List Nat), kdX (c + 1) = 20 from by decide +kernel) c (isX8 h)
theorem nrX8_7 {c : Nat} (h : kdX c = 8) : lnX (c + 1) = 10 := (show ∀ c ∈ ([2, 53, 103, 118, 131, 144, 157, 170, 183] : List Nat), lnX (c + 1) = 10 from by decide +kernel) c (isX8 h)
theorem frX8_8 {c : Nat} (h : kdX c = 8) : rfX c 8 = some (c + 2) := (show ∀ c ∈ ([2, 53, 103, 118, 131, 144, 157, 170, 183] : List Nat), rfX c 8 = some (c + 2) from by decide +kernel) c (isX8 h)
theorem krX8_8 {c : Nat} (h : kdX c = 8) : kdX (c + 2) = 20 := (show ∀ c ∈ ([2, 53, 103, 118, 131, 144, 157, 170, 183] : List Nat), kdX (c + 2) = 20 from by decide +kernel) c (isX8 h)
theorem nrX8_8 {c : Nat} (h : kdX c = 8) : lnX (c + 2) = 10 := (show ∀ c ∈ ([2, 53, 103, 118, 131, 144, 157, 170, 183] : List Nat), lnX (c + 2) = 10 from by decide +kernel) c (isX8 h)
theorem frX8_9 {c : Nat} (h : kdX c = 8) : rfX c 9 = some (c + 3) := (show ∀ c ∈ ([2, 53, 103, 118, 131, 144, 157, 170, 183] : List Nat), rfX c 9 = some (c + 3) from by decide +kernel) c (isX8 h)
theorem krX8_9 {c : Nat} (h : kdX c = 8) : kdX (c + 3) = 20 := (show ∀ c ∈ ([2, 53, 103, 118, 131, 144, 157, 170, 183] : List Nat), kdX (c + 3) = 20 from by decide +kernel) c (isX8 h)
theorem nrX8_9 {c : Nat} (h : kdX c = 8) : lnX (c + 3) = 10 := (show ∀ c ∈ ([2, 53, 103, 118, 131, 144, 157, 170, 183] : List Nat), lnX (c + 3) = 10 from by decide +kernel) c (isX8 h)
theorem frX8_10 {c : Nat} (h : kdX c = 8) : rfX c 10 = some (c + 4) := (show ∀ c ∈ ([2, 53, 103, 118, 131, 144, 157, 170, 183] : List Nat), rfX c 10 = some (c + 4) from by decide +kernel) c (isX8 h)
theorem krX8_10 {c : Nat} (h : kdX c = 8) : kdX (c + 4) = 20 := (show ∀ c ∈ ([2, 53, 103, 118, 131, 144, 157, 170, 183] : List Nat), kdX (c + 4) = 20 from by decide +kernel) c (isX8 h)
theorem nrX8_10 {c : Nat} (h : kdX c = 8) : lnX (c + 4) = 10 := (show ∀ c ∈ ([2, 53, 103, 118, 131, 144, 157, 170, 183] : List Nat), lnX (c + 4) = 10 from by decide +kernel) c (isX8 h)
theorem frX8_11 {c : Nat} (h : kdX c = 8) : rfX c 11 = some (c + 5) := (show ∀ c ∈ ([2, 53, 103, 118, 131, 144, 157, 170, 183] : List Nat), rfX c 11 = some (c + 5) from by decide +kernel) c (isX8 h)
theorem krX8_11 {c : Nat} (h : kdX c = 8) : kdX (c + 5) = 20 := (show ∀ c ∈ ([2, 53, 103, 118, 131, 144, 157, 170, 183] : List Nat), kdX (c + 5) = 20 from by decide +kernel) c (isX8 h)
theorem nrX8_11 {c : Nat} (h : kdX c = 8) : lnX (c + 5) = 14 := (show ∀ c ∈ ([2, 53, 103, 118, 131, 144, 157, 170, 183] : List Nat), lnX (c + 5) = 14 from by decide +kernel) c (isX8 h)
theorem frX8_12 {c : Nat} (h : kdX c = 8) : rfX c 12 = some (c + 6) := (show ∀ c ∈ ([2, 53, 103, 118, 131, 144, 157, 170, 183] : List Nat), rfX c 12 = some (c + 6) from by decide +kernel) c (isX8 h)
theorem krX8_12 {c : Nat} (h : kdX c = 8) : kdX (c + 6) = 20 := (show ∀ c ∈ ([2, 53, 103, 118, 131, 144, 157, 170, 183] : List Nat), kdX (c + 6) = 20 from by decide +kernel) c (isX8 h)
theorem nrX8_12 {c : Nat} (h : kdX c = 8) : lnX (c + 6) = 14 := (show ∀ c ∈ ([2, 53, 103, 118, 131, 144, 157, 170, 183] : List Nat), lnX (c + 6) = 14 from by decide +kernel) c (isX8 h)
theorem frX8_13 {c : Nat} (h : kdX c = 8) : rfX c 13 = some (c + 7) := (show ∀ c ∈ ([2, 53, 103, 118, 131, 144, 157, 170, 183] : List Nat), rfX c 13 = some (c + 7) from by decide +kernel) c (isX8 h)
theorem krX8_13 {c : Nat} (h : kdX c = 8) : kdX (c + 7) = 20 := (show ∀ c ∈ ([2, 53, 103, 118, 131, 144, 157, 170, 183] : List Nat), kdX (c + 7) = 20 from by decide +kernel) c (isX8 h)
theorem nrX8_13 {c : Nat} (h : kdX c = 8) : lnX (c + 7) = 14 := (show ∀ c ∈ ([2, 53, 103, 118, 131, 144, 157, 170, 183] : List Nat), lnX (c + 7) = 14 from by decide +kernel) c (isX8 h)
theorem frX8_14 {c : Nat} (h : kdX c = 8) : rfX c 14 = some (c + 8) := (show ∀ c ∈ ([2, 53, 103, 118, 131, 144, 157, 170, 183] : List Nat), rfX c 14 = some (c + 8) from by decide +kernel) c (isX8 h)
theorem krX8_14 {c : Nat} (h : kdX c = 8) : kdX (c + 8) = 20 := (show ∀ c ∈ ([2, 53, 103, 118, 131, 144, 157, 170, 183] : List Nat), kdX (c + 8) = 20 from by decide +kernel) c (isX8 h)
theorem nrX8_14 {c : Nat} (h : kdX c = 8) : lnX (c + 8) = 14 := (show ∀ c ∈ ([2, 53, 103, 118, 131, 144, 157, 170, 183] : List Nat), lnX (c + 8) = 14 from by decide +kernel) c (isX8 h)
theorem frX8_15 {c : Nat} (h : kdX c = 8) : rfX c 15 = some (c + 9) := (show ∀ c ∈ ([2, 53, 103, 118, 131, 144, 157, 170, 183] : List Nat), rfX c 15 = some (c + 9) from by decide +kernel) c (isX8 h)
theorem krX8_15 {c : Nat} (h : kdX c = 8) : kdX (c + 9) = 20 := (show ∀ c ∈ ([2, 53, 103, 118, 131, 144, 157, 170, 183] : List Nat), kdX (c + 9) = 20 from by decide +kernel) c (isX8 h)
theorem nrX8_15 {c : Nat} (h : kdX c = 8) : lnX (c + 9) = 14 := (show ∀ c ∈ ([2, 53, 103, 118, 131, 144, 157, 170, 183] : List Nat), lnX (c + 9) = 14 from by decide +kernel) c (isX8 h)
theorem frX8_16 {c : Nat} (h : kdX c = 8) : rfX c 16 = some (c + 10) := (show ∀ c ∈ ([2, 53, 103, 118, 131, 144, 157, 170, 183] : List Nat), rfX c 16 = some (c + 10) from by decide +kernel) c (isX8 h)
theorem krX8_16 {c : Nat} (h : kdX c = 8) : kdX (c + 10) = 20 := (show ∀ c ∈ ([2, 53, 103, 118, 131, 144, 157, 170, 183] : List Nat), kdX (c + 10) = 20 from by decide +kernel) c (isX8 h)
theorem nrX8_16 {c : Nat} (h : kdX c = 8) : lnX (c + 10) = 14 := (show ∀ c ∈ ([2, 53, 103, 118, 131, 144, 157, 170, 183] : List Nat), lnX (c + 10) = 14 from by decide +kernel) c (isX8 h)
theorem frX8_17 {c : Nat} (h : kdX c = 8) : rfX c 17 = some (c + 11) := (show ∀ c ∈ ([2, 53, 103, 118, 131, 144, 157, 170, 183] : List Nat), rfX c 17 = some (c + 11) from by decide +kernel) c (isX8 h)
theorem krX8_17 {c : Nat} (h : kdX c = 8) : kdX (c + 11) = 20 := (show ∀ c ∈ ([2, 53, 103, 118, 131, 144, 157, 170, 183] : List Nat), kdX (c + 11) = 20 from by decide +kernel) c (isX8 h)
theorem nrX8_17 {c : Nat} (h : kdX c = 8) : lnX (c + 11) = 14 := (show ∀ c ∈ ([2, 53, 103, 118, 131, 144, 157, 170, 183] : List Nat), lnX (c + 11) = 14 from by decide +kernel) c (isX8 h)
theorem frX8_18 {c : Nat} (h : kdX c = 8) : rfX c 18 = some (c + 12) := (show ∀ c ∈ ([2, 53, 103, 118, 131, 144, 157, 170, 183] : List Nat), rfX c 18 = some (c + 12) from by decide +kernel) c (isX8 h)
theorem krX8_18 {c : Nat} (h : kdX c = 8) : kdX (c + 12) = 20 := (show ∀ c ∈ ([2, 53, 103, 118, 131, 144, 157, 170, 183] : List Nat), kdX (c + 12) = 20 from by decide +kernel) c (isX8 h)
theorem nrX8_18 {c : Nat} (h : kdX c = 8) : lnX (c + 12) = 112 := (show ∀ c ∈ ([2, 53, 103, 118, 131, 144, 157, 170, 183] : List Nat), lnX (c + 12) = 112 from by decide +kernel) c (isX8 h)
theorem isX9 {c : Nat} (h : kdX c = 9) : c ∈ ([1, 52] : List Nat) := (show ∀ c, c < 222 → kdX c = 9 → c ∈ ([1, 52] : List Nat) from by decide +kernel) c (ltX h (by decide)) h
theorem obX9 {c : Nat} (h : kdX c = 9) : lnX c = 9 := (show ∀ c ∈ ([1, 52] : List Nat), lnX c = 9 from by decide +kernel) c (isX9 h)
theorem frX9_0 {c : Nat} (h : kdX c = 9) : rfX c 0 = some (c + 1) := (show ∀ c ∈ ([1, 52] : List Nat), rfX c 0 = some (c + 1) from by decide +kernel) c (isX9 h)
theorem krX9_0 {c : Nat} (h : kdX c = 9) : kdX (c + 1) = 8 := (show ∀ c ∈ ([1, 52] : List Nat), kdX (c + 1) = 8 from by decide +kernel) c (isX9 h)
theorem frX9_1 {c : Nat} (h : kdX c = 9) : rfX c 1 = some (c + 14) := (show ∀ c ∈ ([1, 52] : List Nat), rfX c 1 = some (c + 14) from by decide +kernel) c (isX9 h)
theorem krX9_1 {c : Nat} (h : kdX c = 9) : kdX (c + 14) = 7 := (show ∀ c ∈ ([1, 52] : List Nat), kdX (c + 14) = 7 from by decide +kernel) c (isX9 h)
theorem frX9_2 {c : Nat} (h : kdX c = 9) : rfX c 2 = some (c + 38) := (show ∀ c ∈ ([1, 52] : List Nat), rfX c 2 = some (c + 38) from by decide +kernel) c (isX9 h)
theorem krX9_2 {c : Nat} (h : kdX c = 9) : kdX (c + 38) = 2 := (show ∀ c ∈ ([1, 52] : List Nat), kdX (c + 38) = 2 from by decide +kernel) c (isX9 h)
theorem frX9_3 {c : Nat} (h : kdX c = 9) : rfX c 3 = some (c + 45) := (show ∀ c ∈ ([1, 52] : List Nat), rfX c 3 = some (c + 45) from by decide +kernel) c (isX9 h)
theorem krX9_3 {c : Nat} (h : kdX c = 9) : kdX (c + 45) = 20 := (show ∀ c ∈ ([1, 52] : List Nat), kdX (c + 45) = 20 from by decide +kernel) c (isX9 h)
theorem nrX9_3 {c : Nat} (h : kdX c = 9) : lnX (c + 45) = 600 := (show ∀ c ∈ ([1, 52] : List Nat), lnX (c + 45) = 600 from by decide +kernel) c (isX9 h)
theorem frX9_4 {c : Nat} (h : kdX c = 9) : rfX c 4 = some (c + 46) := (show ∀ c ∈ ([1, 52] : List Nat), rfX c 4 = some (c + 46) from by decide +kernel) c (isX9 h)
theorem krX9_4 {c : Nat} (h : kdX c = 9) : kdX (c + 46) = 20 := (show ∀ c ∈ ([1, 52] : List Nat), kdX (c + 46) = 20 from by decide +kernel) c (isX9 h)
theorem nrX9_4 {c : Nat} (h : kdX c = 9) : lnX (c + 46) = 4 := (show ∀ c ∈ ([1, 52] : List Nat), lnX (c + 46) = 4 from by decide +kernel) c (isX9 h)
theorem frX9_5 {c : Nat} (h : kdX c = 9) : rfX c 5 = some (c + 47) := (show ∀ c ∈ ([1, 52] : List Nat), rfX c 5 = some (c + 47) from by decide +kernel) c (isX9 h)
theorem krX9_5 {c : Nat} (h : kdX c = 9) : kdX (c + 47) = 20 := (show ∀ c ∈ ([1, 52] : List Nat), kdX (c + 47) = 20 from by decide +kernel) c (isX9 h)
theorem nrX9_5 {c : Nat} (h : kdX c = 9) : lnX (c + 47) = 120 := (show ∀ c ∈ ([1, 52] : List Nat), lnX (c + 47) = 120 from by decide +kernel) c (isX9 h)
theorem frX9_6 {c : Nat} (h : kdX c = 9) : rfX c 6 = some (c + 48) := (show ∀ c ∈ ([1, 52] : List Nat), rfX c 6 = some (c + 48) from by decide +kernel) c (isX9 h)
theorem krX9_6 {c : Nat} (h : kdX c = 9) : kdX (c + 48) = 20 := (show ∀ c ∈ ([1, 52] : List Nat), kdX (c + 48) = 20 from by decide +kernel) c (isX9 h)
theorem nrX9_6 {c : Nat} (h : kdX c = 9) : lnX (c + 48) = 64 := (show ∀ c ∈ ([1, 52] : List Nat), lnX (c + 48) = 64 from by decide +kernel) c (isX9 h)
theorem frX9_7 {c : Nat} (h : kdX c = 9) : rfX c 7 = some (c + 49) := (show ∀ c ∈ ([1, 52] : List Nat), rfX c 7 = some (c + 49) from by decide +kernel) c (isX9 h)
theorem krX9_7 {c : Nat} (h : kdX c = 9) : kdX (c + 49) = 20 := (show ∀ c ∈ ([1, 52] : List Nat), kdX (c + 49) = 20 from by decide +kernel) c (isX9 h)
theorem nrX9_7 {c : Nat} (h : kdX c = 9) : lnX (c + 49) = 60 := (show ∀ c ∈ ([1, 52] : List Nat), lnX (c + 49) = 60 from by decide +kernel) c (isX9 h)
theorem frX9_8 {c : Nat} (h : kdX c = 9) : rfX c 8 = some (c + 50) := (show ∀ c ∈ ([1, 52] : List Nat), rfX c 8 = some (c + 50) from by decide +kernel) c (isX9 h)
theorem krX9_8 {c : Nat} (h : kdX c = 9) : kdX (c + 50) = 20 := (show ∀ c ∈ ([1, 52] : List Nat), kdX (c + 50) = 20 from by decide +kernel) c (isX9 h)
theorem nrX9_8 {c : Nat} (h : kdX c = 9) : lnX (c + 50) = 10 := (show ∀ c ∈ ([1, 52] : List Nat), lnX (c + 50) = 10 from by decide +kernel) c (isX9 h)
theorem isX10 {c : Nat} (h : kdX c = 10) : c ∈ ([0] : List Nat) := (show ∀ c, c < 222 → kdX c = 10 → c ∈ ([0] : List Nat) from by decide +kernel) c (ltX h (by decide)) h
theorem obX10 {c : Nat} (h : kdX c = 10) : lnX c = 8 := (show ∀ c ∈ ([0] : List Nat), lnX c = 8 from by decide +kernel) c (isX10 h)
theorem frX10_0 {c : Nat} (h : kdX c = 10) : rfX c 0 = some 1 := (show ∀ c ∈ ([0] : List Nat), rfX c 0 = some 1 from by decide +kernel) c (isX10 h)
theorem krX10_0 {c : Nat} (h : kdX c = 10) : kdX 1 = 9 := (show ∀ c ∈ ([0] : List Nat), kdX 1 = 9 from by decide +kernel) c (isX10 h)
theorem frX10_1 {c : Nat} (h : kdX c = 10) : rfX c 1 = some 52 := (show ∀ c ∈ ([0] : List Nat), rfX c 1 = some 52 from by decide +kernel) c (isX10 h)
theorem krX10_1 {c : Nat} (h : kdX c = 10) : kdX 52 = 9 := (show ∀ c ∈ ([0] : List Nat), kdX 52 = 9 from by decide +kernel) c (isX10 h)
theorem fiX10_2 {c : Nat} (h : kdX c = 10) : rfX c 2 = none := (show ∀ c ∈ ([0] : List Nat), rfX c 2 = none from by decide +kernel) c (isX10 h)
theorem frX10_3 {c : Nat} (h : kdX c = 10) : rfX c 3 = some 103 := (show ∀ c ∈ ([0] : List Nat), rfX c 3 = some 103 from by decide +kernel) c (isX10 h)
theorem krX10_3 {c : Nat} (h : kdX c = 10) : kdX 103 = 8 := (show ∀ c ∈ ([0] : List Nat), kdX 103 = 8 from by decide +kernel) c (isX10 h)
theorem frX10_4 {c : Nat} (h : kdX c = 10) : rfX c 4 = some 116 := (show ∀ c ∈ ([0] : List Nat), rfX c 4 = some 116 from by decide +kernel) c (isX10 h)
theorem krX10_4 {c : Nat} (h : kdX c = 10) : kdX 116 = 1 := (show ∀ c ∈ ([0] : List Nat), kdX 116 = 1 from by decide +kernel) c (isX10 h)
theorem frX10_5 {c : Nat} (h : kdX c = 10) : rfX c 5 = some 196 := (show ∀ c ∈ ([0] : List Nat), rfX c 5 = some 196 from by decide +kernel) c (isX10 h)
theorem krX10_5 {c : Nat} (h : kdX c = 10) : kdX 196 = 3 := (show ∀ c ∈ ([0] : List Nat), kdX 196 = 3 from by decide +kernel) c (isX10 h)
theorem frX10_6 {c : Nat} (h : kdX c = 10) : rfX c 6 = some 211 := (show ∀ c ∈ ([0] : List Nat), rfX c 6 = some 211 from by decide +kernel) c (isX10 h)
theorem krX10_6 {c : Nat} (h : kdX c = 10) : kdX 211 = 0 := (show ∀ c ∈ ([0] : List Nat), kdX 211 = 0 from by decide +kernel) c (isX10 h)
theorem frX10_7 {c : Nat} (h : kdX c = 10) : rfX c 7 = some 213 := (show ∀ c ∈ ([0] : List Nat), rfX c 7 = some 213 from by decide +kernel) c (isX10 h)
theorem krX10_7 {c : Nat} (h : kdX c = 10) : kdX 213 = 4 := (show ∀ c ∈ ([0] : List Nat), kdX 213 = 4 from by decide +kernel) c (isX10 h)
theorem isM11 {c : Nat} (h : kdM c = 11) : c ∈ ([0] : List Nat) := (show ∀ c, c < 21 → kdM c = 11 → c ∈ ([0] : List Nat) from by decide +kernel) c (ltM h (by decide)) h
theorem obM11 {c : Nat} (h : kdM c = 11) : lnM c = 37 := (show ∀ c ∈ ([0] : List Nat), lnM c = 37 from by decide +kernel) c (isM11 h)
theorem frM11_0 {c : Nat} (h : kdM c = 11) : rfM c 0 = some 1 := (show ∀ c ∈ ([0] : List Nat), rfM c 0 = some 1 from by decide +kernel) c (isM11 h)
theorem krM11_0 {c : Nat} (h : kdM c = 11) : kdM 1 = 20 := (show ∀ c ∈ ([0] : List Nat), kdM 1 = 20 from by decide +kernel) c (isM11 h)
theorem nrM11_0 {c : Nat} (h : kdM c = 11) : lnM 1 = 2244 := (show ∀ c ∈ ([0] : List Nat), lnM 1 = 2244 from by decide +kernel) c (isM11 h)
theorem frM11_1 {c : Nat} (h : kdM c = 11) : rfM c 1 = some 2 := (show ∀ c ∈ ([0] : List Nat), rfM c 1 = some 2 from by decide +kernel) c (isM11 h)
theorem krM11_1 {c : Nat} (h : kdM c = 11) : kdM 2 = 20 := (show ∀ c ∈ ([0] : List Nat), kdM 2 = 20 from by decide +kernel) c (isM11 h)
theorem nrM11_1 {c : Nat} (h : kdM c = 11) : lnM 2 = 2244 := (show ∀ c ∈ ([0] : List Nat), lnM 2 = 2244 from by decide +kernel) c (isM11 h)
theorem frM11_2 {c : Nat} (h : kdM c = 11) : rfM c 2 = some 3 := (show ∀ c ∈ ([0] : List Nat), rfM c 2 = some 3 from by decide +kernel) c (isM11 h)
theorem krM11_2 {c : Nat} (h : kdM c = 11) : kdM 3 = 20 := (show ∀ c ∈ ([0] : List Nat), kdM 3 = 20 from by decide +kernel) c (isM11 h)
theorem nrM11_2 {c : Nat} (h : kdM c = 11) : lnM 3 = 1530 := (show ∀ c ∈ ([0] : List Nat), lnM 3 = 1530 from by decide +kernel) c (isM11 h)
theorem frM11_3 {c : Nat} (h : kdM c = 11) : rfM c 3 = some 4 := (show ∀ c ∈ ([0] : List Nat), rfM c 3 = some 4 from by decide +kernel) c (isM11 h)
theorem krM11_3 {c : Nat} (h : kdM c = 11) : kdM 4 = 20 := (show ∀ c ∈ ([0] : List Nat), kdM 4 = 20 from by decide +kernel) c (isM11 h)
theorem nrM11_3 {c : Nat} (h : kdM c = 11) : lnM 4 = 255 := (show ∀ c ∈ ([0] : List Nat), lnM 4 = 255 from by decide +kernel) c (isM11 h)
theorem fiM11_4 {c : Nat} (h : kdM c = 11) : rfM c 4 = none := (show ∀ c ∈ ([0] : List Nat), rfM c 4 = none from by decide +kernel) c (isM11 h)
theorem fiM11_5 {c : Nat} (h : kdM c = 11) : rfM c 5 = none := (show ∀ c ∈ ([0] : List Nat), rfM c 5 = none from by decide +kernel) c (isM11 h)
theorem frM11_6 {c : Nat} (h : kdM c = 11) : rfM c 6 = some 5 := (show ∀ c ∈ ([0] : List Nat), rfM c 6 = some 5 from by decide +kernel) c (isM11 h)
theorem krM11_6 {c : Nat} (h : kdM c = 11) : kdM 5 = 20 := (show ∀ c ∈ ([0] : List Nat), kdM 5 = 20 from by decide +kernel) c (isM11 h)
theorem nrM11_6 {c : Nat} (h : kdM c = 11) : lnM 5 = 64 := (show ∀ c ∈ ([0] : List Nat), lnM 5 = 64 from by decide +kernel) c (isM11 h)
theorem frM11_7 {c : Nat} (h : kdM c = 11) : rfM c 7 = some 6 := (show ∀ c ∈ ([0] : List Nat), rfM c 7 = some 6 from by decide +kernel) c (isM11 h)
theorem krM11_7 {c : Nat} (h : kdM c = 11) : kdM 6 = 20 := (show ∀ c ∈ ([0] : List Nat), kdM 6 = 20 from by decide +kernel) c (isM11 h)
theorem nrM11_7 {c : Nat} (h : kdM c = 11) : lnM 6 = 820 := (show ∀ c ∈ ([0] : List Nat), lnM 6 = 820 from by decide +kernel) c (isM11 h)
theorem frM11_8 {c : Nat} (h : kdM c = 11) : rfM c 8 = some 7 := (show ∀ c ∈ ([0] : List Nat), rfM c 8 = some 7 from by decide +kernel) c (isM11 h)
theorem krM11_8 {c : Nat} (h : kdM c = 11) : kdM 7 = 20 := (show ∀ c ∈ ([0] : List Nat), kdM 7 = 20 from by decide +kernel) c (isM11 h)
theorem nrM11_8 {c : Nat} (h : kdM c = 11) : lnM 7 = 140 := (show ∀ c ∈ ([0] : List Nat), lnM 7 = 140 from by decide +kernel) c (isM11 h)
theorem frM11_9 {c : Nat} (h : kdM c = 11) : rfM c 9 = some 8 := (show ∀ c ∈ ([0] : List Nat), rfM c 9 = some 8 from by decide +kernel) c (isM11 h)
theorem krM11_9 {c : Nat} (h : kdM c = 11) : kdM 8 = 20 := (show ∀ c ∈ ([0] : List Nat), kdM 8 = 20 from by decide +kernel) c (isM11 h)
theorem nrM11_9 {c : Nat} (h : kdM c = 11) : lnM 8 = 400 := (show ∀ c ∈ ([0] : List Nat), lnM 8 = 400 from by decide +kernel) c (isM11 h)
theorem frM11_10 {c : Nat} (h : kdM c = 11) : rfM c 10 = some 9 := (show ∀ c ∈ ([0] : List Nat), rfM c 10 = some 9 from by decide +kernel) c (isM11 h)
theorem krM11_10 {c : Nat} (h : kdM c = 11) : kdM 9 = 20 := (show ∀ c ∈ ([0] : List Nat), kdM 9 = 20 from by decide +kernel) c (isM11 h)
theorem nrM11_10 {c : Nat} (h : kdM c = 11) : lnM 9 = 420 := (show ∀ c ∈ ([0] : List Nat), lnM 9 = 420 from by decide +kernel) c (isM11 h)
theorem frM11_11 {c : Nat} (h : kdM c = 11) : rfM c 11 = some 10 := (show ∀ c ∈ ([0] : List Nat), rfM c 11 = some 10 from by decide +kernel) c (isM11 h)
theorem krM11_11 {c : Nat} (h : kdM c = 11) : kdM 10 = 20 := (show ∀ c ∈ ([0] : List Nat), kdM 10 = 20 from by decide +kernel) c (isM11 h)
theorem nrM11_11 {c : Nat} (h : kdM c = 11) : lnM 10 = 11 := (show ∀ c ∈ ([0] : List Nat), lnM 10 = 11 from by decide +kernel) c (isM11 h)
theorem fiM11_12 {c : Nat} (h : kdM c = 11) : rfM c 12 = none := (show ∀ c ∈ ([0] : List Nat), rfM c 12 = none from by decide +kernel) c (isM11 h)
theorem fiM11_13 {c : Nat} (h : kdM c = 11) : rfM c 13 = none := (show ∀ c ∈ ([0] : List Nat), rfM c 13 = none from by decide +kernel) c (isM11 h)
theorem fiM11_14 {c : Nat} (h : kdM c = 11) : rfM c 14 = none := (show ∀ c ∈ ([0] : List Nat), rfM c 14 = none from by decide +kernel) c (isM11 h)
theorem fiM11_15 {c : Nat} (h : kdM c = 11) : rfM c 15 = none := (show ∀ c ∈ ([0] : List Nat), rfM c 15 = none from by decide +kernel) c (isM11 h)
theorem fiM11_16 {c : Nat} (h : kdM c = 11) : rfM c 16 = none := (show ∀ c ∈ ([0] : List Nat), rfM c 16 = none from by decide +kernel) c (isM11 h)
theorem fiM11_17 {c : Nat} (h : kdM c = 11) : rfM c 17 = none := (show ∀ c ∈ ([0] : List Nat), rfM c 17 = none from by decide +kernel) c (isM11 h)
theorem fiM11_18 {c : Nat} (h : kdM c = 11) : rfM c 18 = none := (show ∀ c ∈ ([0] : List Nat), rfM c 18 = none from by decide +kernel) c (isM11 h)
theorem fiM11_19 {c : Nat} (h : kdM c = 11) : rfM c 19 = none := (show ∀ c ∈ ([0] : List Nat), rfM c 19 = none from by decide +kernel) c (isM11 h)
theorem fiM11_20 {c : Nat} (h : kdM c = 11) : rfM c 20 = none := (show ∀ c ∈ ([0] : List Nat), rfM c 20 = none from by decide +kernel) c (isM11 h)
theorem fiM11_21 {c : Nat} (h : kdM c = 11) : rfM c 21 = none := (show ∀ c ∈ ([0] : List Nat), rfM c 21 = none from by decide +kernel) c (isM11 h)
theorem fiM11_22 {c : Nat} (h : kdM c = 11) : rfM c 22 = none := (show ∀ c ∈ ([0] : List Nat), rfM c 22 = none from by decide +kernel) c (isM11 h)
theorem fiM11_23 {c : Nat} (h : kdM c = 11) : rfM c 23 = none := (show ∀ c ∈ ([0] : List Nat), rfM c 23 = none from by decide +kernel) c (isM11 h)
theorem fiM11_24 {c : Nat} (h : kdM c = 11) : rfM c 24 = none := (show ∀ c ∈ ([0] : List Nat), rfM c 24 = none from by decide +kernel) c (isM11 h)
theorem fiM11_25 {c : Nat} (h : kdM c = 11) : rfM c 25 = none := (show ∀ c ∈ ([0] : List Nat), rfM c 25 = none from by decide +kernel) c (isM11 h)
theorem fiM11_26 {c : Nat} (h : kdM c = 11) : rfM c 26 = none := (show ∀ c ∈ ([0] : List Nat), rfM c 26 = none from by decide +kernel) c (isM11 h)
theorem frM11_27 {c : Nat} (h : kdM c = 11) : rfM c 27 = some 11 := (show ∀ c ∈ ([0] : List Nat), rfM c 27 = some 11 from by decide +kernel) c (isM11 h)
theorem krM11_27 {c : Nat} (h : kdM c = 11) : kdM 11 = 20 := (show ∀ c ∈ ([0] : List Nat), kdM 11 = 20 from by decide +kernel) c (isM11 h)
theorem nrM11_27 {c : Nat} (h : kdM c = 11) : lnM 11 = 8 := (show ∀ c ∈ ([0] : List Nat), lnM 11 = 8 from by decide +kernel) c (isM11 h)
theorem frM11_28 {c : Nat} (h : kdM c = 11) : rfM c 28 = some 12 := (show ∀ c ∈ ([0] : List Nat), rfM c 28 = some 12 from by decide +kernel) c (isM11 h)
theorem krM11_28 {c : Nat} (h : kdM c = 11) : kdM 12 = 21 := (show ∀ c ∈ ([0] : List Nat), kdM 12 = 21 from by decide +kernel) c (isM11 h)
theorem nrM11_28 {c : Nat} (h : kdM c = 11) : lnM 12 = 441 := (show ∀ c ∈ ([0] : List Nat), lnM 12 = 441 from by decide +kernel) c (isM11 h)
theorem frM11_29 {c : Nat} (h : kdM c = 11) : rfM c 29 = some 13 := (show ∀ c ∈ ([0] : List Nat), rfM c 29 = some 13 from by decide +kernel) c (isM11 h)
theorem krM11_29 {c : Nat} (h : kdM c = 11) : kdM 13 = 21 := (show ∀ c ∈ ([0] : List Nat), kdM 13 = 21 from by decide +kernel) c (isM11 h)
theorem nrM11_29 {c : Nat} (h : kdM c = 11) : lnM 13 = 441 := (show ∀ c ∈ ([0] : List Nat), lnM 13 = 441 from by decide +kernel) c (isM11 h)
theorem frM11_30 {c : Nat} (h : kdM c = 11) : rfM c 30 = some 14 := (show ∀ c ∈ ([0] : List Nat), rfM c 30 = some 14 from by decide +kernel) c (isM11 h)
theorem krM11_30 {c : Nat} (h : kdM c = 11) : kdM 14 = 20 := (show ∀ c ∈ ([0] : List Nat), kdM 14 = 20 from by decide +kernel) c (isM11 h)
theorem nrM11_30 {c : Nat} (h : kdM c = 11) : lnM 14 = 64 := (show ∀ c ∈ ([0] : List Nat), lnM 14 = 64 from by decide +kernel) c (isM11 h)
theorem frM11_31 {c : Nat} (h : kdM c = 11) : rfM c 31 = some 15 := (show ∀ c ∈ ([0] : List Nat), rfM c 31 = some 15 from by decide +kernel) c (isM11 h)
theorem krM11_31 {c : Nat} (h : kdM c = 11) : kdM 15 = 20 := (show ∀ c ∈ ([0] : List Nat), kdM 15 = 20 from by decide +kernel) c (isM11 h)
theorem nrM11_31 {c : Nat} (h : kdM c = 11) : lnM 15 = 256 := (show ∀ c ∈ ([0] : List Nat), lnM 15 = 256 from by decide +kernel) c (isM11 h)
theorem frM11_32 {c : Nat} (h : kdM c = 11) : rfM c 32 = some 16 := (show ∀ c ∈ ([0] : List Nat), rfM c 32 = some 16 from by decide +kernel) c (isM11 h)
theorem krM11_32 {c : Nat} (h : kdM c = 11) : kdM 16 = 20 := (show ∀ c ∈ ([0] : List Nat), kdM 16 = 20 from by decide +kernel) c (isM11 h)
theorem nrM11_32 {c : Nat} (h : kdM c = 11) : lnM 16 = 256 := (show ∀ c ∈ ([0] : List Nat), lnM 16 = 256 from by decide +kernel) c (isM11 h)
theorem frM11_33 {c : Nat} (h : kdM c = 11) : rfM c 33 = some 17 := (show ∀ c ∈ ([0] : List Nat), rfM c 33 = some 17 from by decide +kernel) c (isM11 h)
theorem krM11_33 {c : Nat} (h : kdM c = 11) : kdM 17 = 20 := (show ∀ c ∈ ([0] : List Nat), kdM 17 = 20 from by decide +kernel) c (isM11 h)
theorem nrM11_33 {c : Nat} (h : kdM c = 11) : lnM 17 = 169 := (show ∀ c ∈ ([0] : List Nat), lnM 17 = 169 from by decide +kernel) c (isM11 h)
theorem frM11_34 {c : Nat} (h : kdM c = 11) : rfM c 34 = some 18 := (show ∀ c ∈ ([0] : List Nat), rfM c 34 = some 18 from by decide +kernel) c (isM11 h)
theorem krM11_34 {c : Nat} (h : kdM c = 11) : kdM 18 = 20 := (show ∀ c ∈ ([0] : List Nat), kdM 18 = 20 from by decide +kernel) c (isM11 h)
theorem nrM11_34 {c : Nat} (h : kdM c = 11) : lnM 18 = 169 := (show ∀ c ∈ ([0] : List Nat), lnM 18 = 169 from by decide +kernel) c (isM11 h)
theorem frM11_35 {c : Nat} (h : kdM c = 11) : rfM c 35 = some 19 := (show ∀ c ∈ ([0] : List Nat), rfM c 35 = some 19 from by decide +kernel) c (isM11 h)
theorem krM11_35 {c : Nat} (h : kdM c = 11) : kdM 19 = 20 := (show ∀ c ∈ ([0] : List Nat), kdM 19 = 20 from by decide +kernel) c (isM11 h)
theorem nrM11_35 {c : Nat} (h : kdM c = 11) : lnM 19 = 5 := (show ∀ c ∈ ([0] : List Nat), lnM 19 = 5 from by decide +kernel) c (isM11 h)
theorem frM11_36 {c : Nat} (h : kdM c = 11) : rfM c 36 = some 20 := (show ∀ c ∈ ([0] : List Nat), rfM c 36 = some 20 from by decide +kernel) c (isM11 h)
theorem krM11_36 {c : Nat} (h : kdM c = 11) : kdM 20 = 21 := (show ∀ c ∈ ([0] : List Nat), kdM 20 = 21 from by decide +kernel) c (isM11 h)
theorem nrM11_36 {c : Nat} (h : kdM c = 11) : lnM 20 = 1024 := (show ∀ c ∈ ([0] : List Nat), lnM 20 = 1024 from by decide +kernel) c (isM11 h)
theorem cls0 : Cls 0 RX0 TX0 tyX0 2 := ⟨rfl, List.forall_mem_cons.mpr ⟨in_c2 172 rfl rfl, List.forall_mem_cons.mpr ⟨in_c2 174 rfl rfl, fun _ h => absurd h List.not_mem_nil⟩⟩, tyX0_ok, nmX0, by decide⟩
theorem cls1 : Cls 1 RX1 TX1 tyX1 3 := ⟨rfl, List.forall_mem_cons.mpr ⟨in_c2 85 rfl rfl, List.forall_mem_cons.mpr ⟨in_c2 87 rfl rfl, List.forall_mem_cons.mpr ⟨in_c2 89 rfl rfl, fun _ h => absurd h List.not_mem_nil⟩⟩⟩, tyX1_ok, nmX1, by decide⟩
theorem cls2 : Cls 2 RX2 TX2 tyX2 8 := ⟨rfl, List.forall_mem_cons.mpr ⟨in_c2 11 rfl rfl, List.forall_mem_cons.mpr ⟨in_c2 13 rfl rfl, List.forall_mem_cons.mpr ⟨in_c2 15 rfl rfl, List.forall_mem_cons.mpr ⟨in_c2 17 rfl rfl, List.forall_mem_cons.mpr ⟨in_c2 19 rfl rfl, List.forall_mem_cons.mpr ⟨in_c2 21 rfl rfl, List.forall_mem_cons.mpr ⟨in_c2 23 rfl rfl, List.forall_mem_cons.mpr ⟨in_c2 25 rfl rfl, fun _ h => absurd h List.not_mem_nil⟩⟩⟩⟩⟩⟩⟩⟩, tyX2_ok, nmX2, by decide⟩
theorem cls3 : Cls 3 RX3 TX3 tyX3 3 := ⟨rfl, List.forall_mem_cons.mpr ⟨in_c2 157 rfl rfl, List.forall_mem_cons.mpr ⟨in_c2 159 rfl rfl, List.forall_mem_cons.mpr ⟨in_c2 161 rfl rfl, fun _ h => absurd h List.not_mem_nil⟩⟩⟩, tyX3_ok, nmX3, by decide⟩
theorem cls4 : Cls 4 RX4 TX4 tyX4 11 := ⟨rfl, List.forall_mem_cons.mpr ⟨in_c2 194 rfl rfl, List.forall_mem_cons.mpr ⟨in_c2 196 rfl rfl, List.forall_mem_cons.mpr ⟨in_c2 198 rfl rfl, List.forall_mem_cons.mpr ⟨in_c2 200 rfl rfl, List.forall_mem_cons.mpr ⟨in_c2 202 rfl rfl, List.forall_mem_cons.mpr ⟨in_c2 204 rfl rfl, List.forall_mem_cons.mpr ⟨in_c2 206 rfl rfl, List.forall_mem_cons.mpr ⟨in_c2 208 rfl rfl, List.forall_mem_cons.mpr ⟨in_c2 210 rfl rfl, List.forall_mem_cons.mpr ⟨in_c2 212 rfl rfl, List.forall_mem_cons.mpr ⟨in_c2 214 rfl rfl, fun _ h => absurd h List.not_mem_nil⟩⟩⟩⟩⟩⟩⟩⟩⟩⟩⟩, tyX4_ok, nmX4, by decide⟩
theorem cls5 : Cls 5 RX5 TX5 tyX5 2 := ⟨rfl, List.forall_mem_cons.mpr ⟨in_c1 159 rfl rfl, List.forall_mem_cons.mpr ⟨in_c1 161 rfl rfl, fun _ h => absurd h List.not_mem_nil⟩⟩, tyX5_ok, nmX5, by decide⟩
theorem cls6 : Cls 6 RX6 TX6 tyX6 13 := ⟨rfl, List.forall_mem_cons.mpr ⟨in_c2 121 rfl rfl, List.forall_mem_cons.mpr ⟨in_c2 123 rfl rfl, List.forall_mem_cons.mpr ⟨in_c2 125 rfl rfl, List.forall_mem_cons.mpr ⟨in_c2 127 rfl rfl, List.forall_mem_cons.mpr ⟨in_c2 129 rfl rfl, List.forall_mem_cons.mpr ⟨in_c2 131 rfl rfl, List.forall_mem_cons.mpr ⟨in_c2 133 rfl rfl, List.forall_mem_cons.mpr ⟨in_c2 135 rfl rfl, List.forall_mem_cons.mpr ⟨in_c2 137 rfl rfl, List.forall_mem_cons.mpr ⟨in_c2 139 rfl rfl, List.forall_mem_cons.mpr ⟨in_c2 141 rfl rfl, List.forall_mem_cons.mpr ⟨in_c2 143 rfl rfl, List.forall_mem_cons.mpr ⟨in_c2 145 rfl rfl, fun _ h => absurd h List.not_mem_nil⟩⟩⟩⟩⟩⟩⟩⟩⟩⟩⟩⟩⟩, tyX6_ok, nmX6, by decide⟩
theorem cls7 : Cls 7 RX7 TX7 tyX7 14 := ⟨rfl, List.forall_mem_cons.mpr ⟨in_c1 206 rfl rfl, List.forall_mem_cons.mpr ⟨in_c1 208 rfl rfl, List.forall_mem_cons.mpr ⟨in_c1 210 rfl rfl, List.forall_mem_cons.mpr ⟨in_c1 212 rfl rfl, List.forall_mem_cons.mpr ⟨in_c1 214 rfl rfl, List.forall_mem_cons.mpr ⟨in_c1 216 rfl rfl, List.forall_mem_cons.mpr ⟨in_c1 218 rfl rfl, List.forall_mem_cons.mpr ⟨in_c1 220 rfl rfl, List.forall_mem_cons.mpr ⟨in_c1 222 rfl rfl, List.forall_mem_cons.mpr ⟨in_c1 224 rfl rfl, List.forall_mem_cons.mpr ⟨in_c1 226 rfl rfl, List.forall_mem_cons.mpr ⟨in_c1 228 rfl rfl, List.forall_mem_cons.mpr ⟨in_c1 230 rfl rfl, List.forall_mem_cons.mpr ⟨in_c1 232 rfl rfl, fun _ h => absurd h List.not_mem_nil⟩⟩⟩⟩⟩⟩⟩⟩⟩⟩⟩⟩⟩⟩, tyX7_ok, nmX7, by decide⟩
theorem cls8 : Cls 8 RX8 TX8 tyX8 19 := ⟨rfl, List.forall_mem_cons.mpr ⟨in_c1 100 rfl rfl, List.forall_mem_cons.mpr ⟨in_c1 102 rfl rfl, List.forall_mem_cons.mpr ⟨in_c1 104 rfl rfl, List.forall_mem_cons.mpr ⟨in_c1 106 rfl rfl, List.forall_mem_cons.mpr ⟨in_c1 108 rfl rfl, List.forall_mem_cons.mpr ⟨in_c1 110 rfl rfl, List.forall_mem_cons.mpr ⟨in_c1 112 rfl rfl, List.forall_mem_cons.mpr ⟨in_c1 114 rfl rfl, List.forall_mem_cons.mpr ⟨in_c1 116 rfl rfl, List.forall_mem_cons.mpr ⟨in_c1 118 rfl rfl, List.forall_mem_cons.mpr ⟨in_c1 120 rfl rfl, List.forall_mem_cons.mpr ⟨in_c1 122 rfl rfl, List.forall_mem_cons.mpr ⟨in_c1 124 rfl rfl, List.forall_mem_cons.mpr ⟨in_c1 126 rfl rfl, List.forall_mem_cons.mpr ⟨in_c1 128 rfl rfl, List.forall_mem_cons.mpr ⟨in_c1 130 rfl rfl, List.forall_mem_cons.mpr ⟨in_c1 132 rfl rfl, List.forall_mem_cons.mpr ⟨in_c1 134 rfl rfl, List.forall_mem_cons.mpr ⟨in_c1 136 rfl rfl, fun _ h => absurd h List.not_mem_nil⟩⟩⟩⟩⟩⟩⟩⟩⟩⟩⟩⟩⟩⟩⟩⟩⟩⟩⟩, tyX8_ok, nmX8, by decide⟩
theorem cls9 : Cls 9 RX9 TX9 tyX9 9 := ⟨rfl, List.forall_mem_cons.mpr ⟨in_c2 51 rfl rfl, List.forall_mem_cons.mpr ⟨in_c2 53 rfl rfl, List.forall_mem_cons.mpr ⟨in_c2 55 rfl rfl, List.forall_mem_cons.mpr ⟨in_c2 57 rfl rfl, List.forall_mem_cons.mpr ⟨in_c2 59 rfl rfl, List.forall_mem_cons.mpr ⟨in_c2 61 rfl rfl, List.forall_mem_cons.mpr ⟨in_c2 63 rfl rfl, List.forall_mem_cons.mpr ⟨in_c2 65 rfl rfl, List.forall_mem_cons.mpr ⟨in_c2 67 rfl rfl, fun _ h => absurd h List.not_mem_nil⟩⟩⟩⟩⟩⟩⟩⟩⟩, tyX9_ok, nmX9, by decide⟩
theorem cls10 : Cls 10 RX10 TX10 tyX10 8 := ⟨rfl, List.forall_mem_cons.mpr ⟨in_c2 226 rfl rfl, List.forall_mem_cons.mpr ⟨in_c2 228 rfl rfl, List.forall_mem_cons.mpr ⟨in_c2 230 rfl rfl, List.forall_mem_cons.mpr ⟨in_c2 232 rfl rfl, List.forall_mem_cons.mpr ⟨in_c2 234 rfl rfl, List.forall_mem_cons.mpr ⟨in_c2 236 rfl rfl, List.forall_mem_cons.mpr ⟨in_c2 238 rfl rfl, List.forall_mem_cons.mpr ⟨in_c3 0 rfl rfl, fun _ h => absurd h List.not_mem_nil⟩⟩⟩⟩⟩⟩⟩⟩, tyX10_ok, nmX10, by decide⟩
theorem cls11 : Cls 11 RX11 TX11 tyX11 37 := ⟨rfl, List.forall_mem_cons.mpr ⟨in_c7 17 rfl rfl, List.forall_mem_cons.mpr ⟨in_c7 19 rfl rfl, List.forall_mem_cons.mpr ⟨in_c7 21 rfl rfl, List.forall_mem_cons.mpr ⟨in_c7 23 rfl rfl, List.forall_mem_cons.mpr ⟨in_c7 25 rfl rfl, List.forall_mem_cons.mpr ⟨in_c7 27 rfl rfl, List.forall_mem_cons.mpr ⟨in_c7 29 rfl rfl, List.forall_mem_cons.mpr ⟨in_c7 31 rfl rfl, List.forall_mem_cons.mpr ⟨in_c7 33 rfl rfl, List.forall_mem_cons.mpr ⟨in_c7 35 rfl rfl, List.forall_mem_cons.mpr ⟨in_c7 37 rfl rfl, List.forall_mem_cons.mpr ⟨in_c7 39 rfl rfl, List.forall_mem_cons.mpr ⟨in_c7 41 rfl rfl, List.forall_mem_cons.mpr ⟨in_c7 43 rfl rfl, List.forall_mem_cons.mpr ⟨in_c7 45 rfl rfl, List.forall_mem_cons.mpr ⟨in_c7 47 rfl rfl, List.forall_mem_cons.mpr ⟨in_c7 49 rfl rfl, List.forall_mem_cons.mpr ⟨in_c7 51 rfl rfl, List.forall_mem_cons.mpr ⟨in_c7 53 rfl rfl, List.forall_mem_cons.mpr ⟨in_c7 55 rfl rfl, List.forall_mem_cons.mpr ⟨in_c7 57 rfl rfl, List.forall_mem_cons.mpr ⟨in_c7 59 rfl rfl, List.forall_mem_cons.mpr ⟨in_c7 61 rfl rfl, List.forall_mem_cons.mpr ⟨in_c7 63 rfl rfl, List.forall_mem_cons.mpr ⟨in_c7 65 rfl rfl, List.forall_mem_cons.mpr ⟨in_c7 67 rfl rfl, List.forall_mem_cons.mpr ⟨in_c7 69 rfl rfl, List.forall_mem_cons.mpr ⟨in_c7 71 rfl rfl, List.forall_mem_cons.mpr ⟨in_c7 73 rfl rfl, List.forall_mem_cons.mpr ⟨in_c7 75 rfl rfl, List.forall_mem_cons.mpr ⟨in_c7 77 rfl rfl, List.forall_mem_cons.mpr ⟨in_c7 79 rfl rfl, List.forall_mem_cons.mpr ⟨in_c7 81 rfl rfl, List.forall_mem_cons.mpr ⟨in_c7 83 rfl rfl, List.forall_mem_cons.mpr ⟨in_c7 85 rfl rfl, List.forall_mem_cons.mpr ⟨in_c7 87 rfl rfl, List.forall_mem_cons.mpr ⟨in_c7 89 rfl rfl, fun _ h => absurd h List.not_mem_nil⟩⟩⟩⟩⟩⟩⟩⟩⟩⟩⟩⟩⟩⟩⟩⟩⟩⟩⟩⟩⟩⟩⟩⟩⟩⟩⟩⟩⟩⟩⟩⟩⟩⟩⟩⟩⟩, tyX11_ok, nmX11, by decide⟩
theorem fl8_9 : Jvm.Cond.fieldLink RX8 9 (TX8 0).1 (TX8 0).2.1 (TX8 0).2.2.1 ∈ lw_g := in_c1 42 rfl rfl
theorem fl4_56 : Jvm.Cond.fieldLink RX4 56 (TX8 0).1 (TX8 0).2.1 (TX8 0).2.2.1 ∈ lw_g := in_c1 43 rfl rfl
theorem fl10_74 : Jvm.Cond.fieldLink RX10 74 (TX8 0).1 (TX8 0).2.1 (TX8 0).2.2.1 ∈ lw_g := in_c1 44 rfl rfl
theorem fl3_145 : Jvm.Cond.fieldLink RX3 145 (TX8 0).1 (TX8 0).2.1 (TX8 0).2.2.1 ∈ lw_g := in_c1 45 rfl rfl
theorem fl8_15 : Jvm.Cond.fieldLink RX8 15 (TX8 1).1 (TX8 1).2.1 (TX8 1).2.2.1 ∈ lw_g := in_c1 46 rfl rfl
theorem fl0_64 : Jvm.Cond.fieldLink RX0 64 (TX8 1).1 (TX8 1).2.1 (TX8 1).2.2.1 ∈ lw_g := in_c1 47 rfl rfl
theorem fl10_81 : Jvm.Cond.fieldLink RX10 81 (TX8 1).1 (TX8 1).2.1 (TX8 1).2.2.1 ∈ lw_g := in_c1 48 rfl rfl
theorem fl3_157 : Jvm.Cond.fieldLink RX3 157 (TX8 1).1 (TX8 1).2.1 (TX8 1).2.2.1 ∈ lw_g := in_c1 49 rfl rfl
theorem fl8_18 : Jvm.Cond.fieldLink RX8 18 (TX8 2).1 (TX8 2).2.1 (TX8 2).2.2.1 ∈ lw_g := in_c1 50 rfl rfl
theorem fl0_133 : Jvm.Cond.fieldLink RX0 133 (TX8 2).1 (TX8 2).2.1 (TX8 2).2.2.1 ∈ lw_g := in_c1 51 rfl rfl
theorem fl10_240 : Jvm.Cond.fieldLink RX10 240 (TX8 2).1 (TX8 2).2.1 (TX8 2).2.2.1 ∈ lw_g := in_c1 52 rfl rfl
theorem fl8_21 : Jvm.Cond.fieldLink RX8 21 (TX8 3).1 (TX8 3).2.1 (TX8 3).2.2.1 ∈ lw_g := in_c1 53 rfl rfl
theorem fl0_136 : Jvm.Cond.fieldLink RX0 136 (TX8 3).1 (TX8 3).2.1 (TX8 3).2.2.1 ∈ lw_g := in_c1 54 rfl rfl
theorem fl10_409 : Jvm.Cond.fieldLink RX10 409 (TX8 3).1 (TX8 3).2.1 (TX8 3).2.2.1 ∈ lw_g := in_c1 55 rfl rfl
theorem fl8_24 : Jvm.Cond.fieldLink RX8 24 (TX8 4).1 (TX8 4).2.1 (TX8 4).2.2.1 ∈ lw_g := in_c1 56 rfl rfl
theorem fl0_57 : Jvm.Cond.fieldLink RX0 57 (TX8 4).1 (TX8 4).2.1 (TX8 4).2.2.1 ∈ lw_g := in_c1 57 rfl rfl
theorem fl10_102 : Jvm.Cond.fieldLink RX10 102 (TX8 4).1 (TX8 4).2.1 (TX8 4).2.2.1 ∈ lw_g := in_c1 58 rfl rfl
theorem fl9_98 : Jvm.Cond.fieldLink RX9 98 (TX8 4).1 (TX8 4).2.1 (TX8 4).2.2.1 ∈ lw_g := in_c1 59 rfl rfl
theorem fl8_27 : Jvm.Cond.fieldLink RX8 27 (TX8 5).1 (TX8 5).2.1 (TX8 5).2.2.1 ∈ lw_g := in_c1 60 rfl rfl
theorem fl10_63 : Jvm.Cond.fieldLink RX10 63 (TX8 5).1 (TX8 5).2.1 (TX8 5).2.2.1 ∈ lw_g := in_c1 61 rfl rfl
theorem fl8_30 : Jvm.Cond.fieldLink RX8 30 (TX8 6).1 (TX8 6).2.1 (TX8 6).2.2.1 ∈ lw_g := in_c1 62 rfl rfl
theorem fl9_94 : Jvm.Cond.fieldLink RX9 94 (TX8 6).1 (TX8 6).2.1 (TX8 6).2.2.1 ∈ lw_g := in_c1 63 rfl rfl
theorem fl10_228 : Jvm.Cond.fieldLink RX10 228 (TX8 6).1 (TX8 6).2.1 (TX8 6).2.2.1 ∈ lw_g := in_c1 64 rfl rfl
theorem fl8_33 : Jvm.Cond.fieldLink RX8 33 (TX8 7).1 (TX8 7).2.1 (TX8 7).2.2.1 ∈ lw_g := in_c1 65 rfl rfl
theorem fl0_97 : Jvm.Cond.fieldLink RX0 97 (TX8 7).1 (TX8 7).2.1 (TX8 7).2.2.1 ∈ lw_g := in_c1 66 rfl rfl
theorem fl10_207 : Jvm.Cond.fieldLink RX10 207 (TX8 7).1 (TX8 7).2.1 (TX8 7).2.2.1 ∈ lw_g := in_c1 67 rfl rfl
theorem fl8_37 : Jvm.Cond.fieldLink RX8 37 (TX8 8).1 (TX8 8).2.1 (TX8 8).2.2.1 ∈ lw_g := in_c1 68 rfl rfl
theorem fl9_91 : Jvm.Cond.fieldLink RX9 91 (TX8 8).1 (TX8 8).2.1 (TX8 8).2.2.1 ∈ lw_g := in_c1 69 rfl rfl
theorem fl0_139 : Jvm.Cond.fieldLink RX0 139 (TX8 8).1 (TX8 8).2.1 (TX8 8).2.2.1 ∈ lw_g := in_c1 70 rfl rfl
theorem fl10_210 : Jvm.Cond.fieldLink RX10 210 (TX8 8).1 (TX8 8).2.1 (TX8 8).2.2.1 ∈ lw_g := in_c1 71 rfl rfl
theorem fl8_40 : Jvm.Cond.fieldLink RX8 40 (TX8 9).1 (TX8 9).2.1 (TX8 9).2.2.1 ∈ lw_g := in_c1 72 rfl rfl
theorem fl10_105 : Jvm.Cond.fieldLink RX10 105 (TX8 9).1 (TX8 9).2.1 (TX8 9).2.2.1 ∈ lw_g := in_c1 73 rfl rfl
theorem fl0_148 : Jvm.Cond.fieldLink RX0 148 (TX8 9).1 (TX8 9).2.1 (TX8 9).2.2.1 ∈ lw_g := in_c1 74 rfl rfl
theorem fl8_43 : Jvm.Cond.fieldLink RX8 43 (TX8 10).1 (TX8 10).2.1 (TX8 10).2.2.1 ∈ lw_g := in_c1 75 rfl rfl
theorem fl10_213 : Jvm.Cond.fieldLink RX10 213 (TX8 10).1 (TX8 10).2.1 (TX8 10).2.2.1 ∈ lw_g := in_c1 76 rfl rfl
theorem fl0_163 : Jvm.Cond.fieldLink RX0 163 (TX8 10).1 (TX8 10).2.1 (TX8 10).2.2.1 ∈ lw_g := in_c1 77 rfl rfl
theorem fl8_46 : Jvm.Cond.fieldLink RX8 46 (TX8 11).1 (TX8 11).2.1 (TX8 11).2.2.1 ∈ lw_g := in_c1 78 rfl rfl
theorem fl10_172 : Jvm.Cond.fieldLink RX10 172 (TX8 11).1 (TX8 11).2.1 (TX8 11).2.2.1 ∈ lw_g := in_c1 79 rfl rfl
theorem fl0_179 : Jvm.Cond.fieldLink RX0 179 (TX8 11).1 (TX8 11).2.1 (TX8 11).2.2.1 ∈ lw_g := in_c1 80 rfl rfl
theorem fl8_49 : Jvm.Cond.fieldLink RX8 49 (TX8 12).1 (TX8 12).2.1 (TX8 12).2.2.1 ∈ lw_g := in_c1 81 rfl rfl
theorem fl0_78 : Jvm.Cond.fieldLink RX0 78 (TX8 12).1 (TX8 12).2.1 (TX8 12).2.2.1 ∈ lw_g := in_c1 82 rfl rfl
theorem fl10_175 : Jvm.Cond.fieldLink RX10 175 (TX8 12).1 (TX8 12).2.1 (TX8 12).2.2.1 ∈ lw_g := in_c1 83 rfl rfl
theorem fl8_52 : Jvm.Cond.fieldLink RX8 52 (TX8 13).1 (TX8 13).2.1 (TX8 13).2.2.1 ∈ lw_g := in_c1 84 rfl rfl
theorem fl10_178 : Jvm.Cond.fieldLink RX10 178 (TX8 13).1 (TX8 13).2.1 (TX8 13).2.2.1 ∈ lw_g := in_c1 85 rfl rfl
theorem fl0_182 : Jvm.Cond.fieldLink RX0 182 (TX8 13).1 (TX8 13).2.1 (TX8 13).2.2.1 ∈ lw_g := in_c1 86 rfl rfl
theorem fl8_55 : Jvm.Cond.fieldLink RX8 55 (TX8 14).1 (TX8 14).2.1 (TX8 14).2.2.1 ∈ lw_g := in_c1 87 rfl rfl
theorem fl0_84 : Jvm.Cond.fieldLink RX0 84 (TX8 14).1 (TX8 14).2.1 (TX8 14).2.2.1 ∈ lw_g := in_c1 88 rfl rfl
theorem fl10_181 : Jvm.Cond.fieldLink RX10 181 (TX8 14).1 (TX8 14).2.1 (TX8 14).2.2.1 ∈ lw_g := in_c1 89 rfl rfl
theorem fl8_58 : Jvm.Cond.fieldLink RX8 58 (TX8 15).1 (TX8 15).2.1 (TX8 15).2.2.1 ∈ lw_g := in_c1 90 rfl rfl
theorem fl0_113 : Jvm.Cond.fieldLink RX0 113 (TX8 15).1 (TX8 15).2.1 (TX8 15).2.2.1 ∈ lw_g := in_c1 91 rfl rfl
theorem fl10_184 : Jvm.Cond.fieldLink RX10 184 (TX8 15).1 (TX8 15).2.1 (TX8 15).2.2.1 ∈ lw_g := in_c1 92 rfl rfl
theorem fl8_61 : Jvm.Cond.fieldLink RX8 61 (TX8 16).1 (TX8 16).2.1 (TX8 16).2.2.1 ∈ lw_g := in_c1 93 rfl rfl
theorem fl0_39 : Jvm.Cond.fieldLink RX0 39 (TX8 16).1 (TX8 16).2.1 (TX8 16).2.2.1 ∈ lw_g := in_c1 94 rfl rfl
theorem fl10_187 : Jvm.Cond.fieldLink RX10 187 (TX8 16).1 (TX8 16).2.1 (TX8 16).2.2.1 ∈ lw_g := in_c1 95 rfl rfl
theorem fl8_64 : Jvm.Cond.fieldLink RX8 64 (TX8 17).1 (TX8 17).2.1 (TX8 17).2.2.1 ∈ lw_g := in_c1 96 rfl rfl
theorem fl0_87 : Jvm.Cond.fieldLink RX0 87 (TX8 17).1 (TX8 17).2.1 (TX8 17).2.2.1 ∈ lw_g := in_c1 97 rfl rfl
theorem fl10_190 : Jvm.Cond.fieldLink RX10 190 (TX8 17).1 (TX8 17).2.1 (TX8 17).2.2.1 ∈ lw_g := in_c1 98 rfl rfl
theorem fl8_67 : Jvm.Cond.fieldLink RX8 67 (TX8 18).1 (TX8 18).2.1 (TX8 18).2.2.1 ∈ lw_g := in_c1 99 rfl rfl
theorem fl5_9 : Jvm.Cond.fieldLink RX5 9 (TX5 0).1 (TX5 0).2.1 (TX5 0).2.2.1 ∈ lw_g := in_c1 155 rfl rfl
theorem fl4_68 : Jvm.Cond.fieldLink RX4 68 (TX5 0).1 (TX5 0).2.1 (TX5 0).2.2.1 ∈ lw_g := in_c1 156 rfl rfl
theorem fl10_381 : Jvm.Cond.fieldLink RX10 381 (TX5 0).1 (TX5 0).2.1 (TX5 0).2.2.1 ∈ lw_g := in_c1 157 rfl rfl
theorem fl5_21 : Jvm.Cond.fieldLink RX5 21 (TX5 1).1 (TX5 1).2.1 (TX5 1).2.2.1 ∈ lw_g := in_c1 158 rfl rfl
theorem fl7_14 : Jvm.Cond.fieldLink RX7 14 (TX7 0).1 (TX7 0).2.1 (TX7 0).2.2.1 ∈ lw_g := in_c1 164 rfl rfl
theorem fl4_62 : Jvm.Cond.fieldLink RX4 62 (TX7 0).1 (TX7 0).2.1 (TX7 0).2.2.1 ∈ lw_g := in_c1 165 rfl rfl
theorem fl10_247 : Jvm.Cond.fieldLink RX10 247 (TX7 0).1 (TX7 0).2.1 (TX7 0).2.2.1 ∈ lw_g := in_c1 166 rfl rfl
theorem fl7_20 : Jvm.Cond.fieldLink RX7 20 (TX7 1).1 (TX7 1).2.1 (TX7 1).2.2.1 ∈ lw_g := in_c1 167 rfl rfl
theorem fl4_95 : Jvm.Cond.fieldLink RX4 95 (TX7 1).1 (TX7 1).2.1 (TX7 1).2.2.1 ∈ lw_g := in_c1 168 rfl rfl
theorem fl10_274 : Jvm.Cond.fieldLink RX10 274 (TX7 1).1 (TX7 1).2.1 (TX7 1).2.2.1 ∈ lw_g := in_c1 169 rfl rfl
theorem fl7_23 : Jvm.Cond.fieldLink RX7 23 (TX7 2).1 (TX7 2).2.1 (TX7 2).2.2.1 ∈ lw_g := in_c1 170 rfl rfl
theorem fl4_98 : Jvm.Cond.fieldLink RX4 98 (TX7 2).1 (TX7 2).2.1 (TX7 2).2.2.1 ∈ lw_g := in_c1 171 rfl rfl
theorem fl10_283 : Jvm.Cond.fieldLink RX10 283 (TX7 2).1 (TX7 2).2.1 (TX7 2).2.2.1 ∈ lw_g := in_c1 172 rfl rfl
theorem fl7_26 : Jvm.Cond.fieldLink RX7 26 (TX7 3).1 (TX7 3).2.1 (TX7 3).2.2.1 ∈ lw_g := in_c1 173 rfl rfl
theorem fl4_155 : Jvm.Cond.fieldLink RX4 155 (TX7 3).1 (TX7 3).2.1 (TX7 3).2.2.1 ∈ lw_g := in_c1 174 rfl rfl
theorem fl10_330 : Jvm.Cond.fieldLink RX10 330 (TX7 3).1 (TX7 3).2.1 (TX7 3).2.2.1 ∈ lw_g := in_c1 175 rfl rfl
theorem fl7_29 : Jvm.Cond.fieldLink RX7 29 (TX7 4).1 (TX7 4).2.1 (TX7 4).2.2.1 ∈ lw_g := in_c1 176 rfl rfl
theorem fl4_161 : Jvm.Cond.fieldLink RX4 161 (TX7 4).1 (TX7 4).2.1 (TX7 4).2.2.1 ∈ lw_g := in_c1 177 rfl rfl
theorem fl10_345 : Jvm.Cond.fieldLink RX10 345 (TX7 4).1 (TX7 4).2.1 (TX7 4).2.2.1 ∈ lw_g := in_c1 178 rfl rfl
theorem fl7_32 : Jvm.Cond.fieldLink RX7 32 (TX7 5).1 (TX7 5).2.1 (TX7 5).2.2.1 ∈ lw_g := in_c1 179 rfl rfl
theorem fl4_170 : Jvm.Cond.fieldLink RX4 170 (TX7 5).1 (TX7 5).2.1 (TX7 5).2.2.1 ∈ lw_g := in_c1 180 rfl rfl
theorem fl10_363 : Jvm.Cond.fieldLink RX10 363 (TX7 5).1 (TX7 5).2.1 (TX7 5).2.2.1 ∈ lw_g := in_c1 181 rfl rfl
theorem fl7_35 : Jvm.Cond.fieldLink RX7 35 (TX7 6).1 (TX7 6).2.1 (TX7 6).2.2.1 ∈ lw_g := in_c1 182 rfl rfl
theorem fl4_177 : Jvm.Cond.fieldLink RX4 177 (TX7 6).1 (TX7 6).2.1 (TX7 6).2.2.1 ∈ lw_g := in_c1 183 rfl rfl
theorem fl10_372 : Jvm.Cond.fieldLink RX10 372 (TX7 6).1 (TX7 6).2.1 (TX7 6).2.2.1 ∈ lw_g := in_c1 184 rfl rfl
theorem fl7_38 : Jvm.Cond.fieldLink RX7 38 (TX7 7).1 (TX7 7).2.1 (TX7 7).2.2.1 ∈ lw_g := in_c1 185 rfl rfl
theorem fl4_180 : Jvm.Cond.fieldLink RX4 180 (TX7 7).1 (TX7 7).2.1 (TX7 7).2.2.1 ∈ lw_g := in_c1 186 rfl rfl
theorem fl10_375 : Jvm.Cond.fieldLink RX10 375 (TX7 7).1 (TX7 7).2.1 (TX7 7).2.2.1 ∈ lw_g := in_c1 187 rfl rfl
theorem fl7_41 : Jvm.Cond.fieldLink RX7 41 (TX7 8).1 (TX7 8).2.1 (TX7 8).2.2.1 ∈ lw_g := in_c1 188 rfl rfl
theorem fl4_197 : Jvm.Cond.fieldLink RX4 197 (TX7 8).1 (TX7 8).2.1 (TX7 8).2.2.1 ∈ lw_g := in_c1 189 rfl rfl
theorem fl10_387 : Jvm.Cond.fieldLink RX10 387 (TX7 8).1 (TX7 8).2.1 (TX7 8).2.2.1 ∈ lw_g := in_c1 190 rfl rfl
theorem fl7_44 : Jvm.Cond.fieldLink RX7 44 (TX7 9).1 (TX7 9).2.1 (TX7 9).2.2.1 ∈ lw_g := in_c1 191 rfl rfl
theorem fl4_87 : Jvm.Cond.fieldLink RX4 87 (TX7 9).1 (TX7 9).2.1 (TX7 9).2.2.1 ∈ lw_g := in_c1 192 rfl rfl
theorem fl10_261 : Jvm.Cond.fieldLink RX10 261 (TX7 9).1 (TX7 9).2.1 (TX7 9).2.2.1 ∈ lw_g := in_c1 193 rfl rfl
theorem fl7_48 : Jvm.Cond.fieldLink RX7 48 (TX7 10).1 (TX7 10).2.1 (TX7 10).2.2.1 ∈ lw_g := in_c1 194 rfl rfl
theorem fl4_116 : Jvm.Cond.fieldLink RX4 116 (TX7 10).1 (TX7 10).2.1 (TX7 10).2.2.1 ∈ lw_g := in_c1 195 rfl rfl
theorem fl10_292 : Jvm.Cond.fieldLink RX10 292 (TX7 10).1 (TX7 10).2.1 (TX7 10).2.2.1 ∈ lw_g := in_c1 196 rfl rfl
theorem fl7_51 : Jvm.Cond.fieldLink RX7 51 (TX7 11).1 (TX7 11).2.1 (TX7 11).2.2.1 ∈ lw_g := in_c1 197 rfl rfl
theorem fl4_119 : Jvm.Cond.fieldLink RX4 119 (TX7 11).1 (TX7 11).2.1 (TX7 11).2.2.1 ∈ lw_g := in_c1 198 rfl rfl
theorem fl10_295 : Jvm.Cond.fieldLink RX10 295 (TX7 11).1 (TX7 11).2.1 (TX7 11).2.2.1 ∈ lw_g := in_c1 199 rfl rfl
theorem fl7_54 : Jvm.Cond.fieldLink RX7 54 (TX7 12).1 (TX7 12).2.1 (TX7 12).2.2.1 ∈ lw_g := in_c1 200 rfl rfl
theorem fl4_146 : Jvm.Cond.fieldLink RX4 146 (TX7 12).1 (TX7 12).2.1 (TX7 12).2.2.1 ∈ lw_g := in_c1 201 rfl rfl
theorem fl10_321 : Jvm.Cond.fieldLink RX10 321 (TX7 12).1 (TX7 12).2.1 (TX7 12).2.2.1 ∈ lw_g := in_c1 202 rfl rfl
theorem fl7_57 : Jvm.Cond.fieldLink RX7 57 (TX7 13).1 (TX7 13).2.1 (TX7 13).2.2.1 ∈ lw_g := in_c1 203 rfl rfl
theorem fl4_164 : Jvm.Cond.fieldLink RX4 164 (TX7 13).1 (TX7 13).2.1 (TX7 13).2.2.1 ∈ lw_g := in_c1 204 rfl rfl
theorem fl10_357 : Jvm.Cond.fieldLink RX10 357 (TX7 13).1 (TX7 13).2.1 (TX7 13).2.2.1 ∈ lw_g := in_c1 205 rfl rfl
theorem fl2_9 : Jvm.Cond.fieldLink RX2 9 (TX2 0).1 (TX2 0).2.1 (TX2 0).2.2.1 ∈ lw_g := in_c2 1 rfl rfl
theorem fl3_50 : Jvm.Cond.fieldLink RX3 50 (TX2 0).1 (TX2 0).2.1 (TX2 0).2.2.1 ∈ lw_g := in_c2 2 rfl rfl
theorem fl10_418 : Jvm.Cond.fieldLink RX10 418 (TX2 0).1 (TX2 0).2.1 (TX2 0).2.2.1 ∈ lw_g := in_c2 3 rfl rfl
theorem fl2_15 : Jvm.Cond.fieldLink RX2 15 (TX2 1).1 (TX2 1).2.1 (TX2 1).2.2.1 ∈ lw_g := in_c2 4 rfl rfl
theorem fl2_18 : Jvm.Cond.fieldLink RX2 18 (TX2 2).1 (TX2 2).2.1 (TX2 2).2.2.1 ∈ lw_g := in_c2 5 rfl rfl
theorem fl2_22 : Jvm.Cond.fieldLink RX2 22 (TX2 3).1 (TX2 3).2.1 (TX2 3).2.2.1 ∈ lw_g := in_c2 6 rfl rfl
theorem fl2_25 : Jvm.Cond.fieldLink RX2 25 (TX2 4).1 (TX2 4).2.1 (TX2 4).2.2.1 ∈ lw_g := in_c2 7 rfl rfl
theorem fl2_28 : Jvm.Cond.fieldLink RX2 28 (TX2 5).1 (TX2 5).2.1 (TX2 5).2.2.1 ∈ lw_g := in_c2 8 rfl rfl
theorem fl2_31 : Jvm.Cond.fieldLink RX2 31 (TX2 6).1 (TX2 6).2.1 (TX2 6).2.2.1 ∈ lw_g := in_c2 9 rfl rfl
theorem fl2_34 : Jvm.Cond.fieldLink RX2 34 (TX2 7).1 (TX2 7).2.1 (TX2 7).2.2.1 ∈ lw_g := in_c2 10 rfl rfl
theorem fl9_12 : Jvm.Cond.fieldLink RX9 12 (TX9 0).1 (TX9 0).2.1 (TX9 0).2.2.1 ∈ lw_g := in_c2 32 rfl rfl
theorem fl10_60 : Jvm.Cond.fieldLink RX10 60 (TX9 0).1 (TX9 0).2.1 (TX9 0).2.2.1 ∈ lw_g := in_c2 33 rfl rfl
theorem fl0_19 : Jvm.Cond.fieldLink RX0 19 (TX9 0).1 (TX9 0).2.1 (TX9 0).2.2.1 ∈ lw_g := in_c2 34 rfl rfl
theorem fl4_52 : Jvm.Cond.fieldLink RX4 52 (TX9 0).1 (TX9 0).2.1 (TX9 0).2.2.1 ∈ lw_g := in_c2 35 rfl rfl
theorem fl9_21 : Jvm.Cond.fieldLink RX9 21 (TX9 1).1 (TX9 1).2.1 (TX9 1).2.2.1 ∈ lw_g := in_c2 36 rfl rfl
theorem fl4_45 : Jvm.Cond.fieldLink RX4 45 (TX9 1).1 (TX9 1).2.1 (TX9 1).2.2.1 ∈ lw_g := in_c2 37 rfl rfl
theorem fl10_243 : Jvm.Cond.fieldLink RX10 243 (TX9 1).1 (TX9 1).2.1 (TX9 1).2.2.1 ∈ lw_g := in_c2 38 rfl rfl
theorem fl9_28 : Jvm.Cond.fieldLink RX9 28 (TX9 2).1 (TX9 2).2.1 (TX9 2).2.2.1 ∈ lw_g := in_c2 39 rfl rfl
theorem fl10_142 : Jvm.Cond.fieldLink RX10 142 (TX9 2).1 (TX9 2).2.1 (TX9 2).2.2.1 ∈ lw_g := in_c2 40 rfl rfl
theorem fl0_169 : Jvm.Cond.fieldLink RX0 169 (TX9 2).1 (TX9 2).2.1 (TX9 2).2.2.1 ∈ lw_g := in_c2 41 rfl rfl
theorem fl9_32 : Jvm.Cond.fieldLink RX9 32 (TX9 3).1 (TX9 3).2.1 (TX9 3).2.2.1 ∈ lw_g := in_c2 42 rfl rfl
theorem fl10_231 : Jvm.Cond.fieldLink RX10 231 (TX9 3).1 (TX9 3).2.1 (TX9 3).2.2.1 ∈ lw_g := in_c2 43 rfl rfl
theorem fl9_36 : Jvm.Cond.fieldLink RX9 36 (TX9 4).1 (TX9 4).2.1 (TX9 4).2.2.1 ∈ lw_g := in_c2 44 rfl rfl
theorem fl0_50 : Jvm.Cond.fieldLink RX0 50 (TX9 4).1 (TX9 4).2.1 (TX9 4).2.2.1 ∈ lw_g := in_c2 45 rfl rfl
theorem fl10_421 : Jvm.Cond.fieldLink RX10 421 (TX9 4).1 (TX9 4).2.1 (TX9 4).2.2.1 ∈ lw_g := in_c2 46 rfl rfl
theorem fl9_39 : Jvm.Cond.fieldLink RX9 39 (TX9 5).1 (TX9 5).2.1 (TX9 5).2.2.1 ∈ lw_g := in_c2 47 rfl rfl
theorem fl9_42 : Jvm.Cond.fieldLink RX9 42 (TX9 6).1 (TX9 6).2.1 (TX9 6).2.2.1 ∈ lw_g := in_c2 48 rfl rfl
theorem fl9_45 : Jvm.Cond.fieldLink RX9 45 (TX9 7).1 (TX9 7).2.1 (TX9 7).2.2.1 ∈ lw_g := in_c2 49 rfl rfl
theorem fl9_48 : Jvm.Cond.fieldLink RX9 48 (TX9 8).1 (TX9 8).2.1 (TX9 8).2.2.1 ∈ lw_g := in_c2 50 rfl rfl
theorem fl1_9 : Jvm.Cond.fieldLink RX1 9 (TX1 0).1 (TX1 0).2.1 (TX1 0).2.2.1 ∈ lw_g := in_c2 81 rfl rfl
theorem fl10_423 : Jvm.Cond.fieldLink RX10 423 (TX1 0).1 (TX1 0).2.1 (TX1 0).2.2.1 ∈ lw_g := in_c2 82 rfl rfl
theorem fl1_15 : Jvm.Cond.fieldLink RX1 15 (TX1 1).1 (TX1 1).2.1 (TX1 1).2.2.1 ∈ lw_g := in_c2 83 rfl rfl
theorem fl1_20 : Jvm.Cond.fieldLink RX1 20 (TX1 2).1 (TX1 2).2.1 (TX1 2).2.2.1 ∈ lw_g := in_c2 84 rfl rfl
theorem fl6_9 : Jvm.Cond.fieldLink RX6 9 (TX6 0).1 (TX6 0).2.1 (TX6 0).2.2.1 ∈ lw_g := in_c2 104 rfl rfl
theorem fl10_131 : Jvm.Cond.fieldLink RX10 131 (TX6 0).1 (TX6 0).2.1 (TX6 0).2.2.1 ∈ lw_g := in_c2 105 rfl rfl
theorem fl6_15 : Jvm.Cond.fieldLink RX6 15 (TX6 1).1 (TX6 1).2.1 (TX6 1).2.2.1 ∈ lw_g := in_c2 106 rfl rfl
theorem fl3_46 : Jvm.Cond.fieldLink RX3 46 (TX6 1).1 (TX6 1).2.1 (TX6 1).2.2.1 ∈ lw_g := in_c2 107 rfl rfl
theorem fl10_162 : Jvm.Cond.fieldLink RX10 162 (TX6 1).1 (TX6 1).2.1 (TX6 1).2.2.1 ∈ lw_g := in_c2 108 rfl rfl
theorem fl6_18 : Jvm.Cond.fieldLink RX6 18 (TX6 2).1 (TX6 2).2.1 (TX6 2).2.2.1 ∈ lw_g := in_c2 109 rfl rfl
theorem fl10_165 : Jvm.Cond.fieldLink RX10 165 (TX6 2).1 (TX6 2).2.1 (TX6 2).2.2.1 ∈ lw_g := in_c2 110 rfl rfl
theorem fl6_21 : Jvm.Cond.fieldLink RX6 21 (TX6 3).1 (TX6 3).2.1 (TX6 3).2.2.1 ∈ lw_g := in_c2 111 rfl rfl
theorem fl6_24 : Jvm.Cond.fieldLink RX6 24 (TX6 4).1 (TX6 4).2.1 (TX6 4).2.2.1 ∈ lw_g := in_c2 112 rfl rfl
theorem fl6_27 : Jvm.Cond.fieldLink RX6 27 (TX6 5).1 (TX6 5).2.1 (TX6 5).2.2.1 ∈ lw_g := in_c2 113 rfl rfl
theorem fl6_30 : Jvm.Cond.fieldLink RX6 30 (TX6 6).1 (TX6 6).2.1 (TX6 6).2.2.1 ∈ lw_g := in_c2 114 rfl rfl
theorem fl6_33 : Jvm.Cond.fieldLink RX6 33 (TX6 7).1 (TX6 7).2.1 (TX6 7).2.2.1 ∈ lw_g := in_c2 115 rfl rfl
theorem fl6_36 : Jvm.Cond.fieldLink RX6 36 (TX6 8).1 (TX6 8).2.1 (TX6 8).2.2.1 ∈ lw_g := in_c2 116 rfl rfl
theorem fl6_40 : Jvm.Cond.fieldLink RX6 40 (TX6 9).1 (TX6 9).2.1 (TX6 9).2.2.1 ∈ lw_g := in_c2 117 rfl rfl
theorem fl6_44 : Jvm.Cond.fieldLink RX6 44 (TX6 10).1 (TX6 10).2.1 (TX6 10).2.2.1 ∈ lw_g := in_c2 118 rfl rfl
theorem fl6_47 : Jvm.Cond.fieldLink RX6 47 (TX6 11).1 (TX6 11).2.1 (TX6 11).2.2.1 ∈ lw_g := in_c2 119 rfl rfl
theorem fl6_50 : Jvm.Cond.fieldLink RX6 50 (TX6 12).1 (TX6 12).2.1 (TX6 12).2.2.1 ∈ lw_g := in_c2 120 rfl rfl
theorem fl3_12 : Jvm.Cond.fieldLink RX3 12 (TX3 0).1 (TX3 0).2.1 (TX3 0).2.2.1 ∈ lw_g := in_c2 151 rfl rfl
theorem fl10_117 : Jvm.Cond.fieldLink RX10 117 (TX3 0).1 (TX3 0).2.1 (TX3 0).2.2.1 ∈ lw_g := in_c2 152 rfl rfl
theorem fl3_21 : Jvm.Cond.fieldLink RX3 21 (TX3 1).1 (TX3 1).2.1 (TX3 1).2.2.1 ∈ lw_g := in_c2 153 rfl rfl
theorem fl10_146 : Jvm.Cond.fieldLink RX10 146 (TX3 1).1 (TX3 1).2.1 (TX3 1).2.2.1 ∈ lw_g := in_c2 154 rfl rfl
theorem fl3_25 : Jvm.Cond.fieldLink RX3 25 (TX3 2).1 (TX3 2).2.1 (TX3 2).2.2.1 ∈ lw_g := in_c2 155 rfl rfl
theorem fl10_155 : Jvm.Cond.fieldLink RX10 155 (TX3 2).1 (TX3 2).2.1 (TX3 2).2.2.1 ∈ lw_g := in_c2 156 rfl rfl
theorem fl0_15 : Jvm.Cond.fieldLink RX0 15 (TX0 0).1 (TX0 0).2.1 (TX0 0).2.2.1 ∈ lw_g := in_c2 170 rfl rfl
theorem fl0_9 : Jvm.Cond.fieldLink RX0 9 (TX0 1).1 (TX0 1).2.1 (TX0 1).2.2.1 ∈ lw_g := in_c2 171 rfl rfl
theorem fl4_41 : Jvm.Cond.fieldLink RX4 41 (TX4 0).1 (TX4 0).2.1 (TX4 0).2.2.1 ∈ lw_g := in_c2 183 rfl rfl
theorem fl4_51 : Jvm.Cond.fieldLink RX4 51 (TX4 1).1 (TX4 1).2.1 (TX4 1).2.2.1 ∈ lw_g := in_c2 184 rfl rfl
theorem fl4_9 : Jvm.Cond.fieldLink RX4 9 (TX4 2).1 (TX4 2).2.1 (TX4 2).2.2.1 ∈ lw_g := in_c2 185 rfl rfl
theorem fl4_15 : Jvm.Cond.fieldLink RX4 15 (TX4 3).1 (TX4 3).2.1 (TX4 3).2.2.1 ∈ lw_g := in_c2 186 rfl rfl
theorem fl4_18 : Jvm.Cond.fieldLink RX4 18 (TX4 4).1 (TX4 4).2.1 (TX4 4).2.2.1 ∈ lw_g := in_c2 187 rfl rfl
theorem fl4_21 : Jvm.Cond.fieldLink RX4 21 (TX4 5).1 (TX4 5).2.1 (TX4 5).2.2.1 ∈ lw_g := in_c2 188 rfl rfl
theorem fl4_24 : Jvm.Cond.fieldLink RX4 24 (TX4 6).1 (TX4 6).2.1 (TX4 6).2.2.1 ∈ lw_g := in_c2 189 rfl rfl
theorem fl4_27 : Jvm.Cond.fieldLink RX4 27 (TX4 7).1 (TX4 7).2.1 (TX4 7).2.2.1 ∈ lw_g := in_c2 190 rfl rfl
theorem fl4_30 : Jvm.Cond.fieldLink RX4 30 (TX4 8).1 (TX4 8).2.1 (TX4 8).2.2.1 ∈ lw_g := in_c2 191 rfl rfl
theorem fl4_33 : Jvm.Cond.fieldLink RX4 33 (TX4 9).1 (TX4 9).2.1 (TX4 9).2.2.1 ∈ lw_g := in_c2 192 rfl rfl
theorem fl4_37 : Jvm.Cond.fieldLink RX4 37 (TX4 10).1 (TX4 10).2.1 (TX4 10).2.2.1 ∈ lw_g := in_c2 193 rfl rfl
theorem fl10_12 : Jvm.Cond.fieldLink RX10 12 (TX10 0).1 (TX10 0).2.1 (TX10 0).2.2.1 ∈ lw_g := in_c2 218 rfl rfl
theorem fl10_16 : Jvm.Cond.fieldLink RX10 16 (TX10 1).1 (TX10 1).2.1 (TX10 1).2.2.1 ∈ lw_g := in_c2 219 rfl rfl
theorem fl10_19 : Jvm.Cond.fieldLink RX10 19 (TX10 2).1 (TX10 2).2.1 (TX10 2).2.2.1 ∈ lw_g := in_c2 220 rfl rfl
theorem fl10_26 : Jvm.Cond.fieldLink RX10 26 (TX10 3).1 (TX10 3).2.1 (TX10 3).2.2.1 ∈ lw_g := in_c2 221 rfl rfl
theorem fl10_33 : Jvm.Cond.fieldLink RX10 33 (TX10 4).1 (TX10 4).2.1 (TX10 4).2.2.1 ∈ lw_g := in_c2 222 rfl rfl
theorem fl10_40 : Jvm.Cond.fieldLink RX10 40 (TX10 5).1 (TX10 5).2.1 (TX10 5).2.2.1 ∈ lw_g := in_c2 223 rfl rfl
theorem fl10_49 : Jvm.Cond.fieldLink RX10 49 (TX10 6).1 (TX10 6).2.1 (TX10 6).2.2.1 ∈ lw_g := in_c2 224 rfl rfl
theorem fl10_56 : Jvm.Cond.fieldLink RX10 56 (TX10 7).1 (TX10 7).2.1 (TX10 7).2.2.1 ∈ lw_g := in_c2 225 rfl rfl
theorem fl11_7 : Jvm.Cond.fieldLink RX11 7 (TX11 0).1 (TX11 0).2.1 (TX11 0).2.2.1 ∈ lw_g := in_c6 220 rfl rfl
theorem fl11_13 : Jvm.Cond.fieldLink RX11 13 (TX11 1).1 (TX11 1).2.1 (TX11 1).2.2.1 ∈ lw_g := in_c6 221 rfl rfl
theorem fl11_16 : Jvm.Cond.fieldLink RX11 16 (TX11 2).1 (TX11 2).2.1 (TX11 2).2.2.1 ∈ lw_g := in_c6 222 rfl rfl
theorem fl11_19 : Jvm.Cond.fieldLink RX11 19 (TX11 3).1 (TX11 3).2.1 (TX11 3).2.2.1 ∈ lw_g := in_c6 223 rfl rfl
theorem fl11_82 : Jvm.Cond.fieldLink RX11 82 (TX11 4).1 (TX11 4).2.1 (TX11 4).2.2.1 ∈ lw_g := in_c6 224 rfl rfl
theorem fl11_470 : Jvm.Cond.fieldLink RX11 470 (TX11 5).1 (TX11 5).2.1 (TX11 5).2.2.1 ∈ lw_g := in_c6 225 rfl rfl
theorem fl11_22 : Jvm.Cond.fieldLink RX11 22 (TX11 6).1 (TX11 6).2.1 (TX11 6).2.2.1 ∈ lw_g := in_c6 226 rfl rfl
theorem fl11_25 : Jvm.Cond.fieldLink RX11 25 (TX11 7).1 (TX11 7).2.1 (TX11 7).2.2.1 ∈ lw_g := in_c6 227 rfl rfl
theorem fl11_28 : Jvm.Cond.fieldLink RX11 28 (TX11 8).1 (TX11 8).2.1 (TX11 8).2.2.1 ∈ lw_g := in_c6 228 rfl rfl
theorem fl11_31 : Jvm.Cond.fieldLink RX11 31 (TX11 9).1 (TX11 9).2.1 (TX11 9).2.2.1 ∈ lw_g := in_c6 229 rfl rfl
theorem fl11_34 : Jvm.Cond.fieldLink RX11 34 (TX11 10).1 (TX11 10).2.1 (TX11 10).2.2.1 ∈ lw_g := in_c6 230 rfl rfl
theorem fl11_37 : Jvm.Cond.fieldLink RX11 37 (TX11 11).1 (TX11 11).2.1 (TX11 11).2.2.1 ∈ lw_g := in_c6 231 rfl rfl
theorem fl11_167 : Jvm.Cond.fieldLink RX11 167 (TX11 12).1 (TX11 12).2.1 (TX11 12).2.2.1 ∈ lw_g := in_c6 232 rfl rfl
theorem fl11_246 : Jvm.Cond.fieldLink RX11 246 (TX11 13).1 (TX11 13).2.1 (TX11 13).2.2.1 ∈ lw_g := in_c6 233 rfl rfl
theorem fl11_211 : Jvm.Cond.fieldLink RX11 211 (TX11 14).1 (TX11 14).2.1 (TX11 14).2.2.1 ∈ lw_g := in_c6 234 rfl rfl
theorem fl11_259 : Jvm.Cond.fieldLink RX11 259 (TX11 15).1 (TX11 15).2.1 (TX11 15).2.2.1 ∈ lw_g := in_c6 235 rfl rfl
theorem fl11_97 : Jvm.Cond.fieldLink RX11 97 (TX11 16).1 (TX11 16).2.1 (TX11 16).2.2.1 ∈ lw_g := in_c6 236 rfl rfl
theorem fl11_100 : Jvm.Cond.fieldLink RX11 100 (TX11 17).1 (TX11 17).2.1 (TX11 17).2.2.1 ∈ lw_g := in_c6 237 rfl rfl
theorem fl11_184 : Jvm.Cond.fieldLink RX11 184 (TX11 18).1 (TX11 18).2.1 (TX11 18).2.2.1 ∈ lw_g := in_c6 238 rfl rfl
theorem fl11_103 : Jvm.Cond.fieldLink RX11 103 (TX11 19).1 (TX11 19).2.1 (TX11 19).2.2.1 ∈ lw_g := in_c6 239 rfl rfl
theorem fl11_196 : Jvm.Cond.fieldLink RX11 196 (TX11 20).1 (TX11 20).2.1 (TX11 20).2.2.1 ∈ lw_g := in_c7 0 rfl rfl
theorem fl11_199 : Jvm.Cond.fieldLink RX11 199 (TX11 21).1 (TX11 21).2.1 (TX11 21).2.2.1 ∈ lw_g := in_c7 1 rfl rfl
theorem fl11_202 : Jvm.Cond.fieldLink RX11 202 (TX11 22).1 (TX11 22).2.1 (TX11 22).2.2.1 ∈ lw_g := in_c7 2 rfl rfl
theorem fl11_281 : Jvm.Cond.fieldLink RX11 281 (TX11 23).1 (TX11 23).2.1 (TX11 23).2.2.1 ∈ lw_g := in_c7 3 rfl rfl
theorem fl11_214 : Jvm.Cond.fieldLink RX11 214 (TX11 24).1 (TX11 24).2.1 (TX11 24).2.2.1 ∈ lw_g := in_c7 4 rfl rfl
theorem fl11_40 : Jvm.Cond.fieldLink RX11 40 (TX11 25).1 (TX11 25).2.1 (TX11 25).2.2.1 ∈ lw_g := in_c7 5 rfl rfl
theorem fl11_318 : Jvm.Cond.fieldLink RX11 318 (TX11 26).1 (TX11 26).2.1 (TX11 26).2.2.1 ∈ lw_g := in_c7 6 rfl rfl
theorem fl11_44 : Jvm.Cond.fieldLink RX11 44 (TX11 27).1 (TX11 27).2.1 (TX11 27).2.2.1 ∈ lw_g := in_c7 7 rfl rfl
theorem fl11_47 : Jvm.Cond.fieldLink RX11 47 (TX11 28).1 (TX11 28).2.1 (TX11 28).2.2.1 ∈ lw_g := in_c7 8 rfl rfl
theorem fl11_51 : Jvm.Cond.fieldLink RX11 51 (TX11 29).1 (TX11 29).2.1 (TX11 29).2.2.1 ∈ lw_g := in_c7 9 rfl rfl
theorem fl11_54 : Jvm.Cond.fieldLink RX11 54 (TX11 30).1 (TX11 30).2.1 (TX11 30).2.2.1 ∈ lw_g := in_c7 10 rfl rfl
theorem fl11_57 : Jvm.Cond.fieldLink RX11 57 (TX11 31).1 (TX11 31).2.1 (TX11 31).2.2.1 ∈ lw_g := in_c7 11 rfl rfl
theorem fl11_60 : Jvm.Cond.fieldLink RX11 60 (TX11 32).1 (TX11 32).2.1 (TX11 32).2.2.1 ∈ lw_g := in_c7 12 rfl rfl
theorem fl11_63 : Jvm.Cond.fieldLink RX11 63 (TX11 33).1 (TX11 33).2.1 (TX11 33).2.2.1 ∈ lw_g := in_c7 13 rfl rfl
theorem fl11_66 : Jvm.Cond.fieldLink RX11 66 (TX11 34).1 (TX11 34).2.1 (TX11 34).2.2.1 ∈ lw_g := in_c7 14 rfl rfl
theorem fl11_69 : Jvm.Cond.fieldLink RX11 69 (TX11 35).1 (TX11 35).2.1 (TX11 35).2.2.1 ∈ lw_g := in_c7 15 rfl rfl
theorem fl11_72 : Jvm.Cond.fieldLink RX11 72 (TX11 36).1 (TX11 36).2.1 (TX11 36).2.2.1 ∈ lw_g := in_c7 16 rfl rfl
theorem cn_8_103 : Jvm.Cond.constant RX8 103 (1664525) ∈ lw_g := in_c3 164 rfl rfl
theorem cn_8_104 : Jvm.Cond.constant RX8 104 (1013904223) ∈ lw_g := in_c3 165 rfl rfl
theorem cn_StringUTF16_227 : Jvm.Cond.constant "java/lang/StringUTF16" 227 (65536) ∈ lw_g := in_c4 48 rfl rfl
theorem cn_Character_110 : Jvm.Cond.constant "java/lang/Character" 110 (55232) ∈ lw_g := in_c4 87 rfl rfl
theorem cn_Character_76 : Jvm.Cond.constant "java/lang/Character" 76 (56320) ∈ lw_g := in_c4 91 rfl rfl
theorem cn_4_93 : Jvm.Cond.constantLong RX4 93 (1000000007) ∈ lw_g := in_c5 139 rfl rfl
theorem cn_Integer_265 : Jvm.Cond.constant "java/lang/Integer" 265 (1431655765) ∈ lw_g := in_c6 8 rfl rfl
theorem cn_Integer_266 : Jvm.Cond.constant "java/lang/Integer" 266 (858993459) ∈ lw_g := in_c6 9 rfl rfl
theorem cn_Integer_267 : Jvm.Cond.constant "java/lang/Integer" 267 (252645135) ∈ lw_g := in_c6 10 rfl rfl
theorem cn_4_189 : Jvm.Cond.constant RX4 189 (99999) ∈ lw_g := in_c6 126 rfl rfl
theorem cn_11_88 : Jvm.Cond.constant RX11 88 (1664525) ∈ lw_g := in_c8 116 rfl rfl
theorem cn_11_89 : Jvm.Cond.constant RX11 89 (1013904223) ∈ lw_g := in_c8 117 rfl rfl
theorem cn_11_397 : Jvm.Cond.constant RX11 397 (100000000) ∈ lw_g := in_c8 222 rfl rfl
theorem cn_11_404 : Jvm.Cond.constantLong RX11 404 (1000000007) ∈ lw_g := in_c8 231 rfl rfl
theorem ml_5_15 : Jvm.Cond.methodLink RX5 15 ⟨"java/lang/Math", "max", "(II)I"⟩ ∈ lw_g := in_c1 152 rfl rfl
theorem ml_9_51 : Jvm.Cond.methodLink RX9 51 yX9_letThingsSayThemselves ∈ lw_g := in_c2 28 rfl rfl
theorem ml_BasketEnvoysLaw_13 : Jvm.Cond.methodLink "BasketEnvoysLaw" 13 yX10_state ∈ lw_g := in_c3 3 rfl rfl
theorem ml_10_67 : Jvm.Cond.methodLink RX10 67 yX1_forget ∈ lw_g := in_c3 7 rfl rfl
theorem ml_BasketEnvoysLaw_18 : Jvm.Cond.methodLink "BasketEnvoysLaw" 18 yX10_power ∈ lw_g := in_c3 11 rfl rfl
theorem ml_10_70 : Jvm.Cond.methodLink RX10 70 yX10_within ∈ lw_g := in_c3 15 rfl rfl
theorem ml_10_77 : Jvm.Cond.methodLink RX10 77 yX8_addPower ∈ lw_g := in_c3 18 rfl rfl
theorem ml_BasketEnvoysLaw_22 : Jvm.Cond.methodLink "BasketEnvoysLaw" 22 yX10_mute ∈ lw_g := in_c3 22 rfl rfl
theorem ml_10_84 : Jvm.Cond.methodLink RX10 84 yX8_addMute ∈ lw_g := in_c3 26 rfl rfl
theorem ml_BasketEnvoysLaw_27 : Jvm.Cond.methodLink "BasketEnvoysLaw" 27 yX10_set ∈ lw_g := in_c3 30 rfl rfl
theorem ml_10_88 : Jvm.Cond.methodLink RX10 88 yX8_change ∈ lw_g := in_c3 34 rfl rfl
theorem ml_8_74 : Jvm.Cond.methodLink RX8 74 yX8_hasPower ∈ lw_g := in_c3 38 rfl rfl
theorem ml_8_78 : Jvm.Cond.methodLinkNest RX8 78 yX10_within "BasketEnvoys" ∈ nestW := in_d3 42 rfl rfl
theorem ml_8_82 : Jvm.Cond.methodLinkNest RX8 82 yX10_put "BasketEnvoys" ∈ nestW := in_d3 43 rfl rfl
theorem ml_8_86 : Jvm.Cond.methodLink RX8 86 yX8_hasMute ∈ lw_g := in_c3 46 rfl rfl
theorem ml_BasketEnvoysLaw_32 : Jvm.Cond.methodLink "BasketEnvoysLaw" 32 yX10_act ∈ lw_g := in_c3 50 rfl rfl
theorem ml_10_91 : Jvm.Cond.methodLink RX10 91 yX8_allows ∈ lw_g := in_c3 54 rfl rfl
theorem ml_8_89 : Jvm.Cond.methodLink RX8 89 yX8_isHome ∈ lw_g := in_c3 58 rfl rfl
theorem ml_8_92 : Jvm.Cond.methodLink RX8 92 yX8_isAway ∈ lw_g := in_c3 62 rfl rfl
theorem ml_10_94 : Jvm.Cond.methodLink RX10 94 yX1_keep ∈ lw_g := in_c3 66 rfl rfl
theorem ml_1_25 : Jvm.Cond.methodLink RX1 25 yX1_townAt ∈ lw_g := in_c3 70 rfl rfl
theorem ml_1_29 : Jvm.Cond.methodLink RX1 29 yX8_copyFrom ∈ lw_g := in_c3 74 rfl rfl
theorem ml_8_70 : Jvm.Cond.methodLinkNest RX8 70 yX10_copy "BasketEnvoys" ∈ nestW := in_d3 78 rfl rfl
theorem ml_10_430 : Jvm.Cond.methodLink RX10 430 ⟨"java/lang/Math", "min", "(II)I"⟩ ∈ lw_g := in_c3 81 rfl rfl
theorem ml_10_433 : Jvm.Cond.methodLink RX10 433 ⟨"java/lang/System", "arraycopy", "(Ljava/lang/Object;ILjava/lang/Object;II)V"⟩ ∈ lw_g := in_c3 84 rfl rfl
theorem ml_1_33 : Jvm.Cond.methodLink RX1 33 ⟨"java/lang/Math", "min", "(II)I"⟩ ∈ lw_g := in_c3 87 rfl rfl
theorem ml_10_98 : Jvm.Cond.methodLink RX10 98 yX0_doByHand ∈ lw_g := in_c3 88 rfl rfl
theorem ml_0_25 : Jvm.Cond.methodLink RX0 25 yX0_sendTo ∈ lw_g := in_c3 92 rfl rfl
theorem ml_0_81 : Jvm.Cond.methodLink RX0 81 yX8_isHome ∈ lw_g := in_c3 96 rfl rfl
theorem ml_0_90 : Jvm.Cond.methodLink RX0 90 yX9_write ∈ lw_g := in_c3 97 rfl rfl
theorem ml_0_29 : Jvm.Cond.methodLink RX0 29 yX0_goHome ∈ lw_g := in_c3 101 rfl rfl
theorem ml_0_67 : Jvm.Cond.methodLink RX0 67 yX8_isAway ∈ lw_g := in_c3 105 rfl rfl
theorem ml_0_33 : Jvm.Cond.methodLink RX0 33 yX8_putThing ∈ lw_g := in_c3 106 rfl rfl
theorem ml_0_42 : Jvm.Cond.methodLinkNest RX0 42 yX10_put "BasketEnvoys" ∈ nestW := in_d3 110 rfl rfl
theorem ml_0_46 : Jvm.Cond.methodLink RX0 46 yX0_prick ∈ lw_g := in_c3 111 rfl rfl
theorem ml_0_105 : Jvm.Cond.methodLink RX0 105 yX0_ask ∈ lw_g := in_c3 115 rfl rfl
theorem ml_0_142 : Jvm.Cond.methodLink RX0 142 yX8_hasMute ∈ lw_g := in_c3 119 rfl rfl
theorem ml_0_119 : Jvm.Cond.methodLink RX0 119 yX8_nextThing ∈ lw_g := in_c3 120 rfl rfl
theorem ml_8_99 : Jvm.Cond.methodLink RX8 99 yX8_thingOf ∈ lw_g := in_c3 124 rfl rfl
theorem ml_0_166 : Jvm.Cond.methodLink RX0 166 yX0_gather ∈ lw_g := in_c3 128 rfl rfl
theorem ml_0_129 : Jvm.Cond.methodLinkNest RX0 129 yX10_entry "BasketEnvoys" ∈ nestW := in_d3 132 rfl rfl
theorem ml_0_94 : Jvm.Cond.methodLink RX0 94 yX8_hasPower ∈ lw_g := in_c3 135 rfl rfl
theorem ml_0_154 : Jvm.Cond.methodLink RX0 154 ⟨"java/lang/Math", "max", "(II)I"⟩ ∈ lw_g := in_c3 136 rfl rfl
theorem ml_0_145 : Jvm.Cond.methodLink RX0 145 yX9_saysTo ∈ lw_g := in_c3 137 rfl rfl
theorem ml_9_78 : Jvm.Cond.methodLinkNest RX9 78 yX10_entry "BasketEnvoys" ∈ nestW := in_d3 141 rfl rfl
theorem ml_0_173 : Jvm.Cond.methodLink RX0 173 yX2_tell ∈ lw_g := in_c3 142 rfl rfl
theorem ml_2_41 : Jvm.Cond.methodLink RX2 41 yX2_run ∈ lw_g := in_c3 146 rfl rfl
theorem ml_2_45 : Jvm.Cond.methodLink RX2 45 ⟨"java/lang/Math", "max", "(II)I"⟩ ∈ lw_g := in_c3 150 rfl rfl
theorem ml_2_51 : Jvm.Cond.methodLinkNest RX2 51 yX10_entry "BasketEnvoys" ∈ nestW := in_d3 151 rfl rfl
theorem ml_2_55 : Jvm.Cond.methodLink RX2 55 yX2_join ∈ lw_g := in_c3 152 rfl rfl
theorem ml_0_100 : Jvm.Cond.methodLink RX0 100 ⟨"java/lang/Math", "min", "(II)I"⟩ ∈ lw_g := in_c3 155 rfl rfl
theorem ml_0_109 : Jvm.Cond.methodLink RX0 109 yX0_falls ∈ lw_g := in_c3 156 rfl rfl
theorem ml_0_126 : Jvm.Cond.methodLink RX0 126 yX8_drawsBelow ∈ lw_g := in_c3 160 rfl rfl
theorem ml_BasketEnvoysLaw_36 : Jvm.Cond.methodLink "BasketEnvoysLaw" 36 yX10_days ∈ lw_g := in_c3 166 rfl rfl
theorem ml_10_109 : Jvm.Cond.methodLink RX10 109 yX10_sum ∈ lw_g := in_c3 170 rfl rfl
theorem ml_10_113 : Jvm.Cond.methodLink RX10 113 yX0_pass ∈ lw_g := in_c3 173 rfl rfl
theorem ml_0_53 : Jvm.Cond.methodLink RX0 53 yX9_courtAt ∈ lw_g := in_c3 177 rfl rfl
theorem ml_0_61 : Jvm.Cond.methodLink RX0 61 yX0_follow ∈ lw_g := in_c3 181 rfl rfl
theorem ml_0_74 : Jvm.Cond.methodLink RX0 74 yX0_addTrust ∈ lw_g := in_c3 185 rfl rfl
theorem ml_0_71 : Jvm.Cond.methodLink RX0 71 yX0_takeTurn ∈ lw_g := in_c3 189 rfl rfl
theorem ml_0_116 : Jvm.Cond.methodLink RX0 116 yX0_cryOut ∈ lw_g := in_c3 193 rfl rfl
theorem ml_0_123 : Jvm.Cond.methodLink RX0 123 yX0_showThing ∈ lw_g := in_c3 197 rfl rfl
theorem ml_0_151 : Jvm.Cond.methodLink RX0 151 yX0_readOn ∈ lw_g := in_c3 201 rfl rfl
theorem ml_0_157 : Jvm.Cond.methodLink RX0 157 yX9_wantedBy ∈ lw_g := in_c3 205 rfl rfl
theorem ml_0_160 : Jvm.Cond.methodLink RX0 160 yX9_wantAt ∈ lw_g := in_c3 209 rfl rfl
theorem ml_BasketEnvoysLaw_40 : Jvm.Cond.methodLink "BasketEnvoysLaw" 40 yX10_feed ∈ lw_g := in_c3 213 rfl rfl
theorem ml_10_121 : Jvm.Cond.methodLink RX10 121 yX6_hasRoom ∈ lw_g := in_c3 217 rfl rfl
theorem ml_10_127 : Jvm.Cond.methodLink RX10 127 yX6_addBytes ∈ lw_g := in_c3 221 rfl rfl
theorem ml_BasketEnvoysLaw_45 : Jvm.Cond.methodLink "BasketEnvoysLaw" 45 yX10_end ∈ lw_g := in_c3 225 rfl rfl
theorem ml_BasketEnvoysLaw_50 : Jvm.Cond.methodLink "BasketEnvoysLaw" 50 yX10_text ∈ lw_g := in_c3 229 rfl rfl
theorem ml_10_134 : Jvm.Cond.methodLink RX10 134 yX3_readLaw ∈ lw_g := in_c3 233 rfl rfl
theorem ml_3_31 : Jvm.Cond.methodLink RX3 31 yX6_scan ∈ lw_g := in_c3 238 rfl rfl
theorem ml_6_53 : Jvm.Cond.methodLink RX6 53 yX6_clearFault ∈ lw_g := in_c4 2 rfl rfl
theorem ml_6_56 : Jvm.Cond.methodLink RX6 56 yX6_kindOf ∈ lw_g := in_c4 6 rfl rfl
theorem ml_6_73 : Jvm.Cond.methodLink RX6 73 ⟨"java/lang/String", "indexOf", "(I)I"⟩ ∈ lw_g := in_c4 10 rfl rfl
theorem ml_String_633 : Jvm.Cond.methodLink "java/lang/String" 633 ⟨"java/lang/String", "indexOf", "(II)I"⟩ ∈ lw_g := in_c4 14 rfl rfl
theorem ml_String_492 : Jvm.Cond.methodLink "java/lang/String" 492 ⟨"java/lang/String", "isLatin1", "()Z"⟩ ∈ lw_g := in_c4 18 rfl rfl
theorem ml_String_505 : Jvm.Cond.methodLink "java/lang/String" 505 ⟨"java/lang/String", "length", "()I"⟩ ∈ lw_g := in_c4 24 rfl rfl
theorem ml_String_335 : Jvm.Cond.methodLink "java/lang/String" 335 ⟨"java/lang/String", "coder", "()B"⟩ ∈ lw_g := in_c4 28 rfl rfl
theorem ml_String_637 : Jvm.Cond.methodLink "java/lang/String" 637 ⟨"java/lang/StringLatin1", "indexOf", "([BIII)I"⟩ ∈ lw_g := in_c4 32 rfl rfl
theorem ml_StringLatin1_88 : Jvm.Cond.methodLink "java/lang/StringLatin1" 88 ⟨"java/lang/StringLatin1", "canEncode", "(I)Z"⟩ ∈ lw_g := in_c4 35 rfl rfl
theorem ml_StringLatin1_92 : Jvm.Cond.methodLink "java/lang/StringLatin1" 92 ⟨"java/lang/Math", "max", "(II)I"⟩ ∈ lw_g := in_c4 38 rfl rfl
theorem ml_StringLatin1_38 : Jvm.Cond.methodLink "java/lang/StringLatin1" 38 ⟨"java/lang/Math", "min", "(II)I"⟩ ∈ lw_g := in_c4 39 rfl rfl
theorem ml_StringLatin1_95 : Jvm.Cond.methodLink "java/lang/StringLatin1" 95 ⟨"java/lang/StringLatin1", "indexOfChar", "([BIII)I"⟩ ∈ lw_g := in_c4 40 rfl rfl
theorem ml_String_640 : Jvm.Cond.methodLink "java/lang/String" 640 ⟨"java/lang/StringUTF16", "indexOf", "([BIII)I"⟩ ∈ lw_g := in_c4 43 rfl rfl
theorem ml_StringUTF16_224 : Jvm.Cond.methodLink "java/lang/StringUTF16" 224 ⟨"java/lang/Math", "max", "(II)I"⟩ ∈ lw_g := in_c4 46 rfl rfl
theorem ml_StringUTF16_183 : Jvm.Cond.methodLink "java/lang/StringUTF16" 183 ⟨"java/lang/Math", "min", "(II)I"⟩ ∈ lw_g := in_c4 47 rfl rfl
theorem ml_StringUTF16_228 : Jvm.Cond.methodLink "java/lang/StringUTF16" 228 ⟨"java/lang/StringUTF16", "indexOfChar", "([BIII)I"⟩ ∈ lw_g := in_c4 49 rfl rfl
theorem ml_StringUTF16_96 : Jvm.Cond.methodLink "java/lang/StringUTF16" 96 ⟨"java/lang/StringUTF16", "checkBoundsBeginEnd", "(II[B)V"⟩ ∈ lw_g := in_c4 52 rfl rfl
theorem ml_StringUTF16_48 : Jvm.Cond.methodLink "java/lang/StringUTF16" 48 ⟨"java/lang/StringUTF16", "length", "([B)I"⟩ ∈ lw_g := in_c4 55 rfl rfl
theorem ml_StringUTF16_241 : Jvm.Cond.methodLink "java/lang/StringUTF16" 241 ⟨"java/lang/String", "checkBoundsBeginEnd", "(III)V"⟩ ∈ lw_g := in_c4 58 rfl rfl
theorem ml_String_1062 : Jvm.Cond.methodLink "java/lang/String" 1062 ⟨"jdk/internal/util/Preconditions", "checkFromToIndex", "(IIILjava/util/function/BiFunction;)I"⟩ ∈ lw_g := in_c4 63 rfl rfl
theorem ml_StringUTF16_244 : Jvm.Cond.methodLink "java/lang/StringUTF16" 244 ⟨"java/lang/StringUTF16", "indexOfCharUnsafe", "([BIII)I"⟩ ∈ lw_g := in_c4 66 rfl rfl
theorem ml_StringUTF16_71 : Jvm.Cond.methodLink "java/lang/StringUTF16" 71 ⟨"java/lang/StringUTF16", "getChar", "([BI)C"⟩ ∈ lw_g := in_c4 69 rfl rfl
theorem ml_StringUTF16_232 : Jvm.Cond.methodLink "java/lang/StringUTF16" 232 ⟨"java/lang/StringUTF16", "indexOfSupplementary", "([BIII)I"⟩ ∈ lw_g := in_c4 78 rfl rfl
theorem ml_StringUTF16_164 : Jvm.Cond.methodLink "java/lang/StringUTF16" 164 ⟨"java/lang/Character", "isValidCodePoint", "(I)Z"⟩ ∈ lw_g := in_c4 81 rfl rfl
theorem ml_StringUTF16_157 : Jvm.Cond.methodLink "java/lang/StringUTF16" 157 ⟨"java/lang/Character", "highSurrogate", "(I)C"⟩ ∈ lw_g := in_c4 84 rfl rfl
theorem ml_StringUTF16_161 : Jvm.Cond.methodLink "java/lang/StringUTF16" 161 ⟨"java/lang/Character", "lowSurrogate", "(I)C"⟩ ∈ lw_g := in_c4 88 rfl rfl
theorem ml_6_60 : Jvm.Cond.methodLink RX6 60 yX6_add ∈ lw_g := in_c4 92 rfl rfl
theorem ml_6_64 : Jvm.Cond.methodLink RX6 64 yX6_settle ∈ lw_g := in_c4 96 rfl rfl
theorem ml_6_79 : Jvm.Cond.methodLink RX6 79 yX6_numberOfWord ∈ lw_g := in_c4 100 rfl rfl
theorem ml_6_91 : Jvm.Cond.methodLink RX6 91 ⟨"java/lang/String", "length", "()I"⟩ ∈ lw_g := in_c4 104 rfl rfl
theorem ml_6_94 : Jvm.Cond.methodLink RX6 94 ⟨"java/lang/String", "charAt", "(I)C"⟩ ∈ lw_g := in_c4 105 rfl rfl
theorem ml_String_495 : Jvm.Cond.methodLink "java/lang/String" 495 ⟨"java/lang/StringLatin1", "charAt", "([BI)C"⟩ ∈ lw_g := in_c4 109 rfl rfl
theorem ml_StringLatin1_9 : Jvm.Cond.methodLink "java/lang/StringLatin1" 9 ⟨"java/lang/String", "checkIndex", "(II)V"⟩ ∈ lw_g := in_c4 112 rfl rfl
theorem ml_String_1059 : Jvm.Cond.methodLink "java/lang/String" 1059 ⟨"jdk/internal/util/Preconditions", "checkIndex", "(IILjava/util/function/BiFunction;)I"⟩ ∈ lw_g := in_c4 115 rfl rfl
theorem ml_String_498 : Jvm.Cond.methodLink "java/lang/String" 498 ⟨"java/lang/StringUTF16", "charAt", "([BI)C"⟩ ∈ lw_g := in_c4 118 rfl rfl
theorem ml_StringUTF16_67 : Jvm.Cond.methodLink "java/lang/StringUTF16" 67 ⟨"java/lang/StringUTF16", "checkIndex", "(I[B)V"⟩ ∈ lw_g := in_c4 121 rfl rfl
theorem ml_StringUTF16_414 : Jvm.Cond.methodLink "java/lang/StringUTF16" 414 ⟨"java/lang/String", "checkIndex", "(II)V"⟩ ∈ lw_g := in_c4 124 rfl rfl
theorem ml_6_97 : Jvm.Cond.methodLink RX6 97 yX6_isAt ∈ lw_g := in_c4 125 rfl rfl
theorem ml_6_101 : Jvm.Cond.methodLink RX6 101 ⟨"java/lang/Math", "max", "(II)I"⟩ ∈ lw_g := in_c4 129 rfl rfl
theorem ml_6_87 : Jvm.Cond.methodLink RX6 87 yX6_signAt ∈ lw_g := in_c4 130 rfl rfl
theorem ml_6_83 : Jvm.Cond.methodLink RX6 83 yX6_readNumber ∈ lw_g := in_c4 134 rfl rfl
theorem ml_6_68 : Jvm.Cond.methodLink RX6 68 yX6_skip ∈ lw_g := in_c4 138 rfl rfl
theorem ml_3_35 : Jvm.Cond.methodLink RX3 35 yX2_clear ∈ lw_g := in_c4 142 rfl rfl
theorem ml_3_38 : Jvm.Cond.methodLink RX3 38 yX6_goesOn ∈ lw_g := in_c4 146 rfl rfl
theorem ml_3_42 : Jvm.Cond.methodLink RX3 42 yX3_readLawLine ∈ lw_g := in_c4 150 rfl rfl
theorem ml_3_53 : Jvm.Cond.methodLink RX3 53 yX6_wordHere ∈ lw_g := in_c4 154 rfl rfl
theorem ml_3_57 : Jvm.Cond.methodLinkNest RX3 57 yX10_within "BasketEnvoys" ∈ nestW := in_d4 158 rfl rfl
theorem ml_3_61 : Jvm.Cond.methodLink RX3 61 yX6_refuse ∈ lw_g := in_c4 159 rfl rfl
theorem ml_3_64 : Jvm.Cond.methodLink RX3 64 yX6_skip ∈ lw_g := in_c4 163 rfl rfl
theorem ml_3_67 : Jvm.Cond.methodLink RX3 67 yX2_here ∈ lw_g := in_c4 164 rfl rfl
theorem ml_3_70 : Jvm.Cond.methodLink RX3 70 yX3_readSum ∈ lw_g := in_c4 168 rfl rfl
theorem ml_3_101 : Jvm.Cond.methodLink RX3 101 yX3_readUnit ∈ lw_g := in_c4 172 rfl rfl
theorem ml_3_116 : Jvm.Cond.methodLink RX3 116 yX6_isNumber ∈ lw_g := in_c4 176 rfl rfl
theorem ml_3_119 : Jvm.Cond.methodLink RX3 119 yX6_numberHere ∈ lw_g := in_c4 180 rfl rfl
theorem ml_3_91 : Jvm.Cond.methodLink RX3 91 yX2_emit ∈ lw_g := in_c4 184 rfl rfl
theorem ml_3_94 : Jvm.Cond.methodLink RX3 94 yX6_signHere ∈ lw_g := in_c4 189 rfl rfl
theorem ml_3_106 : Jvm.Cond.methodLink RX3 106 ⟨"java/lang/String", "indexOf", "(I)I"⟩ ∈ lw_g := in_c4 193 rfl rfl
theorem ml_3_112 : Jvm.Cond.methodLink RX3 112 yX6_takeNumber ∈ lw_g := in_c4 194 rfl rfl
theorem ml_6_118 : Jvm.Cond.methodLink RX6 118 yX6_isNumber ∈ lw_g := in_c4 198 rfl rfl
theorem ml_6_110 : Jvm.Cond.methodLink RX6 110 yX6_refuse ∈ lw_g := in_c4 199 rfl rfl
theorem ml_6_122 : Jvm.Cond.methodLink RX6 122 yX6_numberHere ∈ lw_g := in_c4 200 rfl rfl
theorem ml_6_125 : Jvm.Cond.methodLinkNest RX6 125 yX10_within "BasketEnvoys" ∈ nestW := in_d4 201 rfl rfl
theorem ml_3_73 : Jvm.Cond.methodLink RX3 73 yX6_isWord ∈ lw_g := in_c4 202 rfl rfl
theorem ml_3_77 : Jvm.Cond.methodLink RX3 77 yX3_readAny ∈ lw_g := in_c4 206 rfl rfl
theorem ml_3_88 : Jvm.Cond.methodLink RX3 88 yX3_readCondition ∈ lw_g := in_c4 210 rfl rfl
theorem ml_3_80 : Jvm.Cond.methodLink RX3 80 yX6_takeSign ∈ lw_g := in_c4 214 rfl rfl
theorem ml_6_114 : Jvm.Cond.methodLink RX6 114 yX6_signHere ∈ lw_g := in_c4 218 rfl rfl
theorem ml_3_98 : Jvm.Cond.methodLink RX3 98 yX3_comparisonHere ∈ lw_g := in_c4 219 rfl rfl
theorem ml_3_84 : Jvm.Cond.methodLink RX3 84 yX2_addLine ∈ lw_g := in_c4 223 rfl rfl
theorem ml_10_138 : Jvm.Cond.methodLink RX10 138 yX3_readRows ∈ lw_g := in_c4 227 rfl rfl
theorem ml_3_128 : Jvm.Cond.methodLink RX3 128 yX6_clearFault ∈ lw_g := in_c4 234 rfl rfl
theorem ml_3_131 : Jvm.Cond.methodLink RX3 131 yX3_readRow ∈ lw_g := in_c4 235 rfl rfl
theorem ml_3_135 : Jvm.Cond.methodLink RX3 135 yX3_readTongue ∈ lw_g := in_c4 239 rfl rfl
theorem ml_3_150 : Jvm.Cond.methodLinkNest RX3 150 yX10_put "BasketEnvoys" ∈ nestW := in_d5 3 rfl rfl
theorem ml_3_154 : Jvm.Cond.methodLink RX3 154 yX6_takeWord ∈ lw_g := in_c5 4 rfl rfl
theorem ml_6_106 : Jvm.Cond.methodLink RX6 106 yX6_isWord ∈ lw_g := in_c5 8 rfl rfl
theorem ml_3_139 : Jvm.Cond.methodLink RX3 139 yX3_readCourt ∈ lw_g := in_c5 9 rfl rfl
theorem ml_3_142 : Jvm.Cond.methodLink RX3 142 yX3_readWants ∈ lw_g := in_c5 13 rfl rfl
theorem ml_10_149 : Jvm.Cond.methodLink RX10 149 yX2_copyFrom ∈ lw_g := in_c5 17 rfl rfl
theorem ml_2_37 : Jvm.Cond.methodLinkNest RX2 37 yX10_copy "BasketEnvoys" ∈ nestW := in_d5 21 rfl rfl
theorem ml_10_158 : Jvm.Cond.methodLink RX10 158 yX9_tell ∈ lw_g := in_c5 22 rfl rfl
theorem ml_9_68 : Jvm.Cond.methodLink RX9 68 yX9_tellTongues ∈ lw_g := in_c5 26 rfl rfl
theorem ml_9_82 : Jvm.Cond.methodLinkNest RX9 82 yX10_put "BasketEnvoys" ∈ nestW := in_d5 30 rfl rfl
theorem ml_9_72 : Jvm.Cond.methodLink RX9 72 yX9_tellCourt ∈ lw_g := in_c5 31 rfl rfl
theorem ml_9_75 : Jvm.Cond.methodLink RX9 75 yX9_tellWants ∈ lw_g := in_c5 35 rfl rfl
theorem ml_9_86 : Jvm.Cond.methodLink RX9 86 ⟨"java/util/Arrays", "fill", "([II)V"⟩ ∈ lw_g := in_c5 39 rfl rfl
theorem ml_BasketEnvoysLaw_54 : Jvm.Cond.methodLink "BasketEnvoysLaw" 54 yX10_fault ∈ lw_g := in_c5 43 rfl rfl
theorem ml_BasketEnvoysLaw_58 : Jvm.Cond.methodLink "BasketEnvoysLaw" 58 yX10_of ∈ lw_g := in_c5 47 rfl rfl
theorem ml_10_168 : Jvm.Cond.methodLink RX10 168 yX8_hasMute ∈ lw_g := in_c5 51 rfl rfl
theorem ml_10_193 : Jvm.Cond.methodLink RX10 193 yX0_ask ∈ lw_g := in_c5 52 rfl rfl
theorem ml_10_197 : Jvm.Cond.methodLink RX10 197 yX10_couldShow ∈ lw_g := in_c5 53 rfl rfl
theorem ml_10_424 : Jvm.Cond.methodLink RX10 424 yX8_isAway ∈ lw_g := in_c5 57 rfl rfl
theorem ml_10_427 : Jvm.Cond.methodLink RX10 427 yX8_nextThing ∈ lw_g := in_c5 58 rfl rfl
theorem ml_10_200 : Jvm.Cond.methodLink RX10 200 yX8_thingOf ∈ lw_g := in_c5 59 rfl rfl
theorem ml_BasketEnvoysLaw_63 : Jvm.Cond.methodLink "BasketEnvoysLaw" 63 yX10_powerOf ∈ lw_g := in_c5 60 rfl rfl
theorem ml_10_204 : Jvm.Cond.methodLink RX10 204 yX8_hasPower ∈ lw_g := in_c5 64 rfl rfl
theorem ml_10_216 : Jvm.Cond.methodLink RX10 216 yX9_wantedBy ∈ lw_g := in_c5 65 rfl rfl
theorem ml_10_219 : Jvm.Cond.methodLink RX10 219 yX8_whoIsAt ∈ lw_g := in_c5 66 rfl rfl
theorem ml_8_95 : Jvm.Cond.methodLinkNest RX8 95 yX10_entry "BasketEnvoys" ∈ nestW := in_d5 70 rfl rfl
theorem ml_10_222 : Jvm.Cond.methodLink RX10 222 yX9_wantAt ∈ lw_g := in_c5 71 rfl rfl
theorem ml_10_225 : Jvm.Cond.methodLink RX10 225 yX9_saysTo ∈ lw_g := in_c5 72 rfl rfl
theorem ml_BasketEnvoysLaw_67 : Jvm.Cond.methodLink "BasketEnvoysLaw" 67 yX10_book ∈ lw_g := in_c5 73 rfl rfl
theorem ml_10_234 : Jvm.Cond.methodLink RX10 234 yX10_entry ∈ lw_g := in_c5 77 rfl rfl
theorem ml_BasketEnvoysLaw_71 : Jvm.Cond.methodLink "BasketEnvoysLaw" 71 yX10_goes ∈ lw_g := in_c5 78 rfl rfl
theorem ml_10_238 : Jvm.Cond.methodLink RX10 238 yX8_copyFrom ∈ lw_g := in_c5 82 rfl rfl
theorem ml_BasketEnvoysLaw_75 : Jvm.Cond.methodLink "BasketEnvoysLaw" 75 yX10_peace ∈ lw_g := in_c5 83 rfl rfl
theorem ml_BasketEnvoysLaw_79 : Jvm.Cond.methodLink "BasketEnvoysLaw" 79 yX10_shows ∈ lw_g := in_c5 87 rfl rfl
theorem ml_10_253 : Jvm.Cond.methodLink RX10 253 yX5_tell ∈ lw_g := in_c5 91 rfl rfl
theorem ml_5_25 : Jvm.Cond.methodLink RX5 25 yX5_empty ∈ lw_g := in_c5 95 rfl rfl
theorem ml_5_29 : Jvm.Cond.methodLink RX5 29 yX5_add ∈ lw_g := in_c5 99 rfl rfl
theorem ml_BasketEnvoysLaw_83 : Jvm.Cond.methodLink "BasketEnvoysLaw" 83 yX10_alike ∈ lw_g := in_c5 103 rfl rfl
theorem ml_10_258 : Jvm.Cond.methodLink RX10 258 yX4_whoReadsAs ∈ lw_g := in_c5 107 rfl rfl
theorem ml_4_73 : Jvm.Cond.methodLink RX4 73 yX5_get ∈ lw_g := in_c5 111 rfl rfl
theorem ml_4_77 : Jvm.Cond.methodLink RX4 77 yX9_saysTo ∈ lw_g := in_c5 115 rfl rfl
theorem ml_BasketEnvoysLaw_87 : Jvm.Cond.methodLink "BasketEnvoysLaw" 87 yX10_weighs ∈ lw_g := in_c5 116 rfl rfl
theorem ml_10_264 : Jvm.Cond.methodLink RX10 264 yX10_put ∈ lw_g := in_c5 120 rfl rfl
theorem ml_BasketEnvoysLaw_92 : Jvm.Cond.methodLink "BasketEnvoysLaw" 92 yX10_lightest ∈ lw_g := in_c5 121 rfl rfl
theorem ml_10_268 : Jvm.Cond.methodLink RX10 268 yX4_leastWeight ∈ lw_g := in_c5 125 rfl rfl
theorem ml_4_81 : Jvm.Cond.methodLink RX4 81 yX9_wantedBy ∈ lw_g := in_c5 129 rfl rfl
theorem ml_4_84 : Jvm.Cond.methodLink RX4 84 yX9_wantAt ∈ lw_g := in_c5 130 rfl rfl
theorem ml_10_271 : Jvm.Cond.methodLink RX10 271 yX4_rowsOfWants ∈ lw_g := in_c5 131 rfl rfl
theorem ml_4_90 : Jvm.Cond.methodLink RX4 90 yX4_thingsThatSay ∈ lw_g := in_c5 135 rfl rfl
theorem ml_BasketEnvoysLaw_96 : Jvm.Cond.methodLink "BasketEnvoysLaw" 96 yX10_hears ∈ lw_g := in_c5 140 rfl rfl
theorem ml_BasketEnvoysLaw_100 : Jvm.Cond.methodLink "BasketEnvoysLaw" 100 yX10_heard ∈ lw_g := in_c5 144 rfl rfl
theorem ml_10_277 : Jvm.Cond.methodLink RX10 277 yX4_rowsHeard ∈ lw_g := in_c5 148 rfl rfl
theorem ml_10_280 : Jvm.Cond.methodLink RX10 280 yX4_isHeardSo ∈ lw_g := in_c5 152 rfl rfl
theorem ml_BasketEnvoysLaw_104 : Jvm.Cond.methodLink "BasketEnvoysLaw" 104 yX10_count ∈ lw_g := in_c5 156 rfl rfl
theorem ml_BasketEnvoysLaw_108 : Jvm.Cond.methodLink "BasketEnvoysLaw" 108 yX10_signs ∈ lw_g := in_c5 160 rfl rfl
theorem ml_10_286 : Jvm.Cond.methodLink RX10 286 yX4_leastSigns ∈ lw_g := in_c5 164 rfl rfl
theorem ml_4_101 : Jvm.Cond.methodLinkNest RX4 101 yX10_put "BasketEnvoys" ∈ nestW := in_d5 168 rfl rfl
theorem ml_4_105 : Jvm.Cond.methodLink RX4 105 yX4_takeLeast ∈ lw_g := in_c5 169 rfl rfl
theorem ml_4_108 : Jvm.Cond.methodLinkNest RX4 108 yX10_entry "BasketEnvoys" ∈ nestW := in_d5 173 rfl rfl
theorem ml_BasketEnvoysLaw_113 : Jvm.Cond.methodLink "BasketEnvoysLaw" 113 yX10_pins ∈ lw_g := in_c5 174 rfl rfl
theorem ml_10_289 : Jvm.Cond.methodLink RX10 289 yX4_fewestPricks ∈ lw_g := in_c5 178 rfl rfl
theorem ml_BasketEnvoysLaw_117 : Jvm.Cond.methodLink "BasketEnvoysLaw" 117 yX10_table ∈ lw_g := in_c5 182 rfl rfl
theorem ml_BasketEnvoysLaw_121 : Jvm.Cond.methodLink "BasketEnvoysLaw" 121 yX10_tables ∈ lw_g := in_c5 186 rfl rfl
theorem ml_10_298 : Jvm.Cond.methodLink RX10 298 yX4_restingCells ∈ lw_g := in_c5 190 rfl rfl
theorem ml_4_112 : Jvm.Cond.methodLink RX4 112 yX4_rests ∈ lw_g := in_c5 194 rfl rfl
theorem ml_10_301 : Jvm.Cond.methodLink RX10 301 yX4_firstRest ∈ lw_g := in_c5 198 rfl rfl
theorem ml_10_304 : Jvm.Cond.methodLink RX10 304 yX4_leads ∈ lw_g := in_c5 202 rfl rfl
theorem ml_4_122 : Jvm.Cond.methodLink RX4 122 yX4_whatRowGets ∈ lw_g := in_c5 206 rfl rfl
theorem ml_4_125 : Jvm.Cond.methodLink RX4 125 ⟨"java/lang/Math", "max", "(II)I"⟩ ∈ lw_g := in_c5 210 rfl rfl
theorem ml_BasketEnvoysLaw_125 : Jvm.Cond.methodLink "BasketEnvoysLaw" 125 yX10_stand ∈ lw_g := in_c5 211 rfl rfl
theorem ml_10_307 : Jvm.Cond.methodLink RX10 307 yX4_bestStand ∈ lw_g := in_c5 215 rfl rfl
theorem ml_4_130 : Jvm.Cond.methodLink RX4 130 yX4_standChance ∈ lw_g := in_c5 219 rfl rfl
theorem ml_10_310 : Jvm.Cond.methodLink RX10 310 yX4_standChance ∈ lw_g := in_c5 223 rfl rfl
theorem ml_10_313 : Jvm.Cond.methodLink RX10 313 yX4_commonPart ∈ lw_g := in_c5 224 rfl rfl
theorem ml_10_316 : Jvm.Cond.methodLink RX10 316 ⟨"java/lang/Math", "max", "(II)I"⟩ ∈ lw_g := in_c5 228 rfl rfl
theorem ml_BasketEnvoysLaw_130 : Jvm.Cond.methodLink "BasketEnvoysLaw" 130 yX10_worth ∈ lw_g := in_c5 229 rfl rfl
theorem ml_BasketEnvoysLaw_134 : Jvm.Cond.methodLink "BasketEnvoysLaw" 134 yX10_sent ∈ lw_g := in_c5 233 rfl rfl
theorem ml_10_324 : Jvm.Cond.methodLink RX10 324 yX4_mostSent ∈ lw_g := in_c5 237 rfl rfl
theorem ml_4_133 : Jvm.Cond.methodLink RX4 133 yX4_planSending ∈ lw_g := in_c6 1 rfl rfl
theorem ml_4_141 : Jvm.Cond.methodLink RX4 141 ⟨"java/lang/Integer", "bitCount", "(I)I"⟩ ∈ lw_g := in_c6 5 rfl rfl
theorem ml_4_137 : Jvm.Cond.methodLink RX4 137 yX4_worthIfSent ∈ lw_g := in_c6 11 rfl rfl
theorem ml_10_327 : Jvm.Cond.methodLink RX10 327 yX4_howSent ∈ lw_g := in_c6 15 rfl rfl
theorem ml_BasketEnvoysLaw_138 : Jvm.Cond.methodLink "BasketEnvoysLaw" 138 yX10_load ∈ lw_g := in_c6 19 rfl rfl
theorem ml_10_333 : Jvm.Cond.methodLink RX10 333 yX5_empty ∈ lw_g := in_c6 23 rfl rfl
theorem ml_10_336 : Jvm.Cond.methodLink RX10 336 yX5_add ∈ lw_g := in_c6 24 rfl rfl
theorem ml_BasketEnvoysLaw_142 : Jvm.Cond.methodLink "BasketEnvoysLaw" 142 yX10_carried ∈ lw_g := in_c6 25 rfl rfl
theorem ml_10_339 : Jvm.Cond.methodLink RX10 339 yX4_bestLoad ∈ lw_g := in_c6 29 rfl rfl
theorem ml_4_149 : Jvm.Cond.methodLink RX4 149 ⟨"java/util/Arrays", "fill", "([II)V"⟩ ∈ lw_g := in_c6 33 rfl rfl
theorem ml_10_342 : Jvm.Cond.methodLink RX10 342 yX4_worthOf ∈ lw_g := in_c6 34 rfl rfl
theorem ml_BasketEnvoysLaw_146 : Jvm.Cond.methodLink "BasketEnvoysLaw" 146 yX10_promise ∈ lw_g := in_c6 38 rfl rfl
theorem ml_BasketEnvoysLaw_150 : Jvm.Cond.methodLink "BasketEnvoysLaw" 150 yX10_kept ∈ lw_g := in_c6 42 rfl rfl
theorem ml_10_348 : Jvm.Cond.methodLink RX10 348 yX4_waysKept ∈ lw_g := in_c6 46 rfl rfl
theorem ml_4_158 : Jvm.Cond.methodLink RX4 158 yX4_holds ∈ lw_g := in_c6 50 rfl rfl
theorem ml_10_351 : Jvm.Cond.methodLink RX10 351 yX4_leastKept ∈ lw_g := in_c6 54 rfl rfl
theorem ml_10_354 : Jvm.Cond.methodLink RX10 354 yX4_surelyKept ∈ lw_g := in_c6 58 rfl rfl
theorem ml_BasketEnvoysLaw_154 : Jvm.Cond.methodLink "BasketEnvoysLaw" 154 yX10_hat ∈ lw_g := in_c6 62 rfl rfl
theorem ml_BasketEnvoysLaw_158 : Jvm.Cond.methodLink "BasketEnvoysLaw" 158 yX10_hats ∈ lw_g := in_c6 66 rfl rfl
theorem ml_10_360 : Jvm.Cond.methodLink RX10 360 yX4_waysOfHats ∈ lw_g := in_c6 70 rfl rfl
theorem ml_BasketEnvoysLaw_162 : Jvm.Cond.methodLink "BasketEnvoysLaw" 162 yX10_border ∈ lw_g := in_c6 74 rfl rfl
theorem ml_BasketEnvoysLaw_166 : Jvm.Cond.methodLink "BasketEnvoysLaw" 166 yX10_map ∈ lw_g := in_c6 78 rfl rfl
theorem ml_10_366 : Jvm.Cond.methodLink RX10 366 yX4_fewestColours ∈ lw_g := in_c6 82 rfl rfl
theorem ml_4_167 : Jvm.Cond.methodLink RX4 167 yX4_paintAll ∈ lw_g := in_c6 86 rfl rfl
theorem ml_4_173 : Jvm.Cond.methodLink RX4 173 yX4_paint ∈ lw_g := in_c6 90 rfl rfl
theorem ml_10_369 : Jvm.Cond.methodLink RX10 369 yX4_waysPainted ∈ lw_g := in_c6 93 rfl rfl
theorem ml_BasketEnvoysLaw_170 : Jvm.Cond.methodLink "BasketEnvoysLaw" 170 yX10_cloth ∈ lw_g := in_c6 97 rfl rfl
theorem ml_BasketEnvoysLaw_174 : Jvm.Cond.methodLink "BasketEnvoysLaw" 174 yX10_cloths ∈ lw_g := in_c6 101 rfl rfl
theorem ml_10_378 : Jvm.Cond.methodLink RX10 378 yX4_mostAlike ∈ lw_g := in_c6 105 rfl rfl
theorem ml_4_183 : Jvm.Cond.methodLink RX4 183 yX4_laid ∈ lw_g := in_c6 109 rfl rfl
theorem ml_10_384 : Jvm.Cond.methodLink RX10 384 yX4_fewestChanges ∈ lw_g := in_c6 113 rfl rfl
theorem ml_4_186 : Jvm.Cond.methodLink RX4 186 ⟨"java/lang/Math", "min", "(II)I"⟩ ∈ lw_g := in_c6 117 rfl rfl
theorem ml_BasketEnvoysLaw_178 : Jvm.Cond.methodLink "BasketEnvoysLaw" 178 yX10_interpreter ∈ lw_g := in_c6 118 rfl rfl
theorem ml_10_390 : Jvm.Cond.methodLink RX10 390 yX4_hasEachWordOnce ∈ lw_g := in_c6 122 rfl rfl
theorem ml_4_190 : Jvm.Cond.methodLinkNest RX4 190 yX10_within "BasketEnvoys" ∈ nestW := in_d6 127 rfl rfl
theorem ml_4_194 : Jvm.Cond.methodLink RX4 194 yX4_madeOf ∈ lw_g := in_c6 128 rfl rfl
theorem ml_BasketEnvoysLaw_182 : Jvm.Cond.methodLink "BasketEnvoysLaw" 182 yX10_word ∈ lw_g := in_c6 132 rfl rfl
theorem ml_10_393 : Jvm.Cond.methodLink RX10 393 yX4_roundsOfWords ∈ lw_g := in_c6 136 rfl rfl
theorem ml_4_200 : Jvm.Cond.methodLink RX4 200 yX4_roundsOf ∈ lw_g := in_c6 140 rfl rfl
theorem ml_4_203 : Jvm.Cond.methodLink RX4 203 yX4_becomes ∈ lw_g := in_c6 144 rfl rfl
theorem ml_10_396 : Jvm.Cond.methodLink RX10 396 yX4_becomes ∈ lw_g := in_c6 148 rfl rfl
theorem ml_BasketEnvoysLaw_186 : Jvm.Cond.methodLink "BasketEnvoysLaw" 186 yX10_silence ∈ lw_g := in_c6 149 rfl rfl
theorem ml_10_399 : Jvm.Cond.methodLink RX10 399 yX4_beginning ∈ lw_g := in_c6 153 rfl rfl
theorem ml_4_206 : Jvm.Cond.methodLink RX4 206 yX4_learnSilence ∈ lw_g := in_c6 157 rfl rfl
theorem ml_4_209 : Jvm.Cond.methodLink RX4 209 yX4_firstWinningMove ∈ lw_g := in_c6 161 rfl rfl
theorem ml_4_213 : Jvm.Cond.methodLink RX4 213 yX4_isWon ∈ lw_g := in_c6 165 rfl rfl
theorem ml_BasketEnvoysLaw_191 : Jvm.Cond.methodLink "BasketEnvoysLaw" 191 yX10_undo ∈ lw_g := in_c6 169 rfl rfl
theorem ml_10_403 : Jvm.Cond.methodLink RX10 403 yX1_giveBack ∈ lw_g := in_c6 173 rfl rfl
theorem ml_BasketEnvoysLaw_196 : Jvm.Cond.methodLink "BasketEnvoysLaw" 196 yX10_image ∈ lw_g := in_c6 177 rfl rfl
theorem ml_10_407 : Jvm.Cond.methodLink RX10 407 yX9_copyFrom ∈ lw_g := in_c6 181 rfl rfl
theorem ml_9_54 : Jvm.Cond.methodLink RX9 54 yX8_copyFrom ∈ lw_g := in_c6 185 rfl rfl
theorem ml_9_58 : Jvm.Cond.methodLink RX9 58 yX7_copyFrom ∈ lw_g := in_c6 186 rfl rfl
theorem ml_7_60 : Jvm.Cond.methodLink RX7 60 yX5_copyFrom ∈ lw_g := in_c6 190 rfl rfl
theorem ml_5_33 : Jvm.Cond.methodLinkNest RX5 33 yX10_copy "BasketEnvoys" ∈ nestW := in_d6 194 rfl rfl
theorem ml_7_64 : Jvm.Cond.methodLinkNest RX7 64 yX10_copy "BasketEnvoys" ∈ nestW := in_d6 195 rfl rfl
theorem ml_9_61 : Jvm.Cond.methodLink RX9 61 yX2_copyFrom ∈ lw_g := in_c6 196 rfl rfl
theorem ml_9_64 : Jvm.Cond.methodLinkNest RX9 64 yX10_copy "BasketEnvoys" ∈ nestW := in_d6 197 rfl rfl
theorem ml_BasketEnvoysLaw_201 : Jvm.Cond.methodLink "BasketEnvoysLaw" 201 yX10_look ∈ lw_g := in_c6 198 rfl rfl
theorem ml_10_412 : Jvm.Cond.methodLink RX10 412 yX8_whoIsAway ∈ lw_g := in_c6 202 rfl rfl
theorem ml_10_415 : Jvm.Cond.methodLink RX10 415 yX8_whoIsKnown ∈ lw_g := in_c6 206 rfl rfl
theorem ml_11_75 : Jvm.Cond.methodLink RX11 75 yX11_layNone ∈ lw_g := in_c6 216 rfl rfl
theorem ml_BasketEnvoysLaw_17 : Jvm.Cond.methodLink "BasketEnvoysLaw" 17 yX11_state ∈ lw_g := in_c7 92 rfl rfl
theorem ml_11_85 : Jvm.Cond.methodLink RX11 85 yX11_forgets ∈ lw_g := in_c7 96 rfl rfl
theorem ml_BasketEnvoysLaw_21 : Jvm.Cond.methodLink "BasketEnvoysLaw" 21 yX11_power ∈ lw_g := in_c7 100 rfl rfl
theorem ml_11_78 : Jvm.Cond.methodLink RX11 78 yX11_isIn ∈ lw_g := in_c7 104 rfl rfl
theorem ml_BasketEnvoysLaw_26 : Jvm.Cond.methodLink "BasketEnvoysLaw" 26 yX11_mute ∈ lw_g := in_c7 107 rfl rfl
theorem ml_BasketEnvoysLaw_31 : Jvm.Cond.methodLink "BasketEnvoysLaw" 31 yX11_set ∈ lw_g := in_c7 111 rfl rfl
theorem ml_11_90 : Jvm.Cond.methodLink RX11 90 yX11_isPower ∈ lw_g := in_c7 115 rfl rfl
theorem ml_11_94 : Jvm.Cond.methodLink RX11 94 yX11_isMute ∈ lw_g := in_c7 119 rfl rfl
theorem ml_BasketEnvoysLaw_44 : Jvm.Cond.methodLink "BasketEnvoysLaw" 44 yX11_feed ∈ lw_g := in_c7 123 rfl rfl
theorem ml_BasketEnvoysLaw_49 : Jvm.Cond.methodLink "BasketEnvoysLaw" 49 yX11_end ∈ lw_g := in_c7 127 rfl rfl
theorem ml_BasketEnvoysLaw_53 : Jvm.Cond.methodLink "BasketEnvoysLaw" 53 yX11_text ∈ lw_g := in_c7 131 rfl rfl
theorem ml_11_208 : Jvm.Cond.methodLink RX11 208 yX11_next0 ∈ lw_g := in_c7 135 rfl rfl
theorem ml_11_180 : Jvm.Cond.methodLink RX11 180 yX11_see ∈ lw_g := in_c7 139 rfl rfl
theorem ml_11_187 : Jvm.Cond.methodLink RX11 187 yX11_isLetter ∈ lw_g := in_c7 143 rfl rfl
theorem ml_11_190 : Jvm.Cond.methodLink RX11 190 yX11_wordOf ∈ lw_g := in_c7 146 rfl rfl
theorem ml_11_170 : Jvm.Cond.methodLink RX11 170 yX11_lawWord ∈ lw_g := in_c7 150 rfl rfl
theorem ml_11_118 : Jvm.Cond.methodLink RX11 118 yX11_is ∈ lw_g := in_c7 155 rfl rfl
theorem ml_11_106 : Jvm.Cond.methodLink RX11 106 ⟨"java/lang/String", "length", "()I"⟩ ∈ lw_g := in_c7 159 rfl rfl
theorem ml_11_112 : Jvm.Cond.methodLink RX11 112 ⟨"java/lang/String", "charAt", "(I)C"⟩ ∈ lw_g := in_c7 160 rfl rfl
theorem ml_11_154 : Jvm.Cond.methodLink RX11 154 yX11_asked ∈ lw_g := in_c7 167 rfl rfl
theorem ml_11_175 : Jvm.Cond.methodLink RX11 175 yX11_courtWord ∈ lw_g := in_c7 182 rfl rfl
theorem ml_11_193 : Jvm.Cond.methodLink RX11 193 yX11_isDigit ∈ lw_g := in_c7 192 rfl rfl
theorem ml_11_284 : Jvm.Cond.methodLink RX11 284 yX11_readsLaw ∈ lw_g := in_c7 195 rfl rfl
theorem ml_11_249 : Jvm.Cond.methodLink RX11 249 yX11_aLine ∈ lw_g := in_c7 199 rfl rfl
theorem ml_11_205 : Jvm.Cond.methodLink RX11 205 yX11_bad ∈ lw_g := in_c7 203 rfl rfl
theorem ml_11_243 : Jvm.Cond.methodLink RX11 243 yX11_sumUp ∈ lw_g := in_c7 207 rfl rfl
theorem ml_11_217 : Jvm.Cond.methodLink RX11 217 yX11_product ∈ lw_g := in_c7 211 rfl rfl
theorem ml_11_225 : Jvm.Cond.methodLink RX11 225 yX11_unit ∈ lw_g := in_c7 215 rfl rfl
theorem ml_11_221 : Jvm.Cond.methodLink RX11 221 yX11_lay ∈ lw_g := in_c7 219 rfl rfl
theorem ml_11_237 : Jvm.Cond.methodLink RX11 237 yX11_any ∈ lw_g := in_c7 223 rfl rfl
theorem ml_11_228 : Jvm.Cond.methodLink RX11 228 yX11_every ∈ lw_g := in_c7 227 rfl rfl
theorem ml_11_231 : Jvm.Cond.methodLink RX11 231 yX11_oneTest ∈ lw_g := in_c7 231 rfl rfl
theorem ml_11_234 : Jvm.Cond.methodLink RX11 234 yX11_opens ∈ lw_g := in_c7 235 rfl rfl
theorem ml_11_240 : Jvm.Cond.methodLink RX11 240 yX11_need ∈ lw_g := in_c7 239 rfl rfl
theorem ml_11_287 : Jvm.Cond.methodLink RX11 287 yX11_readsRows ∈ lw_g := in_c8 3 rfl rfl
theorem ml_11_271 : Jvm.Cond.methodLink RX11 271 yX11_aRow ∈ lw_g := in_c8 7 rfl rfl
theorem ml_11_262 : Jvm.Cond.methodLink RX11 262 yX11_aTongue ∈ lw_g := in_c8 11 rfl rfl
theorem ml_11_255 : Jvm.Cond.methodLink RX11 255 yX11_told ∈ lw_g := in_c8 15 rfl rfl
theorem ml_11_252 : Jvm.Cond.methodLink RX11 252 yX11_number ∈ lw_g := in_c8 19 rfl rfl
theorem ml_11_265 : Jvm.Cond.methodLink RX11 265 yX11_aCourtDay ∈ lw_g := in_c8 23 rfl rfl
theorem ml_11_268 : Jvm.Cond.methodLink RX11 268 yX11_aWant ∈ lw_g := in_c8 27 rfl rfl
theorem ml_11_290 : Jvm.Cond.methodLink RX11 290 yX11_putsText ∈ lw_g := in_c8 31 rfl rfl
theorem ml_11_274 : Jvm.Cond.methodLink RX11 274 yX11_putsLaw ∈ lw_g := in_c8 35 rfl rfl
theorem ml_11_277 : Jvm.Cond.methodLink RX11 277 yX11_puts ∈ lw_g := in_c8 39 rfl rfl
theorem ml_BasketEnvoysLaw_57 : Jvm.Cond.methodLink "BasketEnvoysLaw" 57 yX11_fault ∈ lw_g := in_c8 43 rfl rfl
theorem ml_BasketEnvoysLaw_195 : Jvm.Cond.methodLink "BasketEnvoysLaw" 195 yX11_undo ∈ lw_g := in_c8 47 rfl rfl
theorem ml_BasketEnvoysLaw_35 : Jvm.Cond.methodLink "BasketEnvoysLaw" 35 yX11_act ∈ lw_g := in_c8 51 rfl rfl
theorem ml_11_329 : Jvm.Cond.methodLink RX11 329 yX11_canAct ∈ lw_g := in_c8 55 rfl rfl
theorem ml_11_332 : Jvm.Cond.methodLink RX11 332 yX11_keeps ∈ lw_g := in_c8 59 rfl rfl
theorem ml_11_335 : Jvm.Cond.methodLink RX11 335 yX11_sends ∈ lw_g := in_c8 63 rfl rfl
theorem ml_11_325 : Jvm.Cond.methodLink RX11 325 yX11_notes ∈ lw_g := in_c8 67 rfl rfl
theorem ml_11_338 : Jvm.Cond.methodLink RX11 338 yX11_calls ∈ lw_g := in_c8 71 rfl rfl
theorem ml_11_342 : Jvm.Cond.methodLink RX11 342 yX11_criesOf ∈ lw_g := in_c8 75 rfl rfl
theorem ml_11_312 : Jvm.Cond.methodLink RX11 312 yX11_asks ∈ lw_g := in_c8 79 rfl rfl
theorem ml_11_309 : Jvm.Cond.methodLink RX11 309 yX11_meaning ∈ lw_g := in_c8 83 rfl rfl
theorem ml_11_315 : Jvm.Cond.methodLink RX11 315 yX11_lawSays ∈ lw_g := in_c8 87 rfl rfl
theorem ml_11_300 : Jvm.Cond.methodLink RX11 300 yX11_isSo ∈ lw_g := in_c8 91 rfl rfl
theorem ml_11_296 : Jvm.Cond.methodLink RX11 296 yX11_comesTo ∈ lw_g := in_c8 95 rfl rfl
theorem ml_11_293 : Jvm.Cond.methodLink RX11 293 yX11_both ∈ lw_g := in_c8 99 rfl rfl
theorem ml_11_303 : Jvm.Cond.methodLink RX11 303 yX11_lesser ∈ lw_g := in_c8 102 rfl rfl
theorem ml_11_306 : Jvm.Cond.methodLink RX11 306 yX11_greater ∈ lw_g := in_c8 105 rfl rfl
theorem ml_11_345 : Jvm.Cond.methodLink RX11 345 yX11_falls ∈ lw_g := in_c8 108 rfl rfl
theorem ml_11_322 : Jvm.Cond.methodLink RX11 322 yX11_draw ∈ lw_g := in_c8 112 rfl rfl
theorem ml_BasketEnvoysLaw_39 : Jvm.Cond.methodLink "BasketEnvoysLaw" 39 yX11_days ∈ lw_g := in_c8 118 rfl rfl
theorem ml_11_373 : Jvm.Cond.methodLink RX11 373 yX11_goesBy ∈ lw_g := in_c8 122 rfl rfl
theorem ml_11_367 : Jvm.Cond.methodLink RX11 367 yX11_court ∈ lw_g := in_c8 126 rfl rfl
theorem ml_11_370 : Jvm.Cond.methodLink RX11 370 yX11_turnOf ∈ lw_g := in_c8 130 rfl rfl
theorem ml_11_357 : Jvm.Cond.methodLink RX11 357 yX11_criesOut ∈ lw_g := in_c8 134 rfl rfl
theorem ml_11_360 : Jvm.Cond.methodLink RX11 360 yX11_nextThing ∈ lw_g := in_c8 138 rfl rfl
theorem ml_11_363 : Jvm.Cond.methodLink RX11 363 yX11_isNoddedAt ∈ lw_g := in_c8 142 rfl rfl
theorem ml_11_348 : Jvm.Cond.methodLink RX11 348 yX11_nodsOf ∈ lw_g := in_c8 146 rfl rfl
theorem ml_11_351 : Jvm.Cond.methodLink RX11 351 yX11_winsOf ∈ lw_g := in_c8 150 rfl rfl
theorem ml_11_354 : Jvm.Cond.methodLink RX11 354 yX11_isRead ∈ lw_g := in_c8 154 rfl rfl
theorem ml_BasketEnvoysLaw_62 : Jvm.Cond.methodLink "BasketEnvoysLaw" 62 yX11_of ∈ lw_g := in_c8 158 rfl rfl
theorem ml_BasketEnvoysLaw_66 : Jvm.Cond.methodLink "BasketEnvoysLaw" 66 yX11_powerOf ∈ lw_g := in_c8 162 rfl rfl
theorem ml_11_376 : Jvm.Cond.methodLink RX11 376 yX11_atOf ∈ lw_g := in_c8 166 rfl rfl
theorem ml_BasketEnvoysLaw_70 : Jvm.Cond.methodLink "BasketEnvoysLaw" 70 yX11_book ∈ lw_g := in_c8 170 rfl rfl
theorem ml_BasketEnvoysLaw_74 : Jvm.Cond.methodLink "BasketEnvoysLaw" 74 yX11_goes ∈ lw_g := in_c8 174 rfl rfl
theorem ml_11_379 : Jvm.Cond.methodLink RX11 379 yX11_thinks ∈ lw_g := in_c8 178 rfl rfl
theorem ml_11_382 : Jvm.Cond.methodLink RX11 382 yX11_together ∈ lw_g := in_c8 182 rfl rfl
theorem ml_11_385 : Jvm.Cond.methodLink RX11 385 yX11_putsBack ∈ lw_g := in_c8 186 rfl rfl
theorem ml_BasketEnvoysLaw_78 : Jvm.Cond.methodLink "BasketEnvoysLaw" 78 yX11_peace ∈ lw_g := in_c8 190 rfl rfl
theorem ml_BasketEnvoysLaw_82 : Jvm.Cond.methodLink "BasketEnvoysLaw" 82 yX11_shows ∈ lw_g := in_c8 194 rfl rfl
theorem ml_11_388 : Jvm.Cond.methodLink RX11 388 yX11_endsRow ∈ lw_g := in_c8 198 rfl rfl
theorem ml_11_391 : Jvm.Cond.methodLink RX11 391 yX11_tellsOne ∈ lw_g := in_c8 202 rfl rfl
theorem ml_BasketEnvoysLaw_86 : Jvm.Cond.methodLink "BasketEnvoysLaw" 86 yX11_alike ∈ lw_g := in_c8 206 rfl rfl
theorem ml_11_394 : Jvm.Cond.methodLink RX11 394 yX11_readAlike ∈ lw_g := in_c8 210 rfl rfl
theorem ml_BasketEnvoysLaw_91 : Jvm.Cond.methodLink "BasketEnvoysLaw" 91 yX11_weighs ∈ lw_g := in_c8 214 rfl rfl
theorem ml_BasketEnvoysLaw_95 : Jvm.Cond.methodLink "BasketEnvoysLaw" 95 yX11_lightest ∈ lw_g := in_c8 218 rfl rfl
theorem ml_11_398 : Jvm.Cond.methodLink RX11 398 yX11_lightestSaying ∈ lw_g := in_c8 223 rfl rfl
theorem ml_11_401 : Jvm.Cond.methodLink RX11 401 yX11_sayingSo ∈ lw_g := in_c8 227 rfl rfl
theorem ml_BasketEnvoysLaw_99 : Jvm.Cond.methodLink "BasketEnvoysLaw" 99 yX11_hears ∈ lw_g := in_c8 232 rfl rfl
theorem ml_BasketEnvoysLaw_103 : Jvm.Cond.methodLink "BasketEnvoysLaw" 103 yX11_heard ∈ lw_g := in_c8 236 rfl rfl
theorem ml_11_406 : Jvm.Cond.methodLink RX11 406 yX11_isReadSo ∈ lw_g := in_c9 0 rfl rfl
theorem ml_BasketEnvoysLaw_107 : Jvm.Cond.methodLink "BasketEnvoysLaw" 107 yX11_count ∈ lw_g := in_c9 4 rfl rfl
theorem ml_BasketEnvoysLaw_112 : Jvm.Cond.methodLink "BasketEnvoysLaw" 112 yX11_signs ∈ lw_g := in_c9 8 rfl rfl
theorem ml_11_409 : Jvm.Cond.methodLink RX11 409 yX11_leastHeap ∈ lw_g := in_c9 12 rfl rfl
theorem ml_BasketEnvoysLaw_116 : Jvm.Cond.methodLink "BasketEnvoysLaw" 116 yX11_pins ∈ lw_g := in_c9 16 rfl rfl
theorem ml_11_415 : Jvm.Cond.methodLink RX11 415 yX11_onePrickMore ∈ lw_g := in_c9 20 rfl rfl
theorem ml_11_412 : Jvm.Cond.methodLink RX11 412 yX11_canPart ∈ lw_g := in_c9 24 rfl rfl
theorem ml_BasketEnvoysLaw_120 : Jvm.Cond.methodLink "BasketEnvoysLaw" 120 yX11_table ∈ lw_g := in_c9 28 rfl rfl
theorem ml_BasketEnvoysLaw_124 : Jvm.Cond.methodLink "BasketEnvoysLaw" 124 yX11_tables ∈ lw_g := in_c9 32 rfl rfl
theorem ml_11_421 : Jvm.Cond.methodLink RX11 421 yX11_led ∈ lw_g := in_c9 36 rfl rfl
theorem ml_11_418 : Jvm.Cond.methodLink RX11 418 yX11_gets ∈ lw_g := in_c9 40 rfl rfl
theorem ml_11_424 : Jvm.Cond.methodLink RX11 424 yX11_rests ∈ lw_g := in_c9 44 rfl rfl
theorem ml_BasketEnvoysLaw_129 : Jvm.Cond.methodLink "BasketEnvoysLaw" 129 yX11_stand ∈ lw_g := in_c9 48 rfl rfl
theorem ml_11_427 : Jvm.Cond.methodLink RX11 427 yX11_luck ∈ lw_g := in_c9 52 rfl rfl
theorem ml_11_430 : Jvm.Cond.methodLink RX11 430 yX11_common ∈ lw_g := in_c9 55 rfl rfl
theorem ml_BasketEnvoysLaw_133 : Jvm.Cond.methodLink "BasketEnvoysLaw" 133 yX11_worth ∈ lw_g := in_c9 58 rfl rfl
theorem ml_BasketEnvoysLaw_137 : Jvm.Cond.methodLink "BasketEnvoysLaw" 137 yX11_sent ∈ lw_g := in_c9 62 rfl rfl
theorem ml_11_436 : Jvm.Cond.methodLink RX11 436 yX11_layMostFor ∈ lw_g := in_c9 66 rfl rfl
theorem ml_11_433 : Jvm.Cond.methodLink RX11 433 yX11_bitsOf ∈ lw_g := in_c9 70 rfl rfl
theorem ml_BasketEnvoysLaw_141 : Jvm.Cond.methodLink "BasketEnvoysLaw" 141 yX11_load ∈ lw_g := in_c9 73 rfl rfl
theorem ml_BasketEnvoysLaw_145 : Jvm.Cond.methodLink "BasketEnvoysLaw" 145 yX11_carried ∈ lw_g := in_c9 77 rfl rfl
theorem ml_11_439 : Jvm.Cond.methodLink RX11 439 yX11_allOf ∈ lw_g := in_c9 81 rfl rfl
theorem ml_BasketEnvoysLaw_149 : Jvm.Cond.methodLink "BasketEnvoysLaw" 149 yX11_promise ∈ lw_g := in_c9 85 rfl rfl
theorem ml_BasketEnvoysLaw_153 : Jvm.Cond.methodLink "BasketEnvoysLaw" 153 yX11_kept ∈ lw_g := in_c9 89 rfl rfl
theorem ml_11_442 : Jvm.Cond.methodLink RX11 442 yX11_allHold ∈ lw_g := in_c9 93 rfl rfl
theorem ml_BasketEnvoysLaw_157 : Jvm.Cond.methodLink "BasketEnvoysLaw" 157 yX11_hat ∈ lw_g := in_c9 97 rfl rfl
theorem ml_BasketEnvoysLaw_161 : Jvm.Cond.methodLink "BasketEnvoysLaw" 161 yX11_hats ∈ lw_g := in_c9 101 rfl rfl
theorem ml_BasketEnvoysLaw_165 : Jvm.Cond.methodLink "BasketEnvoysLaw" 165 yX11_border ∈ lw_g := in_c9 105 rfl rfl
theorem ml_BasketEnvoysLaw_169 : Jvm.Cond.methodLink "BasketEnvoysLaw" 169 yX11_map ∈ lw_g := in_c9 109 rfl rfl
theorem ml_11_448 : Jvm.Cond.methodLink RX11 448 yX11_oneColourMore ∈ lw_g := in_c9 113 rfl rfl
theorem ml_11_445 : Jvm.Cond.methodLink RX11 445 yX11_canBeOne ∈ lw_g := in_c9 117 rfl rfl
theorem ml_BasketEnvoysLaw_173 : Jvm.Cond.methodLink "BasketEnvoysLaw" 173 yX11_cloth ∈ lw_g := in_c9 121 rfl rfl
theorem ml_BasketEnvoysLaw_177 : Jvm.Cond.methodLink "BasketEnvoysLaw" 177 yX11_cloths ∈ lw_g := in_c9 125 rfl rfl
theorem ml_11_451 : Jvm.Cond.methodLink RX11 451 yX11_layCloths ∈ lw_g := in_c9 129 rfl rfl
theorem ml_BasketEnvoysLaw_181 : Jvm.Cond.methodLink "BasketEnvoysLaw" 181 yX11_interpreter ∈ lw_g := in_c9 133 rfl rfl
theorem ml_11_454 : Jvm.Cond.methodLink RX11 454 yX11_areFive ∈ lw_g := in_c9 137 rfl rfl
theorem ml_BasketEnvoysLaw_185 : Jvm.Cond.methodLink "BasketEnvoysLaw" 185 yX11_word ∈ lw_g := in_c9 141 rfl rfl
theorem ml_11_457 : Jvm.Cond.methodLink RX11 457 yX11_becomes ∈ lw_g := in_c9 145 rfl rfl
theorem ml_BasketEnvoysLaw_190 : Jvm.Cond.methodLink "BasketEnvoysLaw" 190 yX11_silence ∈ lw_g := in_c9 149 rfl rfl
theorem ml_11_463 : Jvm.Cond.methodLink RX11 463 yX11_lies ∈ lw_g := in_c9 153 rfl rfl
theorem ml_11_467 : Jvm.Cond.methodLink RX11 467 yX11_begins ∈ lw_g := in_c9 156 rfl rfl
theorem ml_11_460 : Jvm.Cond.methodLink RX11 460 yX11_onHeap ∈ lw_g := in_c9 160 rfl rfl
theorem ml_BasketEnvoysLaw_200 : Jvm.Cond.methodLink "BasketEnvoysLaw" 200 yX11_image ∈ lw_g := in_c9 163 rfl rfl
theorem ml_BasketEnvoysLaw_204 : Jvm.Cond.methodLink "BasketEnvoysLaw" 204 yX11_look ∈ lw_g := in_c9 167 rfl rfl
theorem ml_11_473 : Jvm.Cond.methodLink RX11 473 yX11_those ∈ lw_g := in_c9 171 rfl rfl
theorem mw_Math_max__II_I : MWs ⟨"java/lang/Math", "max", "(II)I"⟩ prog_16_method_65_code 2 (some .int) 2 := ⟨in_c1 154 rfl rfl, in_c1 6 rfl rfl, in_c1 153 rfl rfl, by decide +kernel, by decide +kernel, by decide +kernel⟩
theorem mw_X9_letThingsSayThemselves : MWv yX9_letThingsSayThemselves cX9_letThingsSayThemselves 2 none 0 := ⟨in_c2 31 rfl rfl, in_c1 2 rfl rfl, in_c2 30 rfl rfl, in_c0 0 rfl rfl, by decide +kernel, by decide +kernel, by decide +kernel⟩
theorem mw_X10_state : MWv yX10_state cX10_state 3 (some .int) 1 := ⟨in_c3 6 rfl rfl, in_c1 1 rfl rfl, in_c3 4 rfl rfl, in_c3 5 rfl rfl, by decide +kernel, by decide +kernel, by decide +kernel⟩
theorem mw_X1_forget : MWv yX1_forget cX1_forget 1 none 0 := ⟨in_c3 10 rfl rfl, in_c1 8 rfl rfl, in_c3 8 rfl rfl, in_c3 9 rfl rfl, by decide +kernel, by decide +kernel, by decide +kernel⟩
theorem mw_X10_power : MWv yX10_power cX10_power 2 (some .int) 1 := ⟨in_c3 14 rfl rfl, in_c1 1 rfl rfl, in_c3 12 rfl rfl, in_c3 13 rfl rfl, by decide +kernel, by decide +kernel, by decide +kernel⟩
theorem mw_X10_within : MWs yX10_within cX10_within 3 (some .boolean) 3 := ⟨in_c3 17 rfl rfl, in_c1 1 rfl rfl, in_c3 16 rfl rfl, by decide +kernel, by decide +kernel, by decide +kernel⟩
theorem mw_X8_addPower : MWv yX8_addPower cX8_addPower 2 (some .int) 1 := ⟨in_c3 21 rfl rfl, in_c1 3 rfl rfl, in_c3 19 rfl rfl, in_c3 20 rfl rfl, by decide +kernel, by decide +kernel, by decide +kernel⟩
theorem mw_X10_mute : MWv yX10_mute cX10_mute 5 (some .int) 3 := ⟨in_c3 25 rfl rfl, in_c1 1 rfl rfl, in_c3 23 rfl rfl, in_c3 24 rfl rfl, by decide +kernel, by decide +kernel, by decide +kernel⟩
theorem mw_X8_addMute : MWv yX8_addMute cX8_addMute 4 (some .int) 3 := ⟨in_c3 29 rfl rfl, in_c1 3 rfl rfl, in_c3 27 rfl rfl, in_c3 28 rfl rfl, by decide +kernel, by decide +kernel, by decide +kernel⟩
theorem mw_X10_set : MWv yX10_set cX10_set 5 (some .boolean) 3 := ⟨in_c3 33 rfl rfl, in_c1 1 rfl rfl, in_c3 31 rfl rfl, in_c3 32 rfl rfl, by decide +kernel, by decide +kernel, by decide +kernel⟩
theorem mw_X8_change : MWv yX8_change cX8_change 4 (some .boolean) 3 := ⟨in_c3 37 rfl rfl, in_c1 3 rfl rfl, in_c3 35 rfl rfl, in_c3 36 rfl rfl, by decide +kernel, by decide +kernel, by decide +kernel⟩
theorem mw_X8_hasPower : MWv yX8_hasPower cX8_hasPower 2 (some .boolean) 1 := ⟨in_c3 41 rfl rfl, in_c1 3 rfl rfl, in_c3 39 rfl rfl, in_c3 40 rfl rfl, by decide +kernel, by decide +kernel, by decide +kernel⟩
theorem mw_X10_put : MWs yX10_put cX10_put 4 (some .boolean) 4 := ⟨in_c3 45 rfl rfl, in_c1 1 rfl rfl, in_c3 44 rfl rfl, by decide +kernel, by decide +kernel, by decide +kernel⟩
theorem mw_X8_hasMute : MWv yX8_hasMute cX8_hasMute 2 (some .boolean) 1 := ⟨in_c3 49 rfl rfl, in_c1 3 rfl rfl, in_c3 47 rfl rfl, in_c3 48 rfl rfl, by decide +kernel, by decide +kernel, by decide +kernel⟩
theorem mw_X10_act : MWv yX10_act cX10_act 4 (some .boolean) 3 := ⟨in_c3 53 rfl rfl, in_c1 1 rfl rfl, in_c3 51 rfl rfl, in_c3 52 rfl rfl, by decide +kernel, by decide +kernel, by decide +kernel⟩
theorem mw_X8_allows : MWv yX8_allows cX8_allows 4 (some .boolean) 3 := ⟨in_c3 57 rfl rfl, in_c1 3 rfl rfl, in_c3 55 rfl rfl, in_c3 56 rfl rfl, by decide +kernel, by decide +kernel, by decide +kernel⟩
theorem mw_X8_isHome : MWv yX8_isHome cX8_isHome 2 (some .boolean) 1 := ⟨in_c3 61 rfl rfl, in_c1 3 rfl rfl, in_c3 59 rfl rfl, in_c3 60 rfl rfl, by decide +kernel, by decide +kernel, by decide +kernel⟩
theorem mw_X8_isAway : MWv yX8_isAway cX8_isAway 2 (some .boolean) 1 := ⟨in_c3 65 rfl rfl, in_c1 3 rfl rfl, in_c3 63 rfl rfl, in_c3 64 rfl rfl, by decide +kernel, by decide +kernel, by decide +kernel⟩
theorem mw_X1_keep : MWv yX1_keep cX1_keep 3 none 1 := ⟨in_c3 69 rfl rfl, in_c1 8 rfl rfl, in_c3 67 rfl rfl, in_c3 68 rfl rfl, by decide +kernel, by decide +kernel, by decide +kernel⟩
theorem mw_X1_townAt : MWv yX1_townAt cX1_townAt 2 (some (.object "BasketEnvoys$Town")) 1 := ⟨in_c3 73 rfl rfl, in_c1 8 rfl rfl, in_c3 72 rfl rfl, in_c0 1 rfl rfl, by decide +kernel, by decide +kernel, by decide +kernel⟩
theorem mw_X8_copyFrom : MWv yX8_copyFrom cX8_copyFrom 2 none 1 := ⟨in_c3 77 rfl rfl, in_c1 3 rfl rfl, in_c3 75 rfl rfl, in_c3 76 rfl rfl, by decide +kernel, by decide +kernel, by decide +kernel⟩
theorem mw_X10_copy : MWs yX10_copy cX10_copy 2 none 2 := ⟨in_c3 80 rfl rfl, in_c1 1 rfl rfl, in_c3 79 rfl rfl, by decide +kernel, by decide +kernel, by decide +kernel⟩
theorem mw_Math_min__II_I : MWs ⟨"java/lang/Math", "min", "(II)I"⟩ prog_16_method_69_code 2 (some .int) 2 := ⟨in_c3 83 rfl rfl, in_c1 6 rfl rfl, in_c3 82 rfl rfl, by decide +kernel, by decide +kernel, by decide +kernel⟩
theorem mw_X0_doByHand : MWv yX0_doByHand cX0_doByHand 5 none 3 := ⟨in_c3 91 rfl rfl, in_c1 11 rfl rfl, in_c3 89 rfl rfl, in_c3 90 rfl rfl, by decide +kernel, by decide +kernel, by decide +kernel⟩
theorem mw_X0_sendTo : MWv yX0_sendTo cX0_sendTo 5 none 4 := ⟨in_c3 95 rfl rfl, in_c1 11 rfl rfl, in_c3 94 rfl rfl, in_c0 2 rfl rfl, by decide +kernel, by decide +kernel, by decide +kernel⟩
theorem mw_X9_write : MWv yX9_write cX9_write 5 none 3 := ⟨in_c3 100 rfl rfl, in_c1 2 rfl rfl, in_c3 98 rfl rfl, in_c3 99 rfl rfl, by decide +kernel, by decide +kernel, by decide +kernel⟩
theorem mw_X0_goHome : MWv yX0_goHome cX0_goHome 4 none 3 := ⟨in_c3 104 rfl rfl, in_c1 11 rfl rfl, in_c3 103 rfl rfl, in_c0 3 rfl rfl, by decide +kernel, by decide +kernel, by decide +kernel⟩
theorem mw_X8_putThing : MWv yX8_putThing cX8_putThing 3 none 2 := ⟨in_c3 109 rfl rfl, in_c1 3 rfl rfl, in_c3 107 rfl rfl, in_c3 108 rfl rfl, by decide +kernel, by decide +kernel, by decide +kernel⟩
theorem mw_X0_prick : MWv yX0_prick cX0_prick 4 none 1 := ⟨in_c3 114 rfl rfl, in_c1 11 rfl rfl, in_c3 113 rfl rfl, in_c0 4 rfl rfl, by decide +kernel, by decide +kernel, by decide +kernel⟩
theorem mw_X0_ask : MWv yX0_ask cX0_ask 6 (some .int) 3 := ⟨in_c3 118 rfl rfl, in_c1 11 rfl rfl, in_c3 116 rfl rfl, in_c3 117 rfl rfl, by decide +kernel, by decide +kernel, by decide +kernel⟩
theorem mw_X8_nextThing : MWv yX8_nextThing cX8_nextThing 2 (some .int) 1 := ⟨in_c3 123 rfl rfl, in_c1 3 rfl rfl, in_c3 121 rfl rfl, in_c3 122 rfl rfl, by decide +kernel, by decide +kernel, by decide +kernel⟩
theorem mw_X8_thingOf : MWv yX8_thingOf cX8_thingOf 4 (some .int) 2 := ⟨in_c3 127 rfl rfl, in_c1 3 rfl rfl, in_c3 125 rfl rfl, in_c3 126 rfl rfl, by decide +kernel, by decide +kernel, by decide +kernel⟩
theorem mw_X0_gather : MWv yX0_gather cX0_gather 6 none 3 := ⟨in_c3 131 rfl rfl, in_c1 11 rfl rfl, in_c3 130 rfl rfl, in_c0 5 rfl rfl, by decide +kernel, by decide +kernel, by decide +kernel⟩
theorem mw_X10_entry : MWs yX10_entry cX10_entry 2 (some .int) 2 := ⟨in_c3 134 rfl rfl, in_c1 1 rfl rfl, in_c3 133 rfl rfl, by decide +kernel, by decide +kernel, by decide +kernel⟩
theorem mw_X9_saysTo : MWv yX9_saysTo cX9_saysTo 3 (some .int) 2 := ⟨in_c3 140 rfl rfl, in_c1 2 rfl rfl, in_c3 138 rfl rfl, in_c3 139 rfl rfl, by decide +kernel, by decide +kernel, by decide +kernel⟩
theorem mw_X2_tell : MWv yX2_tell cX2_tell 5 (some .int) 3 := ⟨in_c3 145 rfl rfl, in_c1 7 rfl rfl, in_c3 143 rfl rfl, in_c3 144 rfl rfl, by decide +kernel, by decide +kernel, by decide +kernel⟩
theorem mw_X2_run : MWv yX2_run cX2_run 8 (some .int) 3 := ⟨in_c3 149 rfl rfl, in_c1 7 rfl rfl, in_c3 148 rfl rfl, in_c0 6 rfl rfl, by decide +kernel, by decide +kernel, by decide +kernel⟩
theorem mw_X2_join : MWs yX2_join cX2_join 3 (some .int) 3 := ⟨in_c3 154 rfl rfl, in_c1 7 rfl rfl, in_c3 153 rfl rfl, by decide +kernel, by decide +kernel, by decide +kernel⟩
theorem mw_X0_falls : MWv yX0_falls cX0_falls 4 (some .boolean) 3 := ⟨in_c3 159 rfl rfl, in_c1 11 rfl rfl, in_c3 158 rfl rfl, in_c0 7 rfl rfl, by decide +kernel, by decide +kernel, by decide +kernel⟩
theorem mw_X8_drawsBelow : MWv yX8_drawsBelow cX8_drawsBelow 2 (some .boolean) 1 := ⟨in_c3 163 rfl rfl, in_c1 3 rfl rfl, in_c3 161 rfl rfl, in_c3 162 rfl rfl, by decide +kernel, by decide +kernel, by decide +kernel⟩
theorem mw_X10_days : MWv yX10_days cX10_days 4 (some .int) 1 := ⟨in_c3 169 rfl rfl, in_c1 1 rfl rfl, in_c3 167 rfl rfl, in_c3 168 rfl rfl, by decide +kernel, by decide +kernel, by decide +kernel⟩
theorem mw_X10_sum : MWs yX10_sum cX10_sum 3 (some .int) 1 := ⟨in_c3 172 rfl rfl, in_c1 1 rfl rfl, in_c3 171 rfl rfl, by decide +kernel, by decide +kernel, by decide +kernel⟩
theorem mw_X0_pass : MWv yX0_pass cX0_pass 4 none 2 := ⟨in_c3 176 rfl rfl, in_c1 11 rfl rfl, in_c3 174 rfl rfl, in_c3 175 rfl rfl, by decide +kernel, by decide +kernel, by decide +kernel⟩
theorem mw_X9_courtAt : MWv yX9_courtAt cX9_courtAt 3 (some .int) 2 := ⟨in_c3 180 rfl rfl, in_c1 2 rfl rfl, in_c3 178 rfl rfl, in_c3 179 rfl rfl, by decide +kernel, by decide +kernel, by decide +kernel⟩
theorem mw_X0_follow : MWv yX0_follow cX0_follow 6 none 3 := ⟨in_c3 184 rfl rfl, in_c1 11 rfl rfl, in_c3 183 rfl rfl, in_c0 8 rfl rfl, by decide +kernel, by decide +kernel, by decide +kernel⟩
theorem mw_X0_addTrust : MWv yX0_addTrust cX0_addTrust 4 none 3 := ⟨in_c3 188 rfl rfl, in_c1 11 rfl rfl, in_c3 187 rfl rfl, in_c0 9 rfl rfl, by decide +kernel, by decide +kernel, by decide +kernel⟩
theorem mw_X0_takeTurn : MWv yX0_takeTurn cX0_takeTurn 4 none 3 := ⟨in_c3 192 rfl rfl, in_c1 11 rfl rfl, in_c3 191 rfl rfl, in_c0 10 rfl rfl, by decide +kernel, by decide +kernel, by decide +kernel⟩
theorem mw_X0_cryOut : MWv yX0_cryOut cX0_cryOut 5 none 3 := ⟨in_c3 196 rfl rfl, in_c1 11 rfl rfl, in_c3 195 rfl rfl, in_c0 11 rfl rfl, by decide +kernel, by decide +kernel, by decide +kernel⟩
theorem mw_X0_showThing : MWv yX0_showThing cX0_showThing 6 none 3 := ⟨in_c3 200 rfl rfl, in_c1 11 rfl rfl, in_c3 199 rfl rfl, in_c0 12 rfl rfl, by decide +kernel, by decide +kernel, by decide +kernel⟩
theorem mw_X0_readOn : MWv yX0_readOn cX0_readOn 6 none 4 := ⟨in_c3 204 rfl rfl, in_c1 11 rfl rfl, in_c3 203 rfl rfl, in_c0 13 rfl rfl, by decide +kernel, by decide +kernel, by decide +kernel⟩
theorem mw_X9_wantedBy : MWv yX9_wantedBy cX9_wantedBy 2 (some .int) 1 := ⟨in_c3 208 rfl rfl, in_c1 2 rfl rfl, in_c3 206 rfl rfl, in_c3 207 rfl rfl, by decide +kernel, by decide +kernel, by decide +kernel⟩
theorem mw_X9_wantAt : MWv yX9_wantAt cX9_wantAt 3 (some .int) 2 := ⟨in_c3 212 rfl rfl, in_c1 2 rfl rfl, in_c3 210 rfl rfl, in_c3 211 rfl rfl, by decide +kernel, by decide +kernel, by decide +kernel⟩
theorem mw_X10_feed : MWv yX10_feed cX10_feed 6 (some .int) 5 := ⟨in_c3 216 rfl rfl, in_c1 1 rfl rfl, in_c3 214 rfl rfl, in_c3 215 rfl rfl, by decide +kernel, by decide +kernel, by decide +kernel⟩
theorem mw_X6_hasRoom : MWv yX6_hasRoom cX6_hasRoom 1 (some .boolean) 0 := ⟨in_c3 220 rfl rfl, in_c1 10 rfl rfl, in_c3 218 rfl rfl, in_c3 219 rfl rfl, by decide +kernel, by decide +kernel, by decide +kernel⟩
theorem mw_X6_addBytes : MWv yX6_addBytes cX6_addBytes 2 none 1 := ⟨in_c3 224 rfl rfl, in_c1 10 rfl rfl, in_c3 222 rfl rfl, in_c3 223 rfl rfl, by decide +kernel, by decide +kernel, by decide +kernel⟩
theorem mw_X10_end : MWv yX10_end cX10_end 2 (some .boolean) 1 := ⟨in_c3 228 rfl rfl, in_c1 1 rfl rfl, in_c3 226 rfl rfl, in_c3 227 rfl rfl, by decide +kernel, by decide +kernel, by decide +kernel⟩
theorem mw_X10_text : MWv yX10_text cX10_text 3 (some .int) 1 := ⟨in_c3 232 rfl rfl, in_c1 1 rfl rfl, in_c3 230 rfl rfl, in_c3 231 rfl rfl, by decide +kernel, by decide +kernel, by decide +kernel⟩
theorem mw_X3_readLaw : MWv yX3_readLaw cX3_readLaw 2 (some .int) 0 := ⟨in_c3 236 rfl rfl, in_c1 9 rfl rfl, in_c3 234 rfl rfl, in_c3 235 rfl rfl, by decide +kernel, by decide +kernel, by decide +kernel⟩
theorem mw_X6_scan : MWv yX6_scan cX6_scan 6 none 1 := ⟨in_c4 1 rfl rfl, in_c1 10 rfl rfl, in_c3 239 rfl rfl, in_c4 0 rfl rfl, by decide +kernel, by decide +kernel, by decide +kernel⟩
theorem mw_X6_clearFault : MWv yX6_clearFault cX6_clearFault 1 none 0 := ⟨in_c4 5 rfl rfl, in_c1 10 rfl rfl, in_c4 3 rfl rfl, in_c4 4 rfl rfl, by decide +kernel, by decide +kernel, by decide +kernel⟩
theorem mw_X6_kindOf : MWs yX6_kindOf cX6_kindOf 1 (some .int) 1 := ⟨in_c4 8 rfl rfl, in_c1 10 rfl rfl, in_c4 7 rfl rfl, by decide +kernel, by decide +kernel, by decide +kernel⟩
theorem mw_String_indexOf__I_I : MWv ⟨"java/lang/String", "indexOf", "(I)I"⟩ prog_17_method_79_code 2 (some .int) 1 := ⟨in_c4 13 rfl rfl, in_c1 15 rfl rfl, in_c4 11 rfl rfl, in_c4 12 rfl rfl, by decide +kernel, by decide +kernel, by decide +kernel⟩
theorem mw_String_indexOf__II_I : MWv ⟨"java/lang/String", "indexOf", "(II)I"⟩ prog_17_method_80_code 3 (some .int) 2 := ⟨in_c4 17 rfl rfl, in_c1 15 rfl rfl, in_c4 15 rfl rfl, in_c4 16 rfl rfl, by decide +kernel, by decide +kernel, by decide +kernel⟩
theorem mw_String_isLatin1___Z : MWv ⟨"java/lang/String", "isLatin1", "()Z"⟩ prog_17_method_154_code 1 (some .boolean) 0 := ⟨in_c4 21 rfl rfl, in_c1 15 rfl rfl, in_c4 19 rfl rfl, in_c4 20 rfl rfl, by decide +kernel, by decide +kernel, by decide +kernel⟩
theorem mw_String_length___I : MWv ⟨"java/lang/String", "length", "()I"⟩ prog_17_method_54_code 1 (some .int) 0 := ⟨in_c4 27 rfl rfl, in_c1 15 rfl rfl, in_c4 25 rfl rfl, in_c4 26 rfl rfl, by decide +kernel, by decide +kernel, by decide +kernel⟩
theorem mw_String_coder___B : MWv ⟨"java/lang/String", "coder", "()B"⟩ prog_17_method_152_code 1 (some .byte) 0 := ⟨in_c4 31 rfl rfl, in_c1 15 rfl rfl, in_c4 29 rfl rfl, in_c4 30 rfl rfl, by decide +kernel, by decide +kernel, by decide +kernel⟩
theorem mw_StringLatin1_indexOf___BIII_I : MWs ⟨"java/lang/StringLatin1", "indexOf", "([BIII)I"⟩ prog_18_method_22_code 4 (some .int) 4 := ⟨in_c4 34 rfl rfl, in_c1 16 rfl rfl, in_c4 33 rfl rfl, by decide +kernel, by decide +kernel, by decide +kernel⟩
theorem mw_StringLatin1_canEncode__I_Z : MWs ⟨"java/lang/StringLatin1", "canEncode", "(I)Z"⟩ prog_18_method_4_code 1 (some .boolean) 1 := ⟨in_c4 37 rfl rfl, in_c1 16 rfl rfl, in_c4 36 rfl rfl, by decide +kernel, by decide +kernel, by decide +kernel⟩
theorem mw_StringLatin1_indexOfChar___BIII_I : MWs ⟨"java/lang/StringLatin1", "indexOfChar", "([BIII)I"⟩ prog_18_method_23_code 6 (some .int) 4 := ⟨in_c4 42 rfl rfl, in_c1 16 rfl rfl, in_c4 41 rfl rfl, by decide +kernel, by decide +kernel, by decide +kernel⟩
theorem mw_StringUTF16_indexOf___BIII_I : MWs ⟨"java/lang/StringUTF16", "indexOf", "([BIII)I"⟩ prog_19_method_40_code 4 (some .int) 4 := ⟨in_c4 45 rfl rfl, in_c1 17 rfl rfl, in_c4 44 rfl rfl, by decide +kernel, by decide +kernel, by decide +kernel⟩
theorem mw_StringUTF16_indexOfChar___BIII_I : MWs ⟨"java/lang/StringUTF16", "indexOfChar", "([BIII)I"⟩ prog_19_method_47_code 4 (some .int) 4 := ⟨in_c4 51 rfl rfl, in_c1 17 rfl rfl, in_c4 50 rfl rfl, by decide +kernel, by decide +kernel, by decide +kernel⟩
theorem mw_StringUTF16_checkBoundsBeginEnd__II_B_V : MWs ⟨"java/lang/StringUTF16", "checkBoundsBeginEnd", "(II[B)V"⟩ prog_19_method_93_code 3 none 3 := ⟨in_c4 54 rfl rfl, in_c1 17 rfl rfl, in_c4 53 rfl rfl, by decide +kernel, by decide +kernel, by decide +kernel⟩
theorem mw_StringUTF16_length___B_I : MWs ⟨"java/lang/StringUTF16", "length", "([B)I"⟩ prog_19_method_6_code 1 (some .int) 1 := ⟨in_c4 57 rfl rfl, in_c1 17 rfl rfl, in_c4 56 rfl rfl, by decide +kernel, by decide +kernel, by decide +kernel⟩
theorem mw_String_checkBoundsBeginEnd__III_V : MWs ⟨"java/lang/String", "checkBoundsBeginEnd", "(III)V"⟩ prog_17_method_158_code 3 none 3 := ⟨in_c4 60 rfl rfl, in_c1 15 rfl rfl, in_c4 59 rfl rfl, by decide +kernel, by decide +kernel, by decide +kernel⟩
theorem mw_Preconditions_checkFromToIndex__IIILjava_util_function_BiFunction__I : MWs ⟨"jdk/internal/util/Preconditions", "checkFromToIndex", "(IIILjava/util/function/BiFunction;)I"⟩ prog_22_method_12_code 4 (some .int) 4 := ⟨in_c4 65 rfl rfl, in_c1 18 rfl rfl, in_c4 64 rfl rfl, by decide +kernel, by decide +kernel, by decide +kernel⟩
theorem mw_StringUTF16_indexOfCharUnsafe___BIII_I : MWs ⟨"java/lang/StringUTF16", "indexOfCharUnsafe", "([BIII)I"⟩ prog_19_method_48_code 5 (some .int) 4 := ⟨in_c4 68 rfl rfl, in_c1 17 rfl rfl, in_c4 67 rfl rfl, by decide +kernel, by decide +kernel, by decide +kernel⟩
theorem mw_StringUTF16_getChar___BI_C : MWs ⟨"java/lang/StringUTF16", "getChar", "([BI)C"⟩ prog_19_method_5_code 2 (some .char) 2 := ⟨in_c4 71 rfl rfl, in_c1 17 rfl rfl, in_c4 70 rfl rfl, by decide +kernel, by decide +kernel, by decide +kernel⟩
theorem mw_StringUTF16_indexOfSupplementary___BIII_I : MWs ⟨"java/lang/StringUTF16", "indexOfSupplementary", "([BIII)I"⟩ prog_19_method_49_code 7 (some .int) 4 := ⟨in_c4 80 rfl rfl, in_c1 17 rfl rfl, in_c4 79 rfl rfl, by decide +kernel, by decide +kernel, by decide +kernel⟩
theorem mw_Character_isValidCodePoint__I_Z : MWs ⟨"java/lang/Character", "isValidCodePoint", "(I)Z"⟩ prog_14_method_11_code 2 (some .boolean) 1 := ⟨in_c4 83 rfl rfl, in_c1 19 rfl rfl, in_c4 82 rfl rfl, by decide +kernel, by decide +kernel, by decide +kernel⟩
theorem mw_Character_highSurrogate__I_C : MWs ⟨"java/lang/Character", "highSurrogate", "(I)C"⟩ prog_14_method_28_code 1 (some .char) 1 := ⟨in_c4 86 rfl rfl, in_c1 19 rfl rfl, in_c4 85 rfl rfl, by decide +kernel, by decide +kernel, by decide +kernel⟩
theorem mw_Character_lowSurrogate__I_C : MWs ⟨"java/lang/Character", "lowSurrogate", "(I)C"⟩ prog_14_method_29_code 1 (some .char) 1 := ⟨in_c4 90 rfl rfl, in_c1 19 rfl rfl, in_c4 89 rfl rfl, by decide +kernel, by decide +kernel, by decide +kernel⟩
theorem mw_X6_add : MWv yX6_add cX6_add 3 none 2 := ⟨in_c4 95 rfl rfl, in_c1 10 rfl rfl, in_c4 94 rfl rfl, in_c0 14 rfl rfl, by decide +kernel, by decide +kernel, by decide +kernel⟩
theorem mw_X6_settle : MWv yX6_settle cX6_settle 3 none 2 := ⟨in_c4 99 rfl rfl, in_c1 10 rfl rfl, in_c4 98 rfl rfl, in_c0 15 rfl rfl, by decide +kernel, by decide +kernel, by decide +kernel⟩
theorem mw_X6_numberOfWord : MWv yX6_numberOfWord cX6_numberOfWord 7 (some .int) 3 := ⟨in_c4 103 rfl rfl, in_c1 10 rfl rfl, in_c4 102 rfl rfl, in_c0 16 rfl rfl, by decide +kernel, by decide +kernel, by decide +kernel⟩
theorem mw_String_charAt__I_C : MWv ⟨"java/lang/String", "charAt", "(I)C"⟩ prog_17_method_56_code 2 (some .char) 1 := ⟨in_c4 108 rfl rfl, in_c1 15 rfl rfl, in_c4 106 rfl rfl, in_c4 107 rfl rfl, by decide +kernel, by decide +kernel, by decide +kernel⟩
theorem mw_StringLatin1_charAt___BI_C : MWs ⟨"java/lang/StringLatin1", "charAt", "([BI)C"⟩ prog_18_method_2_code 2 (some .char) 2 := ⟨in_c4 111 rfl rfl, in_c1 16 rfl rfl, in_c4 110 rfl rfl, by decide +kernel, by decide +kernel, by decide +kernel⟩
theorem mw_String_checkIndex__II_V : MWs ⟨"java/lang/String", "checkIndex", "(II)V"⟩ prog_17_method_155_code 2 none 2 := ⟨in_c4 114 rfl rfl, in_c1 15 rfl rfl, in_c4 113 rfl rfl, by decide +kernel, by decide +kernel, by decide +kernel⟩
theorem mw_Preconditions_checkIndex__IILjava_util_function_BiFunction__I : MWs ⟨"jdk/internal/util/Preconditions", "checkIndex", "(IILjava/util/function/BiFunction;)I"⟩ prog_22_method_11_code 3 (some .int) 3 := ⟨in_c4 117 rfl rfl, in_c1 18 rfl rfl, in_c4 116 rfl rfl, by decide +kernel, by decide +kernel, by decide +kernel⟩
theorem mw_StringUTF16_charAt___BI_C : MWs ⟨"java/lang/StringUTF16", "charAt", "([BI)C"⟩ prog_19_method_83_code 2 (some .char) 2 := ⟨in_c4 120 rfl rfl, in_c1 17 rfl rfl, in_c4 119 rfl rfl, by decide +kernel, by decide +kernel, by decide +kernel⟩
theorem mw_StringUTF16_checkIndex__I_B_V : MWs ⟨"java/lang/StringUTF16", "checkIndex", "(I[B)V"⟩ prog_19_method_91_code 2 none 2 := ⟨in_c4 123 rfl rfl, in_c1 17 rfl rfl, in_c4 122 rfl rfl, by decide +kernel, by decide +kernel, by decide +kernel⟩
theorem mw_X6_isAt : MWv yX6_isAt cX6_isAt 6 (some .boolean) 4 := ⟨in_c4 128 rfl rfl, in_c1 10 rfl rfl, in_c4 127 rfl rfl, in_c0 17 rfl rfl, by decide +kernel, by decide +kernel, by decide +kernel⟩
theorem mw_X6_signAt : MWv yX6_signAt cX6_signAt 2 (some .char) 1 := ⟨in_c4 133 rfl rfl, in_c1 10 rfl rfl, in_c4 132 rfl rfl, in_c0 18 rfl rfl, by decide +kernel, by decide +kernel, by decide +kernel⟩
theorem mw_X6_readNumber : MWv yX6_readNumber cX6_readNumber 5 (some .int) 2 := ⟨in_c4 137 rfl rfl, in_c1 10 rfl rfl, in_c4 136 rfl rfl, in_c0 19 rfl rfl, by decide +kernel, by decide +kernel, by decide +kernel⟩
theorem mw_X6_skip : MWv yX6_skip cX6_skip 1 none 0 := ⟨in_c4 141 rfl rfl, in_c1 10 rfl rfl, in_c4 139 rfl rfl, in_c4 140 rfl rfl, by decide +kernel, by decide +kernel, by decide +kernel⟩
theorem mw_X2_clear : MWv yX2_clear cX2_clear 1 none 0 := ⟨in_c4 145 rfl rfl, in_c1 7 rfl rfl, in_c4 143 rfl rfl, in_c4 144 rfl rfl, by decide +kernel, by decide +kernel, by decide +kernel⟩
theorem mw_X6_goesOn : MWv yX6_goesOn cX6_goesOn 1 (some .boolean) 0 := ⟨in_c4 149 rfl rfl, in_c1 10 rfl rfl, in_c4 147 rfl rfl, in_c4 148 rfl rfl, by decide +kernel, by decide +kernel, by decide +kernel⟩
theorem mw_X3_readLawLine : MWv yX3_readLawLine cX3_readLawLine 5 none 1 := ⟨in_c4 153 rfl rfl, in_c1 9 rfl rfl, in_c4 152 rfl rfl, in_c0 20 rfl rfl, by decide +kernel, by decide +kernel, by decide +kernel⟩
theorem mw_X6_wordHere : MWv yX6_wordHere cX6_wordHere 1 (some .int) 0 := ⟨in_c4 157 rfl rfl, in_c1 10 rfl rfl, in_c4 155 rfl rfl, in_c4 156 rfl rfl, by decide +kernel, by decide +kernel, by decide +kernel⟩
theorem mw_X6_refuse : MWv yX6_refuse cX6_refuse 2 none 1 := ⟨in_c4 162 rfl rfl, in_c1 10 rfl rfl, in_c4 160 rfl rfl, in_c4 161 rfl rfl, by decide +kernel, by decide +kernel, by decide +kernel⟩
theorem mw_X2_here : MWv yX2_here cX2_here 1 (some .int) 0 := ⟨in_c4 167 rfl rfl, in_c1 7 rfl rfl, in_c4 165 rfl rfl, in_c4 166 rfl rfl, by decide +kernel, by decide +kernel, by decide +kernel⟩
theorem mw_X3_readSum : MWv yX3_readSum cX3_readSum 4 none 0 := ⟨in_c4 171 rfl rfl, in_c1 9 rfl rfl, in_c4 170 rfl rfl, in_c0 21 rfl rfl, by decide +kernel, by decide +kernel, by decide +kernel⟩
theorem mw_X3_readUnit : MWv yX3_readUnit cX3_readUnit 2 none 0 := ⟨in_c4 175 rfl rfl, in_c1 9 rfl rfl, in_c4 174 rfl rfl, in_c0 22 rfl rfl, by decide +kernel, by decide +kernel, by decide +kernel⟩
theorem mw_X6_isNumber : MWv yX6_isNumber cX6_isNumber 1 (some .boolean) 0 := ⟨in_c4 179 rfl rfl, in_c1 10 rfl rfl, in_c4 177 rfl rfl, in_c4 178 rfl rfl, by decide +kernel, by decide +kernel, by decide +kernel⟩
theorem mw_X6_numberHere : MWv yX6_numberHere cX6_numberHere 1 (some .int) 0 := ⟨in_c4 183 rfl rfl, in_c1 10 rfl rfl, in_c4 181 rfl rfl, in_c4 182 rfl rfl, by decide +kernel, by decide +kernel, by decide +kernel⟩
theorem mw_X2_emit : MWv yX2_emit cX2_emit 2 none 1 := ⟨in_c4 187 rfl rfl, in_c1 7 rfl rfl, in_c4 185 rfl rfl, in_c4 186 rfl rfl, by decide +kernel, by decide +kernel, by decide +kernel⟩
theorem mw_X6_signHere : MWv yX6_signHere cX6_signHere 1 (some .char) 0 := ⟨in_c4 192 rfl rfl, in_c1 10 rfl rfl, in_c4 190 rfl rfl, in_c4 191 rfl rfl, by decide +kernel, by decide +kernel, by decide +kernel⟩
theorem mw_X6_takeNumber : MWv yX6_takeNumber cX6_takeNumber 4 (some .int) 2 := ⟨in_c4 197 rfl rfl, in_c1 10 rfl rfl, in_c4 195 rfl rfl, in_c4 196 rfl rfl, by decide +kernel, by decide +kernel, by decide +kernel⟩
theorem mw_X6_isWord : MWv yX6_isWord cX6_isWord 2 (some .boolean) 1 := ⟨in_c4 205 rfl rfl, in_c1 10 rfl rfl, in_c4 203 rfl rfl, in_c4 204 rfl rfl, by decide +kernel, by decide +kernel, by decide +kernel⟩
theorem mw_X3_readAny : MWv yX3_readAny cX3_readAny 5 none 1 := ⟨in_c4 209 rfl rfl, in_c1 9 rfl rfl, in_c4 208 rfl rfl, in_c0 23 rfl rfl, by decide +kernel, by decide +kernel, by decide +kernel⟩
theorem mw_X3_readCondition : MWv yX3_readCondition cX3_readCondition 5 none 1 := ⟨in_c4 213 rfl rfl, in_c1 9 rfl rfl, in_c4 212 rfl rfl, in_c0 24 rfl rfl, by decide +kernel, by decide +kernel, by decide +kernel⟩
theorem mw_X6_takeSign : MWv yX6_takeSign cX6_takeSign 2 none 1 := ⟨in_c4 217 rfl rfl, in_c1 10 rfl rfl, in_c4 215 rfl rfl, in_c4 216 rfl rfl, by decide +kernel, by decide +kernel, by decide +kernel⟩
theorem mw_X3_comparisonHere : MWv yX3_comparisonHere cX3_comparisonHere 2 (some .int) 0 := ⟨in_c4 222 rfl rfl, in_c1 9 rfl rfl, in_c4 221 rfl rfl, in_c0 25 rfl rfl, by decide +kernel, by decide +kernel, by decide +kernel⟩
theorem mw_X2_addLine : MWv yX2_addLine cX2_addLine 4 none 3 := ⟨in_c4 226 rfl rfl, in_c1 7 rfl rfl, in_c4 224 rfl rfl, in_c4 225 rfl rfl, by decide +kernel, by decide +kernel, by decide +kernel⟩
theorem mw_X3_readRows : MWv yX3_readRows cX3_readRows 5 (some .int) 2 := ⟨in_c4 230 rfl rfl, in_c1 9 rfl rfl, in_c4 228 rfl rfl, in_c4 229 rfl rfl, by decide +kernel, by decide +kernel, by decide +kernel⟩
theorem mw_X3_readRow : MWv yX3_readRow cX3_readRow 5 none 3 := ⟨in_c4 238 rfl rfl, in_c1 9 rfl rfl, in_c4 237 rfl rfl, in_c0 26 rfl rfl, by decide +kernel, by decide +kernel, by decide +kernel⟩
theorem mw_X3_readTongue : MWv yX3_readTongue cX3_readTongue 3 none 2 := ⟨in_c5 2 rfl rfl, in_c1 9 rfl rfl, in_c5 1 rfl rfl, in_c0 27 rfl rfl, by decide +kernel, by decide +kernel, by decide +kernel⟩
theorem mw_X6_takeWord : MWv yX6_takeWord cX6_takeWord 2 none 1 := ⟨in_c5 7 rfl rfl, in_c1 10 rfl rfl, in_c5 5 rfl rfl, in_c5 6 rfl rfl, by decide +kernel, by decide +kernel, by decide +kernel⟩
theorem mw_X3_readCourt : MWv yX3_readCourt cX3_readCourt 5 none 2 := ⟨in_c5 12 rfl rfl, in_c1 9 rfl rfl, in_c5 11 rfl rfl, in_c0 28 rfl rfl, by decide +kernel, by decide +kernel, by decide +kernel⟩
theorem mw_X3_readWants : MWv yX3_readWants cX3_readWants 5 none 2 := ⟨in_c5 16 rfl rfl, in_c1 9 rfl rfl, in_c5 15 rfl rfl, in_c0 29 rfl rfl, by decide +kernel, by decide +kernel, by decide +kernel⟩
theorem mw_X2_copyFrom : MWv yX2_copyFrom cX2_copyFrom 2 none 1 := ⟨in_c5 20 rfl rfl, in_c1 7 rfl rfl, in_c5 18 rfl rfl, in_c5 19 rfl rfl, by decide +kernel, by decide +kernel, by decide +kernel⟩
theorem mw_X9_tell : MWv yX9_tell cX9_tell 4 none 3 := ⟨in_c5 25 rfl rfl, in_c1 2 rfl rfl, in_c5 23 rfl rfl, in_c5 24 rfl rfl, by decide +kernel, by decide +kernel, by decide +kernel⟩
theorem mw_X9_tellTongues : MWv yX9_tellTongues cX9_tellTongues 6 none 2 := ⟨in_c5 29 rfl rfl, in_c1 2 rfl rfl, in_c5 28 rfl rfl, in_c0 30 rfl rfl, by decide +kernel, by decide +kernel, by decide +kernel⟩
theorem mw_X9_tellCourt : MWv yX9_tellCourt cX9_tellCourt 5 none 2 := ⟨in_c5 34 rfl rfl, in_c1 2 rfl rfl, in_c5 33 rfl rfl, in_c0 31 rfl rfl, by decide +kernel, by decide +kernel, by decide +kernel⟩
theorem mw_X9_tellWants : MWv yX9_tellWants cX9_tellWants 6 none 2 := ⟨in_c5 38 rfl rfl, in_c1 2 rfl rfl, in_c5 37 rfl rfl, in_c0 32 rfl rfl, by decide +kernel, by decide +kernel, by decide +kernel⟩
theorem mw_Arrays_fill___II_V : MWs ⟨"java/util/Arrays", "fill", "([II)V"⟩ prog_21_method_103_code 4 none 2 := ⟨in_c5 41 rfl rfl, in_c1 20 rfl rfl, in_c5 40 rfl rfl, by decide +kernel, by decide +kernel, by decide +kernel⟩
theorem mw_X10_fault : MWv yX10_fault cX10_fault 2 (some .int) 1 := ⟨in_c5 46 rfl rfl, in_c1 1 rfl rfl, in_c5 44 rfl rfl, in_c5 45 rfl rfl, by decide +kernel, by decide +kernel, by decide +kernel⟩
theorem mw_X10_of : MWv yX10_of cX10_of 4 (some .int) 2 := ⟨in_c5 50 rfl rfl, in_c1 1 rfl rfl, in_c5 48 rfl rfl, in_c5 49 rfl rfl, by decide +kernel, by decide +kernel, by decide +kernel⟩
theorem mw_X10_couldShow : MWv yX10_couldShow cX10_couldShow 2 (some .boolean) 1 := ⟨in_c5 56 rfl rfl, in_c1 1 rfl rfl, in_c5 55 rfl rfl, in_c0 33 rfl rfl, by decide +kernel, by decide +kernel, by decide +kernel⟩
theorem mw_X10_powerOf : MWv yX10_powerOf cX10_powerOf 4 (some .int) 2 := ⟨in_c5 63 rfl rfl, in_c1 1 rfl rfl, in_c5 61 rfl rfl, in_c5 62 rfl rfl, by decide +kernel, by decide +kernel, by decide +kernel⟩
theorem mw_X8_whoIsAt : MWv yX8_whoIsAt cX8_whoIsAt 4 (some .int) 1 := ⟨in_c5 69 rfl rfl, in_c1 3 rfl rfl, in_c5 67 rfl rfl, in_c5 68 rfl rfl, by decide +kernel, by decide +kernel, by decide +kernel⟩
theorem mw_X10_book : MWv yX10_book cX10_book 3 (some .int) 2 := ⟨in_c5 76 rfl rfl, in_c1 1 rfl rfl, in_c5 74 rfl rfl, in_c5 75 rfl rfl, by decide +kernel, by decide +kernel, by decide +kernel⟩
theorem mw_X10_goes : MWv yX10_goes cX10_goes 4 (some .int) 2 := ⟨in_c5 81 rfl rfl, in_c1 1 rfl rfl, in_c5 79 rfl rfl, in_c5 80 rfl rfl, by decide +kernel, by decide +kernel, by decide +kernel⟩
theorem mw_X10_peace : MWv yX10_peace cX10_peace 3 (some .int) 1 := ⟨in_c5 86 rfl rfl, in_c1 1 rfl rfl, in_c5 84 rfl rfl, in_c5 85 rfl rfl, by decide +kernel, by decide +kernel, by decide +kernel⟩
theorem mw_X10_shows : MWv yX10_shows cX10_shows 2 (some .int) 1 := ⟨in_c5 90 rfl rfl, in_c1 1 rfl rfl, in_c5 88 rfl rfl, in_c5 89 rfl rfl, by decide +kernel, by decide +kernel, by decide +kernel⟩
theorem mw_X5_tell : MWv yX5_tell cX5_tell 3 (some .int) 2 := ⟨in_c5 94 rfl rfl, in_c1 5 rfl rfl, in_c5 92 rfl rfl, in_c5 93 rfl rfl, by decide +kernel, by decide +kernel, by decide +kernel⟩
theorem mw_X5_empty : MWv yX5_empty cX5_empty 1 (some .int) 0 := ⟨in_c5 98 rfl rfl, in_c1 5 rfl rfl, in_c5 96 rfl rfl, in_c5 97 rfl rfl, by decide +kernel, by decide +kernel, by decide +kernel⟩
theorem mw_X5_add : MWv yX5_add cX5_add 3 (some .int) 2 := ⟨in_c5 102 rfl rfl, in_c1 5 rfl rfl, in_c5 100 rfl rfl, in_c5 101 rfl rfl, by decide +kernel, by decide +kernel, by decide +kernel⟩
theorem mw_X10_alike : MWv yX10_alike cX10_alike 2 (some .int) 1 := ⟨in_c5 106 rfl rfl, in_c1 1 rfl rfl, in_c5 104 rfl rfl, in_c5 105 rfl rfl, by decide +kernel, by decide +kernel, by decide +kernel⟩
theorem mw_X4_whoReadsAs : MWv yX4_whoReadsAs cX4_whoReadsAs 7 (some .int) 1 := ⟨in_c5 110 rfl rfl, in_c1 12 rfl rfl, in_c5 108 rfl rfl, in_c5 109 rfl rfl, by decide +kernel, by decide +kernel, by decide +kernel⟩
theorem mw_X5_get : MWv yX5_get cX5_get 2 (some .int) 1 := ⟨in_c5 114 rfl rfl, in_c1 5 rfl rfl, in_c5 112 rfl rfl, in_c5 113 rfl rfl, by decide +kernel, by decide +kernel, by decide +kernel⟩
theorem mw_X10_weighs : MWv yX10_weighs cX10_weighs 3 (some .boolean) 2 := ⟨in_c5 119 rfl rfl, in_c1 1 rfl rfl, in_c5 117 rfl rfl, in_c5 118 rfl rfl, by decide +kernel, by decide +kernel, by decide +kernel⟩
theorem mw_X10_lightest : MWv yX10_lightest cX10_lightest 3 (some .int) 2 := ⟨in_c5 124 rfl rfl, in_c1 1 rfl rfl, in_c5 122 rfl rfl, in_c5 123 rfl rfl, by decide +kernel, by decide +kernel, by decide +kernel⟩
theorem mw_X4_leastWeight : MWv yX4_leastWeight cX4_leastWeight 7 (some .int) 1 := ⟨in_c5 128 rfl rfl, in_c1 12 rfl rfl, in_c5 126 rfl rfl, in_c5 127 rfl rfl, by decide +kernel, by decide +kernel, by decide +kernel⟩
theorem mw_X4_rowsOfWants : MWv yX4_rowsOfWants cX4_rowsOfWants 5 (some .int) 1 := ⟨in_c5 134 rfl rfl, in_c1 12 rfl rfl, in_c5 132 rfl rfl, in_c5 133 rfl rfl, by decide +kernel, by decide +kernel, by decide +kernel⟩
theorem mw_X4_thingsThatSay : MWv yX4_thingsThatSay cX4_thingsThatSay 5 (some .int) 2 := ⟨in_c5 138 rfl rfl, in_c1 12 rfl rfl, in_c5 137 rfl rfl, in_c0 34 rfl rfl, by decide +kernel, by decide +kernel, by decide +kernel⟩
theorem mw_X10_hears : MWv yX10_hears cX10_hears 3 (some .int) 1 := ⟨in_c5 143 rfl rfl, in_c1 1 rfl rfl, in_c5 141 rfl rfl, in_c5 142 rfl rfl, by decide +kernel, by decide +kernel, by decide +kernel⟩
theorem mw_X10_heard : MWv yX10_heard cX10_heard 3 (some .int) 2 := ⟨in_c5 147 rfl rfl, in_c1 1 rfl rfl, in_c5 145 rfl rfl, in_c5 146 rfl rfl, by decide +kernel, by decide +kernel, by decide +kernel⟩
theorem mw_X4_rowsHeard : MWv yX4_rowsHeard cX4_rowsHeard 7 (some .int) 1 := ⟨in_c5 151 rfl rfl, in_c1 12 rfl rfl, in_c5 149 rfl rfl, in_c5 150 rfl rfl, by decide +kernel, by decide +kernel, by decide +kernel⟩
theorem mw_X4_isHeardSo : MWv yX4_isHeardSo cX4_isHeardSo 4 (some .boolean) 1 := ⟨in_c5 155 rfl rfl, in_c1 12 rfl rfl, in_c5 153 rfl rfl, in_c5 154 rfl rfl, by decide +kernel, by decide +kernel, by decide +kernel⟩
theorem mw_X10_count : MWv yX10_count cX10_count 2 (some .int) 1 := ⟨in_c5 159 rfl rfl, in_c1 1 rfl rfl, in_c5 157 rfl rfl, in_c5 158 rfl rfl, by decide +kernel, by decide +kernel, by decide +kernel⟩
theorem mw_X10_signs : MWv yX10_signs cX10_signs 1 (some .int) 0 := ⟨in_c5 163 rfl rfl, in_c1 1 rfl rfl, in_c5 161 rfl rfl, in_c5 162 rfl rfl, by decide +kernel, by decide +kernel, by decide +kernel⟩
theorem mw_X4_leastSigns : MWv yX4_leastSigns cX4_leastSigns 5 (some .int) 0 := ⟨in_c5 167 rfl rfl, in_c1 12 rfl rfl, in_c5 165 rfl rfl, in_c5 166 rfl rfl, by decide +kernel, by decide +kernel, by decide +kernel⟩
theorem mw_X4_takeLeast : MWv yX4_takeLeast cX4_takeLeast 4 (some .int) 1 := ⟨in_c5 172 rfl rfl, in_c1 12 rfl rfl, in_c5 171 rfl rfl, in_c0 35 rfl rfl, by decide +kernel, by decide +kernel, by decide +kernel⟩
theorem mw_X10_pins : MWv yX10_pins cX10_pins 3 (some .int) 2 := ⟨in_c5 177 rfl rfl, in_c1 1 rfl rfl, in_c5 175 rfl rfl, in_c5 176 rfl rfl, by decide +kernel, by decide +kernel, by decide +kernel⟩
theorem mw_X4_fewestPricks : MWv yX4_fewestPricks cX4_fewestPricks 5 (some .int) 2 := ⟨in_c5 181 rfl rfl, in_c1 12 rfl rfl, in_c5 179 rfl rfl, in_c5 180 rfl rfl, by decide +kernel, by decide +kernel, by decide +kernel⟩
theorem mw_X10_table : MWv yX10_table cX10_table 5 (some .boolean) 3 := ⟨in_c5 185 rfl rfl, in_c1 1 rfl rfl, in_c5 183 rfl rfl, in_c5 184 rfl rfl, by decide +kernel, by decide +kernel, by decide +kernel⟩
theorem mw_X10_tables : MWv yX10_tables cX10_tables 2 (some .int) 1 := ⟨in_c5 189 rfl rfl, in_c1 1 rfl rfl, in_c5 187 rfl rfl, in_c5 188 rfl rfl, by decide +kernel, by decide +kernel, by decide +kernel⟩
theorem mw_X4_restingCells : MWv yX4_restingCells cX4_restingCells 3 (some .int) 0 := ⟨in_c5 193 rfl rfl, in_c1 12 rfl rfl, in_c5 191 rfl rfl, in_c5 192 rfl rfl, by decide +kernel, by decide +kernel, by decide +kernel⟩
theorem mw_X4_rests : MWv yX4_rests cX4_rests 7 (some .boolean) 1 := ⟨in_c5 197 rfl rfl, in_c1 12 rfl rfl, in_c5 196 rfl rfl, in_c0 36 rfl rfl, by decide +kernel, by decide +kernel, by decide +kernel⟩
theorem mw_X4_firstRest : MWv yX4_firstRest cX4_firstRest 2 (some .int) 0 := ⟨in_c5 201 rfl rfl, in_c1 12 rfl rfl, in_c5 199 rfl rfl, in_c5 200 rfl rfl, by decide +kernel, by decide +kernel, by decide +kernel⟩
theorem mw_X4_leads : MWv yX4_leads cX4_leads 3 (some .int) 0 := ⟨in_c5 205 rfl rfl, in_c1 12 rfl rfl, in_c5 203 rfl rfl, in_c5 204 rfl rfl, by decide +kernel, by decide +kernel, by decide +kernel⟩
theorem mw_X4_whatRowGets : MWv yX4_whatRowGets cX4_whatRowGets 5 (some .int) 1 := ⟨in_c5 209 rfl rfl, in_c1 12 rfl rfl, in_c5 208 rfl rfl, in_c0 37 rfl rfl, by decide +kernel, by decide +kernel, by decide +kernel⟩
theorem mw_X10_stand : MWv yX10_stand cX10_stand 7 (some .int) 3 := ⟨in_c5 214 rfl rfl, in_c1 1 rfl rfl, in_c5 212 rfl rfl, in_c5 213 rfl rfl, by decide +kernel, by decide +kernel, by decide +kernel⟩
theorem mw_X4_bestStand : MWv yX4_bestStand cX4_bestStand 4 (some .int) 1 := ⟨in_c5 218 rfl rfl, in_c1 12 rfl rfl, in_c5 216 rfl rfl, in_c5 217 rfl rfl, by decide +kernel, by decide +kernel, by decide +kernel⟩
theorem mw_X4_standChance : MWv yX4_standChance cX4_standChance 5 (some .int) 2 := ⟨in_c5 222 rfl rfl, in_c1 12 rfl rfl, in_c5 220 rfl rfl, in_c5 221 rfl rfl, by decide +kernel, by decide +kernel, by decide +kernel⟩
theorem mw_X4_commonPart : MWv yX4_commonPart cX4_commonPart 7 (some .int) 2 := ⟨in_c5 227 rfl rfl, in_c1 12 rfl rfl, in_c5 225 rfl rfl, in_c5 226 rfl rfl, by decide +kernel, by decide +kernel, by decide +kernel⟩
theorem mw_X10_worth : MWv yX10_worth cX10_worth 5 (some .boolean) 3 := ⟨in_c5 232 rfl rfl, in_c1 1 rfl rfl, in_c5 230 rfl rfl, in_c5 231 rfl rfl, by decide +kernel, by decide +kernel, by decide +kernel⟩
theorem mw_X10_sent : MWv yX10_sent cX10_sent 3 (some .int) 2 := ⟨in_c5 236 rfl rfl, in_c1 1 rfl rfl, in_c5 234 rfl rfl, in_c5 235 rfl rfl, by decide +kernel, by decide +kernel, by decide +kernel⟩
theorem mw_X4_mostSent : MWv yX4_mostSent cX4_mostSent 2 (some .int) 1 := ⟨in_c6 0 rfl rfl, in_c1 12 rfl rfl, in_c5 238 rfl rfl, in_c5 239 rfl rfl, by decide +kernel, by decide +kernel, by decide +kernel⟩
theorem mw_X4_planSending : MWv yX4_planSending cX4_planSending 7 none 1 := ⟨in_c6 4 rfl rfl, in_c1 12 rfl rfl, in_c6 3 rfl rfl, in_c0 38 rfl rfl, by decide +kernel, by decide +kernel, by decide +kernel⟩
theorem mw_Integer_bitCount__I_I : MWs ⟨"java/lang/Integer", "bitCount", "(I)I"⟩ prog_15_method_49_code 1 (some .int) 1 := ⟨in_c6 7 rfl rfl, in_c1 21 rfl rfl, in_c6 6 rfl rfl, by decide +kernel, by decide +kernel, by decide +kernel⟩
theorem mw_X4_worthIfSent : MWv yX4_worthIfSent cX4_worthIfSent 4 (some .int) 3 := ⟨in_c6 14 rfl rfl, in_c1 12 rfl rfl, in_c6 13 rfl rfl, in_c0 39 rfl rfl, by decide +kernel, by decide +kernel, by decide +kernel⟩
theorem mw_X4_howSent : MWv yX4_howSent cX4_howSent 7 (some .int) 1 := ⟨in_c6 18 rfl rfl, in_c1 12 rfl rfl, in_c6 16 rfl rfl, in_c6 17 rfl rfl, by decide +kernel, by decide +kernel, by decide +kernel⟩
theorem mw_X10_load : MWv yX10_load cX10_load 4 (some .int) 2 := ⟨in_c6 22 rfl rfl, in_c1 1 rfl rfl, in_c6 20 rfl rfl, in_c6 21 rfl rfl, by decide +kernel, by decide +kernel, by decide +kernel⟩
theorem mw_X10_carried : MWv yX10_carried cX10_carried 4 (some .int) 2 := ⟨in_c6 28 rfl rfl, in_c1 1 rfl rfl, in_c6 26 rfl rfl, in_c6 27 rfl rfl, by decide +kernel, by decide +kernel, by decide +kernel⟩
theorem mw_X4_bestLoad : MWv yX4_bestLoad cX4_bestLoad 7 (some .int) 1 := ⟨in_c6 32 rfl rfl, in_c1 12 rfl rfl, in_c6 30 rfl rfl, in_c6 31 rfl rfl, by decide +kernel, by decide +kernel, by decide +kernel⟩
theorem mw_X4_worthOf : MWv yX4_worthOf cX4_worthOf 4 (some .int) 1 := ⟨in_c6 37 rfl rfl, in_c1 12 rfl rfl, in_c6 35 rfl rfl, in_c6 36 rfl rfl, by decide +kernel, by decide +kernel, by decide +kernel⟩
theorem mw_X10_promise : MWv yX10_promise cX10_promise 5 (some .int) 3 := ⟨in_c6 41 rfl rfl, in_c1 1 rfl rfl, in_c6 39 rfl rfl, in_c6 40 rfl rfl, by decide +kernel, by decide +kernel, by decide +kernel⟩
theorem mw_X10_kept : MWv yX10_kept cX10_kept 2 (some .int) 1 := ⟨in_c6 45 rfl rfl, in_c1 1 rfl rfl, in_c6 43 rfl rfl, in_c6 44 rfl rfl, by decide +kernel, by decide +kernel, by decide +kernel⟩
theorem mw_X4_waysKept : MWv yX4_waysKept cX4_waysKept 3 (some .int) 0 := ⟨in_c6 49 rfl rfl, in_c1 12 rfl rfl, in_c6 47 rfl rfl, in_c6 48 rfl rfl, by decide +kernel, by decide +kernel, by decide +kernel⟩
theorem mw_X4_holds : MWv yX4_holds cX4_holds 6 (some .boolean) 1 := ⟨in_c6 53 rfl rfl, in_c1 12 rfl rfl, in_c6 52 rfl rfl, in_c0 40 rfl rfl, by decide +kernel, by decide +kernel, by decide +kernel⟩
theorem mw_X4_leastKept : MWv yX4_leastKept cX4_leastKept 2 (some .int) 0 := ⟨in_c6 57 rfl rfl, in_c1 12 rfl rfl, in_c6 55 rfl rfl, in_c6 56 rfl rfl, by decide +kernel, by decide +kernel, by decide +kernel⟩
theorem mw_X4_surelyKept : MWv yX4_surelyKept cX4_surelyKept 4 (some .int) 0 := ⟨in_c6 61 rfl rfl, in_c1 12 rfl rfl, in_c6 59 rfl rfl, in_c6 60 rfl rfl, by decide +kernel, by decide +kernel, by decide +kernel⟩
theorem mw_X10_hat : MWv yX10_hat cX10_hat 3 (some .boolean) 2 := ⟨in_c6 65 rfl rfl, in_c1 1 rfl rfl, in_c6 63 rfl rfl, in_c6 64 rfl rfl, by decide +kernel, by decide +kernel, by decide +kernel⟩
theorem mw_X10_hats : MWv yX10_hats cX10_hats 2 (some .int) 1 := ⟨in_c6 69 rfl rfl, in_c1 1 rfl rfl, in_c6 67 rfl rfl, in_c6 68 rfl rfl, by decide +kernel, by decide +kernel, by decide +kernel⟩
theorem mw_X4_waysOfHats : MWv yX4_waysOfHats cX4_waysOfHats 7 (some .int) 1 := ⟨in_c6 73 rfl rfl, in_c1 12 rfl rfl, in_c6 71 rfl rfl, in_c6 72 rfl rfl, by decide +kernel, by decide +kernel, by decide +kernel⟩
theorem mw_X10_border : MWv yX10_border cX10_border 4 (some .int) 2 := ⟨in_c6 77 rfl rfl, in_c1 1 rfl rfl, in_c6 75 rfl rfl, in_c6 76 rfl rfl, by decide +kernel, by decide +kernel, by decide +kernel⟩
theorem mw_X10_map : MWv yX10_map cX10_map 2 (some .int) 1 := ⟨in_c6 81 rfl rfl, in_c1 1 rfl rfl, in_c6 79 rfl rfl, in_c6 80 rfl rfl, by decide +kernel, by decide +kernel, by decide +kernel⟩
theorem mw_X4_fewestColours : MWv yX4_fewestColours cX4_fewestColours 2 (some .int) 0 := ⟨in_c6 85 rfl rfl, in_c1 12 rfl rfl, in_c6 83 rfl rfl, in_c6 84 rfl rfl, by decide +kernel, by decide +kernel, by decide +kernel⟩
theorem mw_X4_paintAll : MWv yX4_paintAll cX4_paintAll 4 none 0 := ⟨in_c6 89 rfl rfl, in_c1 12 rfl rfl, in_c6 88 rfl rfl, in_c0 41 rfl rfl, by decide +kernel, by decide +kernel, by decide +kernel⟩
theorem mw_X4_paint : MWs yX4_paint cX4_paint 6 none 5 := ⟨in_c6 92 rfl rfl, in_c1 12 rfl rfl, in_c6 91 rfl rfl, by decide +kernel, by decide +kernel, by decide +kernel⟩
theorem mw_X4_waysPainted : MWv yX4_waysPainted cX4_waysPainted 5 (some .int) 1 := ⟨in_c6 96 rfl rfl, in_c1 12 rfl rfl, in_c6 94 rfl rfl, in_c6 95 rfl rfl, by decide +kernel, by decide +kernel, by decide +kernel⟩
theorem mw_X10_cloth : MWv yX10_cloth cX10_cloth 4 (some .int) 2 := ⟨in_c6 100 rfl rfl, in_c1 1 rfl rfl, in_c6 98 rfl rfl, in_c6 99 rfl rfl, by decide +kernel, by decide +kernel, by decide +kernel⟩
theorem mw_X10_cloths : MWv yX10_cloths cX10_cloths 2 (some .int) 1 := ⟨in_c6 104 rfl rfl, in_c1 1 rfl rfl, in_c6 102 rfl rfl, in_c6 103 rfl rfl, by decide +kernel, by decide +kernel, by decide +kernel⟩
theorem mw_X4_mostAlike : MWv yX4_mostAlike cX4_mostAlike 5 (some .int) 0 := ⟨in_c6 108 rfl rfl, in_c1 12 rfl rfl, in_c6 106 rfl rfl, in_c6 107 rfl rfl, by decide +kernel, by decide +kernel, by decide +kernel⟩
theorem mw_X4_laid : MWv yX4_laid cX4_laid 3 (some .int) 2 := ⟨in_c6 112 rfl rfl, in_c1 12 rfl rfl, in_c6 111 rfl rfl, in_c0 42 rfl rfl, by decide +kernel, by decide +kernel, by decide +kernel⟩
theorem mw_X4_fewestChanges : MWv yX4_fewestChanges cX4_fewestChanges 5 (some .int) 0 := ⟨in_c6 116 rfl rfl, in_c1 12 rfl rfl, in_c6 114 rfl rfl, in_c6 115 rfl rfl, by decide +kernel, by decide +kernel, by decide +kernel⟩
theorem mw_X10_interpreter : MWv yX10_interpreter cX10_interpreter 2 (some .int) 1 := ⟨in_c6 121 rfl rfl, in_c1 1 rfl rfl, in_c6 119 rfl rfl, in_c6 120 rfl rfl, by decide +kernel, by decide +kernel, by decide +kernel⟩
theorem mw_X4_hasEachWordOnce : MWv yX4_hasEachWordOnce cX4_hasEachWordOnce 4 (some .boolean) 1 := ⟨in_c6 125 rfl rfl, in_c1 12 rfl rfl, in_c6 123 rfl rfl, in_c6 124 rfl rfl, by decide +kernel, by decide +kernel, by decide +kernel⟩
theorem mw_X4_madeOf : MWv yX4_madeOf cX4_madeOf 5 (some .int) 2 := ⟨in_c6 131 rfl rfl, in_c1 12 rfl rfl, in_c6 130 rfl rfl, in_c0 43 rfl rfl, by decide +kernel, by decide +kernel, by decide +kernel⟩
theorem mw_X10_word : MWv yX10_word cX10_word 2 (some .int) 1 := ⟨in_c6 135 rfl rfl, in_c1 1 rfl rfl, in_c6 133 rfl rfl, in_c6 134 rfl rfl, by decide +kernel, by decide +kernel, by decide +kernel⟩
theorem mw_X4_roundsOfWords : MWv yX4_roundsOfWords cX4_roundsOfWords 4 (some .int) 0 := ⟨in_c6 139 rfl rfl, in_c1 12 rfl rfl, in_c6 137 rfl rfl, in_c6 138 rfl rfl, by decide +kernel, by decide +kernel, by decide +kernel⟩
theorem mw_X4_roundsOf : MWv yX4_roundsOf cX4_roundsOf 4 (some .int) 1 := ⟨in_c6 143 rfl rfl, in_c1 12 rfl rfl, in_c6 142 rfl rfl, in_c0 44 rfl rfl, by decide +kernel, by decide +kernel, by decide +kernel⟩
theorem mw_X4_becomes : MWv yX4_becomes cX4_becomes 4 (some .int) 1 := ⟨in_c6 147 rfl rfl, in_c1 12 rfl rfl, in_c6 145 rfl rfl, in_c6 146 rfl rfl, by decide +kernel, by decide +kernel, by decide +kernel⟩
theorem mw_X10_silence : MWv yX10_silence cX10_silence 6 (some .int) 4 := ⟨in_c6 152 rfl rfl, in_c1 1 rfl rfl, in_c6 150 rfl rfl, in_c6 151 rfl rfl, by decide +kernel, by decide +kernel, by decide +kernel⟩
theorem mw_X4_beginning : MWv yX4_beginning cX4_beginning 5 (some .int) 4 := ⟨in_c6 156 rfl rfl, in_c1 12 rfl rfl, in_c6 154 rfl rfl, in_c6 155 rfl rfl, by decide +kernel, by decide +kernel, by decide +kernel⟩
theorem mw_X4_learnSilence : MWv yX4_learnSilence cX4_learnSilence 3 none 0 := ⟨in_c6 160 rfl rfl, in_c1 12 rfl rfl, in_c6 159 rfl rfl, in_c0 45 rfl rfl, by decide +kernel, by decide +kernel, by decide +kernel⟩
theorem mw_X4_firstWinningMove : MWv yX4_firstWinningMove cX4_firstWinningMove 10 (some .int) 4 := ⟨in_c6 164 rfl rfl, in_c1 12 rfl rfl, in_c6 163 rfl rfl, in_c0 46 rfl rfl, by decide +kernel, by decide +kernel, by decide +kernel⟩
theorem mw_X4_isWon : MWv yX4_isWon cX4_isWon 2 (some .boolean) 1 := ⟨in_c6 168 rfl rfl, in_c1 12 rfl rfl, in_c6 167 rfl rfl, in_c0 47 rfl rfl, by decide +kernel, by decide +kernel, by decide +kernel⟩
theorem mw_X10_undo : MWv yX10_undo cX10_undo 1 (some .boolean) 0 := ⟨in_c6 172 rfl rfl, in_c1 1 rfl rfl, in_c6 170 rfl rfl, in_c6 171 rfl rfl, by decide +kernel, by decide +kernel, by decide +kernel⟩
theorem mw_X1_giveBack : MWv yX1_giveBack cX1_giveBack 3 (some .boolean) 1 := ⟨in_c6 176 rfl rfl, in_c1 8 rfl rfl, in_c6 174 rfl rfl, in_c6 175 rfl rfl, by decide +kernel, by decide +kernel, by decide +kernel⟩
theorem mw_X10_image : MWv yX10_image cX10_image 2 (some .boolean) 1 := ⟨in_c6 180 rfl rfl, in_c1 1 rfl rfl, in_c6 178 rfl rfl, in_c6 179 rfl rfl, by decide +kernel, by decide +kernel, by decide +kernel⟩
theorem mw_X9_copyFrom : MWv yX9_copyFrom cX9_copyFrom 2 none 1 := ⟨in_c6 184 rfl rfl, in_c1 2 rfl rfl, in_c6 182 rfl rfl, in_c6 183 rfl rfl, by decide +kernel, by decide +kernel, by decide +kernel⟩
theorem mw_X7_copyFrom : MWv yX7_copyFrom cX7_copyFrom 2 none 1 := ⟨in_c6 189 rfl rfl, in_c1 4 rfl rfl, in_c6 187 rfl rfl, in_c6 188 rfl rfl, by decide +kernel, by decide +kernel, by decide +kernel⟩
theorem mw_X5_copyFrom : MWv yX5_copyFrom cX5_copyFrom 2 none 1 := ⟨in_c6 193 rfl rfl, in_c1 5 rfl rfl, in_c6 191 rfl rfl, in_c6 192 rfl rfl, by decide +kernel, by decide +kernel, by decide +kernel⟩
theorem mw_X10_look : MWv yX10_look cX10_look 3 (some .int) 1 := ⟨in_c6 201 rfl rfl, in_c1 1 rfl rfl, in_c6 199 rfl rfl, in_c6 200 rfl rfl, by decide +kernel, by decide +kernel, by decide +kernel⟩
theorem mw_X8_whoIsAway : MWv yX8_whoIsAway cX8_whoIsAway 3 (some .int) 0 := ⟨in_c6 205 rfl rfl, in_c1 3 rfl rfl, in_c6 203 rfl rfl, in_c6 204 rfl rfl, by decide +kernel, by decide +kernel, by decide +kernel⟩
theorem mw_X8_whoIsKnown : MWv yX8_whoIsKnown cX8_whoIsKnown 3 (some .int) 0 := ⟨in_c6 209 rfl rfl, in_c1 3 rfl rfl, in_c6 207 rfl rfl, in_c6 208 rfl rfl, by decide +kernel, by decide +kernel, by decide +kernel⟩
theorem mw_X11_layNone : MWv yX11_layNone cX11_layNone 2 none 0 := ⟨in_c6 219 rfl rfl, in_c1 13 rfl rfl, in_c6 218 rfl rfl, in_c0 48 rfl rfl, by decide +kernel, by decide +kernel, by decide +kernel⟩
theorem mw_X11_state : MWv yX11_state cX11_state 3 (some .int) 1 := ⟨in_c7 95 rfl rfl, in_c1 13 rfl rfl, in_c7 93 rfl rfl, in_c7 94 rfl rfl, by decide +kernel, by decide +kernel, by decide +kernel⟩
theorem mw_X11_forgets : MWv yX11_forgets cX11_forgets 1 none 0 := ⟨in_c7 99 rfl rfl, in_c1 13 rfl rfl, in_c7 98 rfl rfl, in_c0 49 rfl rfl, by decide +kernel, by decide +kernel, by decide +kernel⟩
theorem mw_X11_power : MWv yX11_power cX11_power 2 (some .int) 1 := ⟨in_c7 103 rfl rfl, in_c1 13 rfl rfl, in_c7 101 rfl rfl, in_c7 102 rfl rfl, by decide +kernel, by decide +kernel, by decide +kernel⟩
theorem mw_X11_isIn : MWs yX11_isIn cX11_isIn 3 (some .boolean) 3 := ⟨in_c7 106 rfl rfl, in_c1 13 rfl rfl, in_c7 105 rfl rfl, by decide +kernel, by decide +kernel, by decide +kernel⟩
theorem mw_X11_mute : MWv yX11_mute cX11_mute 5 (some .int) 3 := ⟨in_c7 110 rfl rfl, in_c1 13 rfl rfl, in_c7 108 rfl rfl, in_c7 109 rfl rfl, by decide +kernel, by decide +kernel, by decide +kernel⟩
theorem mw_X11_set : MWv yX11_set cX11_set 5 (some .boolean) 3 := ⟨in_c7 114 rfl rfl, in_c1 13 rfl rfl, in_c7 112 rfl rfl, in_c7 113 rfl rfl, by decide +kernel, by decide +kernel, by decide +kernel⟩
theorem mw_X11_isPower : MWv yX11_isPower cX11_isPower 2 (some .boolean) 1 := ⟨in_c7 118 rfl rfl, in_c1 13 rfl rfl, in_c7 117 rfl rfl, in_c0 50 rfl rfl, by decide +kernel, by decide +kernel, by decide +kernel⟩
theorem mw_X11_isMute : MWv yX11_isMute cX11_isMute 2 (some .boolean) 1 := ⟨in_c7 122 rfl rfl, in_c1 13 rfl rfl, in_c7 121 rfl rfl, in_c0 51 rfl rfl, by decide +kernel, by decide +kernel, by decide +kernel⟩
theorem mw_X11_feed : MWv yX11_feed cX11_feed 8 (some .int) 5 := ⟨in_c7 126 rfl rfl, in_c1 13 rfl rfl, in_c7 124 rfl rfl, in_c7 125 rfl rfl, by decide +kernel, by decide +kernel, by decide +kernel⟩
theorem mw_X11_end : MWv yX11_end cX11_end 2 (some .boolean) 1 := ⟨in_c7 130 rfl rfl, in_c1 13 rfl rfl, in_c7 128 rfl rfl, in_c7 129 rfl rfl, by decide +kernel, by decide +kernel, by decide +kernel⟩
theorem mw_X11_text : MWv yX11_text cX11_text 3 (some .int) 1 := ⟨in_c7 134 rfl rfl, in_c1 13 rfl rfl, in_c7 132 rfl rfl, in_c7 133 rfl rfl, by decide +kernel, by decide +kernel, by decide +kernel⟩
theorem mw_X11_next0 : MWv yX11_next0 cX11_next0 3 none 0 := ⟨in_c7 138 rfl rfl, in_c1 13 rfl rfl, in_c7 137 rfl rfl, in_c0 52 rfl rfl, by decide +kernel, by decide +kernel, by decide +kernel⟩
theorem mw_X11_see : MWv yX11_see cX11_see 2 (some .int) 1 := ⟨in_c7 142 rfl rfl, in_c1 13 rfl rfl, in_c7 141 rfl rfl, in_c0 53 rfl rfl, by decide +kernel, by decide +kernel, by decide +kernel⟩
theorem mw_X11_isLetter : MWs yX11_isLetter cX11_isLetter 1 (some .boolean) 1 := ⟨in_c7 145 rfl rfl, in_c1 13 rfl rfl, in_c7 144 rfl rfl, by decide +kernel, by decide +kernel, by decide +kernel⟩
theorem mw_X11_wordOf : MWv yX11_wordOf cX11_wordOf 1 (some .int) 0 := ⟨in_c7 149 rfl rfl, in_c1 13 rfl rfl, in_c7 148 rfl rfl, in_c0 54 rfl rfl, by decide +kernel, by decide +kernel, by decide +kernel⟩
theorem mw_X11_lawWord : MWv yX11_lawWord cX11_lawWord 1 (some .int) 0 := ⟨in_c7 153 rfl rfl, in_c1 13 rfl rfl, in_c7 152 rfl rfl, in_c0 55 rfl rfl, by decide +kernel, by decide +kernel, by decide +kernel⟩
theorem mw_X11_is : MWv yX11_is cX11_is 4 (some .boolean) 1 := ⟨in_c7 158 rfl rfl, in_c1 13 rfl rfl, in_c7 157 rfl rfl, in_c0 56 rfl rfl, by decide +kernel, by decide +kernel, by decide +kernel⟩
theorem mw_X11_asked : MWv yX11_asked cX11_asked 1 (some .int) 0 := ⟨in_c7 170 rfl rfl, in_c1 13 rfl rfl, in_c7 169 rfl rfl, in_c0 57 rfl rfl, by decide +kernel, by decide +kernel, by decide +kernel⟩
theorem mw_X11_courtWord : MWv yX11_courtWord cX11_courtWord 1 (some .int) 0 := ⟨in_c7 185 rfl rfl, in_c1 13 rfl rfl, in_c7 184 rfl rfl, in_c0 58 rfl rfl, by decide +kernel, by decide +kernel, by decide +kernel⟩
theorem mw_X11_isDigit : MWs yX11_isDigit cX11_isDigit 1 (some .boolean) 1 := ⟨in_c7 194 rfl rfl, in_c1 13 rfl rfl, in_c7 193 rfl rfl, by decide +kernel, by decide +kernel, by decide +kernel⟩
theorem mw_X11_readsLaw : MWv yX11_readsLaw cX11_readsLaw 2 (some .boolean) 0 := ⟨in_c7 198 rfl rfl, in_c1 13 rfl rfl, in_c7 197 rfl rfl, in_c0 59 rfl rfl, by decide +kernel, by decide +kernel, by decide +kernel⟩
theorem mw_X11_aLine : MWv yX11_aLine cX11_aLine 1 (some .boolean) 0 := ⟨in_c7 202 rfl rfl, in_c1 13 rfl rfl, in_c7 201 rfl rfl, in_c0 60 rfl rfl, by decide +kernel, by decide +kernel, by decide +kernel⟩
theorem mw_X11_bad : MWv yX11_bad cX11_bad 2 (some .boolean) 1 := ⟨in_c7 206 rfl rfl, in_c1 13 rfl rfl, in_c7 205 rfl rfl, in_c0 61 rfl rfl, by decide +kernel, by decide +kernel, by decide +kernel⟩
theorem mw_X11_sumUp : MWv yX11_sumUp cX11_sumUp 2 (some .boolean) 0 := ⟨in_c7 210 rfl rfl, in_c1 13 rfl rfl, in_c7 209 rfl rfl, in_c0 62 rfl rfl, by decide +kernel, by decide +kernel, by decide +kernel⟩
theorem mw_X11_product : MWv yX11_product cX11_product 3 (some .boolean) 0 := ⟨in_c7 214 rfl rfl, in_c1 13 rfl rfl, in_c7 213 rfl rfl, in_c0 63 rfl rfl, by decide +kernel, by decide +kernel, by decide +kernel⟩
theorem mw_X11_unit : MWv yX11_unit cX11_unit 2 (some .boolean) 0 := ⟨in_c7 218 rfl rfl, in_c1 13 rfl rfl, in_c7 217 rfl rfl, in_c0 64 rfl rfl, by decide +kernel, by decide +kernel, by decide +kernel⟩
theorem mw_X11_lay : MWv yX11_lay cX11_lay 3 none 2 := ⟨in_c7 222 rfl rfl, in_c1 13 rfl rfl, in_c7 221 rfl rfl, in_c0 65 rfl rfl, by decide +kernel, by decide +kernel, by decide +kernel⟩
theorem mw_X11_any : MWv yX11_any cX11_any 1 (some .boolean) 0 := ⟨in_c7 226 rfl rfl, in_c1 13 rfl rfl, in_c7 225 rfl rfl, in_c0 66 rfl rfl, by decide +kernel, by decide +kernel, by decide +kernel⟩
theorem mw_X11_every : MWv yX11_every cX11_every 1 (some .boolean) 0 := ⟨in_c7 230 rfl rfl, in_c1 13 rfl rfl, in_c7 229 rfl rfl, in_c0 67 rfl rfl, by decide +kernel, by decide +kernel, by decide +kernel⟩
theorem mw_X11_oneTest : MWv yX11_oneTest cX11_oneTest 2 (some .boolean) 0 := ⟨in_c7 234 rfl rfl, in_c1 13 rfl rfl, in_c7 233 rfl rfl, in_c0 68 rfl rfl, by decide +kernel, by decide +kernel, by decide +kernel⟩
theorem mw_X11_opens : MWv yX11_opens cX11_opens 1 (some .boolean) 0 := ⟨in_c7 238 rfl rfl, in_c1 13 rfl rfl, in_c7 237 rfl rfl, in_c0 69 rfl rfl, by decide +kernel, by decide +kernel, by decide +kernel⟩
theorem mw_X11_need : MWv yX11_need cX11_need 2 (some .boolean) 1 := ⟨in_c8 2 rfl rfl, in_c1 13 rfl rfl, in_c8 1 rfl rfl, in_c0 70 rfl rfl, by decide +kernel, by decide +kernel, by decide +kernel⟩
theorem mw_X11_readsRows : MWv yX11_readsRows cX11_readsRows 2 (some .boolean) 0 := ⟨in_c8 6 rfl rfl, in_c1 13 rfl rfl, in_c8 5 rfl rfl, in_c0 71 rfl rfl, by decide +kernel, by decide +kernel, by decide +kernel⟩
theorem mw_X11_aRow : MWv yX11_aRow cX11_aRow 1 (some .boolean) 0 := ⟨in_c8 10 rfl rfl, in_c1 13 rfl rfl, in_c8 9 rfl rfl, in_c0 72 rfl rfl, by decide +kernel, by decide +kernel, by decide +kernel⟩
theorem mw_X11_aTongue : MWv yX11_aTongue cX11_aTongue 1 (some .boolean) 0 := ⟨in_c8 14 rfl rfl, in_c1 13 rfl rfl, in_c8 13 rfl rfl, in_c0 73 rfl rfl, by decide +kernel, by decide +kernel, by decide +kernel⟩
theorem mw_X11_told : MWv yX11_told cX11_told 5 (some .boolean) 4 := ⟨in_c8 18 rfl rfl, in_c1 13 rfl rfl, in_c8 17 rfl rfl, in_c0 74 rfl rfl, by decide +kernel, by decide +kernel, by decide +kernel⟩
theorem mw_X11_number : MWv yX11_number cX11_number 4 (some .boolean) 3 := ⟨in_c8 22 rfl rfl, in_c1 13 rfl rfl, in_c8 21 rfl rfl, in_c0 75 rfl rfl, by decide +kernel, by decide +kernel, by decide +kernel⟩
theorem mw_X11_aCourtDay : MWv yX11_aCourtDay cX11_aCourtDay 3 (some .boolean) 0 := ⟨in_c8 26 rfl rfl, in_c1 13 rfl rfl, in_c8 25 rfl rfl, in_c0 76 rfl rfl, by decide +kernel, by decide +kernel, by decide +kernel⟩
theorem mw_X11_aWant : MWv yX11_aWant cX11_aWant 3 (some .boolean) 0 := ⟨in_c8 30 rfl rfl, in_c1 13 rfl rfl, in_c8 29 rfl rfl, in_c0 77 rfl rfl, by decide +kernel, by decide +kernel, by decide +kernel⟩
theorem mw_X11_putsText : MWv yX11_putsText cX11_putsText 3 (some .int) 1 := ⟨in_c8 34 rfl rfl, in_c1 13 rfl rfl, in_c8 33 rfl rfl, in_c0 78 rfl rfl, by decide +kernel, by decide +kernel, by decide +kernel⟩
theorem mw_X11_putsLaw : MWv yX11_putsLaw cX11_putsLaw 2 (some .int) 0 := ⟨in_c8 38 rfl rfl, in_c1 13 rfl rfl, in_c8 37 rfl rfl, in_c0 79 rfl rfl, by decide +kernel, by decide +kernel, by decide +kernel⟩
theorem mw_X11_puts : MWv yX11_puts cX11_puts 5 (some .int) 3 := ⟨in_c8 42 rfl rfl, in_c1 13 rfl rfl, in_c8 41 rfl rfl, in_c0 80 rfl rfl, by decide +kernel, by decide +kernel, by decide +kernel⟩
theorem mw_X11_fault : MWv yX11_fault cX11_fault 2 (some .int) 1 := ⟨in_c8 46 rfl rfl, in_c1 13 rfl rfl, in_c8 44 rfl rfl, in_c8 45 rfl rfl, by decide +kernel, by decide +kernel, by decide +kernel⟩
theorem mw_X11_undo : MWv yX11_undo cX11_undo 2 (some .boolean) 0 := ⟨in_c8 50 rfl rfl, in_c1 13 rfl rfl, in_c8 48 rfl rfl, in_c8 49 rfl rfl, by decide +kernel, by decide +kernel, by decide +kernel⟩
theorem mw_X11_act : MWv yX11_act cX11_act 5 (some .boolean) 3 := ⟨in_c8 54 rfl rfl, in_c1 13 rfl rfl, in_c8 52 rfl rfl, in_c8 53 rfl rfl, by decide +kernel, by decide +kernel, by decide +kernel⟩
theorem mw_X11_canAct : MWv yX11_canAct cX11_canAct 5 (some .boolean) 3 := ⟨in_c8 58 rfl rfl, in_c1 13 rfl rfl, in_c8 57 rfl rfl, in_c0 81 rfl rfl, by decide +kernel, by decide +kernel, by decide +kernel⟩
theorem mw_X11_keeps : MWv yX11_keeps cX11_keeps 2 none 0 := ⟨in_c8 62 rfl rfl, in_c1 13 rfl rfl, in_c8 61 rfl rfl, in_c0 82 rfl rfl, by decide +kernel, by decide +kernel, by decide +kernel⟩
theorem mw_X11_sends : MWv yX11_sends cX11_sends 3 none 2 := ⟨in_c8 66 rfl rfl, in_c1 13 rfl rfl, in_c8 65 rfl rfl, in_c0 83 rfl rfl, by decide +kernel, by decide +kernel, by decide +kernel⟩
theorem mw_X11_notes : MWv yX11_notes cX11_notes 5 none 3 := ⟨in_c8 70 rfl rfl, in_c1 13 rfl rfl, in_c8 69 rfl rfl, in_c0 84 rfl rfl, by decide +kernel, by decide +kernel, by decide +kernel⟩
theorem mw_X11_calls : MWv yX11_calls cX11_calls 2 none 1 := ⟨in_c8 74 rfl rfl, in_c1 13 rfl rfl, in_c8 73 rfl rfl, in_c0 85 rfl rfl, by decide +kernel, by decide +kernel, by decide +kernel⟩
theorem mw_X11_criesOf : MWv yX11_criesOf cX11_criesOf 2 (some .int) 1 := ⟨in_c8 78 rfl rfl, in_c1 13 rfl rfl, in_c8 77 rfl rfl, in_c0 86 rfl rfl, by decide +kernel, by decide +kernel, by decide +kernel⟩
theorem mw_X11_asks : MWv yX11_asks cX11_asks 4 none 2 := ⟨in_c8 82 rfl rfl, in_c1 13 rfl rfl, in_c8 81 rfl rfl, in_c0 87 rfl rfl, by decide +kernel, by decide +kernel, by decide +kernel⟩
theorem mw_X11_meaning : MWv yX11_meaning cX11_meaning 3 (some .int) 2 := ⟨in_c8 86 rfl rfl, in_c1 13 rfl rfl, in_c8 85 rfl rfl, in_c0 88 rfl rfl, by decide +kernel, by decide +kernel, by decide +kernel⟩
theorem mw_X11_lawSays : MWv yX11_lawSays cX11_lawSays 6 (some .int) 3 := ⟨in_c8 90 rfl rfl, in_c1 13 rfl rfl, in_c8 89 rfl rfl, in_c0 89 rfl rfl, by decide +kernel, by decide +kernel, by decide +kernel⟩
theorem mw_X11_isSo : MWv yX11_isSo cX11_isSo 2 (some .boolean) 1 := ⟨in_c8 94 rfl rfl, in_c1 13 rfl rfl, in_c8 93 rfl rfl, in_c0 90 rfl rfl, by decide +kernel, by decide +kernel, by decide +kernel⟩
theorem mw_X11_comesTo : MWv yX11_comesTo cX11_comesTo 7 (some .int) 2 := ⟨in_c8 98 rfl rfl, in_c1 13 rfl rfl, in_c8 97 rfl rfl, in_c0 91 rfl rfl, by decide +kernel, by decide +kernel, by decide +kernel⟩
theorem mw_X11_both : MWs yX11_both cX11_both 3 (some .int) 3 := ⟨in_c8 101 rfl rfl, in_c1 13 rfl rfl, in_c8 100 rfl rfl, by decide +kernel, by decide +kernel, by decide +kernel⟩
theorem mw_X11_lesser : MWs yX11_lesser cX11_lesser 2 (some .int) 2 := ⟨in_c8 104 rfl rfl, in_c1 13 rfl rfl, in_c8 103 rfl rfl, by decide +kernel, by decide +kernel, by decide +kernel⟩
theorem mw_X11_greater : MWs yX11_greater cX11_greater 2 (some .int) 2 := ⟨in_c8 107 rfl rfl, in_c1 13 rfl rfl, in_c8 106 rfl rfl, by decide +kernel, by decide +kernel, by decide +kernel⟩
theorem mw_X11_falls : MWv yX11_falls cX11_falls 2 (some .boolean) 1 := ⟨in_c8 111 rfl rfl, in_c1 13 rfl rfl, in_c8 110 rfl rfl, in_c0 92 rfl rfl, by decide +kernel, by decide +kernel, by decide +kernel⟩
theorem mw_X11_draw : MWv yX11_draw cX11_draw 2 (some .int) 1 := ⟨in_c8 115 rfl rfl, in_c1 13 rfl rfl, in_c8 114 rfl rfl, in_c0 93 rfl rfl, by decide +kernel, by decide +kernel, by decide +kernel⟩
theorem mw_X11_days : MWv yX11_days cX11_days 4 (some .int) 1 := ⟨in_c8 121 rfl rfl, in_c1 13 rfl rfl, in_c8 119 rfl rfl, in_c8 120 rfl rfl, by decide +kernel, by decide +kernel, by decide +kernel⟩
theorem mw_X11_goesBy : MWv yX11_goesBy cX11_goesBy 3 (some .int) 0 := ⟨in_c8 125 rfl rfl, in_c1 13 rfl rfl, in_c8 124 rfl rfl, in_c0 94 rfl rfl, by decide +kernel, by decide +kernel, by decide +kernel⟩
theorem mw_X11_court : MWv yX11_court cX11_court 3 none 0 := ⟨in_c8 129 rfl rfl, in_c1 13 rfl rfl, in_c8 128 rfl rfl, in_c0 95 rfl rfl, by decide +kernel, by decide +kernel, by decide +kernel⟩
theorem mw_X11_turnOf : MWv yX11_turnOf cX11_turnOf 3 (some .int) 1 := ⟨in_c8 133 rfl rfl, in_c1 13 rfl rfl, in_c8 132 rfl rfl, in_c0 96 rfl rfl, by decide +kernel, by decide +kernel, by decide +kernel⟩
theorem mw_X11_criesOut : MWv yX11_criesOut cX11_criesOut 3 none 1 := ⟨in_c8 137 rfl rfl, in_c1 13 rfl rfl, in_c8 136 rfl rfl, in_c0 97 rfl rfl, by decide +kernel, by decide +kernel, by decide +kernel⟩
theorem mw_X11_nextThing : MWv yX11_nextThing cX11_nextThing 2 (some .int) 1 := ⟨in_c8 141 rfl rfl, in_c1 13 rfl rfl, in_c8 140 rfl rfl, in_c0 98 rfl rfl, by decide +kernel, by decide +kernel, by decide +kernel⟩
theorem mw_X11_isNoddedAt : MWv yX11_isNoddedAt cX11_isNoddedAt 6 (some .boolean) 2 := ⟨in_c8 145 rfl rfl, in_c1 13 rfl rfl, in_c8 144 rfl rfl, in_c0 99 rfl rfl, by decide +kernel, by decide +kernel, by decide +kernel⟩
theorem mw_X11_nodsOf : MWv yX11_nodsOf cX11_nodsOf 3 (some .int) 2 := ⟨in_c8 149 rfl rfl, in_c1 13 rfl rfl, in_c8 148 rfl rfl, in_c0 100 rfl rfl, by decide +kernel, by decide +kernel, by decide +kernel⟩
theorem mw_X11_winsOf : MWv yX11_winsOf cX11_winsOf 3 (some .int) 2 := ⟨in_c8 153 rfl rfl, in_c1 13 rfl rfl, in_c8 152 rfl rfl, in_c0 101 rfl rfl, by decide +kernel, by decide +kernel, by decide +kernel⟩
theorem mw_X11_isRead : MWv yX11_isRead cX11_isRead 5 none 3 := ⟨in_c8 157 rfl rfl, in_c1 13 rfl rfl, in_c8 156 rfl rfl, in_c0 102 rfl rfl, by decide +kernel, by decide +kernel, by decide +kernel⟩
theorem mw_X11_of : MWv yX11_of cX11_of 4 (some .int) 2 := ⟨in_c8 161 rfl rfl, in_c1 13 rfl rfl, in_c8 159 rfl rfl, in_c8 160 rfl rfl, by decide +kernel, by decide +kernel, by decide +kernel⟩
theorem mw_X11_powerOf : MWv yX11_powerOf cX11_powerOf 3 (some .int) 2 := ⟨in_c8 165 rfl rfl, in_c1 13 rfl rfl, in_c8 163 rfl rfl, in_c8 164 rfl rfl, by decide +kernel, by decide +kernel, by decide +kernel⟩
theorem mw_X11_atOf : MWv yX11_atOf cX11_atOf 4 (some .int) 1 := ⟨in_c8 169 rfl rfl, in_c1 13 rfl rfl, in_c8 168 rfl rfl, in_c0 103 rfl rfl, by decide +kernel, by decide +kernel, by decide +kernel⟩
theorem mw_X11_book : MWv yX11_book cX11_book 3 (some .int) 2 := ⟨in_c8 173 rfl rfl, in_c1 13 rfl rfl, in_c8 171 rfl rfl, in_c8 172 rfl rfl, by decide +kernel, by decide +kernel, by decide +kernel⟩
theorem mw_X11_goes : MWv yX11_goes cX11_goes 4 (some .int) 2 := ⟨in_c8 177 rfl rfl, in_c1 13 rfl rfl, in_c8 175 rfl rfl, in_c8 176 rfl rfl, by decide +kernel, by decide +kernel, by decide +kernel⟩
theorem mw_X11_thinks : MWv yX11_thinks cX11_thinks 2 none 0 := ⟨in_c8 181 rfl rfl, in_c1 13 rfl rfl, in_c8 180 rfl rfl, in_c0 104 rfl rfl, by decide +kernel, by decide +kernel, by decide +kernel⟩
theorem mw_X11_together : MWv yX11_together cX11_together 4 (some .int) 1 := ⟨in_c8 185 rfl rfl, in_c1 13 rfl rfl, in_c8 184 rfl rfl, in_c0 105 rfl rfl, by decide +kernel, by decide +kernel, by decide +kernel⟩
theorem mw_X11_putsBack : MWv yX11_putsBack cX11_putsBack 2 none 0 := ⟨in_c8 189 rfl rfl, in_c1 13 rfl rfl, in_c8 188 rfl rfl, in_c0 106 rfl rfl, by decide +kernel, by decide +kernel, by decide +kernel⟩
theorem mw_X11_peace : MWv yX11_peace cX11_peace 4 (some .int) 1 := ⟨in_c8 193 rfl rfl, in_c1 13 rfl rfl, in_c8 191 rfl rfl, in_c8 192 rfl rfl, by decide +kernel, by decide +kernel, by decide +kernel⟩
theorem mw_X11_shows : MWv yX11_shows cX11_shows 2 (some .int) 1 := ⟨in_c8 197 rfl rfl, in_c1 13 rfl rfl, in_c8 195 rfl rfl, in_c8 196 rfl rfl, by decide +kernel, by decide +kernel, by decide +kernel⟩
theorem mw_X11_endsRow : MWv yX11_endsRow cX11_endsRow 2 (some .int) 1 := ⟨in_c8 201 rfl rfl, in_c1 13 rfl rfl, in_c8 200 rfl rfl, in_c0 107 rfl rfl, by decide +kernel, by decide +kernel, by decide +kernel⟩
theorem mw_X11_tellsOne : MWv yX11_tellsOne cX11_tellsOne 4 (some .int) 3 := ⟨in_c8 205 rfl rfl, in_c1 13 rfl rfl, in_c8 204 rfl rfl, in_c0 108 rfl rfl, by decide +kernel, by decide +kernel, by decide +kernel⟩
theorem mw_X11_alike : MWv yX11_alike cX11_alike 4 (some .int) 1 := ⟨in_c8 209 rfl rfl, in_c1 13 rfl rfl, in_c8 207 rfl rfl, in_c8 208 rfl rfl, by decide +kernel, by decide +kernel, by decide +kernel⟩
theorem mw_X11_readAlike : MWv yX11_readAlike cX11_readAlike 5 (some .boolean) 2 := ⟨in_c8 213 rfl rfl, in_c1 13 rfl rfl, in_c8 212 rfl rfl, in_c0 109 rfl rfl, by decide +kernel, by decide +kernel, by decide +kernel⟩
theorem mw_X11_weighs : MWv yX11_weighs cX11_weighs 3 (some .boolean) 2 := ⟨in_c8 217 rfl rfl, in_c1 13 rfl rfl, in_c8 215 rfl rfl, in_c8 216 rfl rfl, by decide +kernel, by decide +kernel, by decide +kernel⟩
theorem mw_X11_lightest : MWv yX11_lightest cX11_lightest 8 (some .int) 2 := ⟨in_c8 221 rfl rfl, in_c1 13 rfl rfl, in_c8 219 rfl rfl, in_c8 220 rfl rfl, by decide +kernel, by decide +kernel, by decide +kernel⟩
theorem mw_X11_lightestSaying : MWv yX11_lightestSaying cX11_lightestSaying 5 (some .int) 2 := ⟨in_c8 226 rfl rfl, in_c1 13 rfl rfl, in_c8 225 rfl rfl, in_c0 110 rfl rfl, by decide +kernel, by decide +kernel, by decide +kernel⟩
theorem mw_X11_sayingSo : MWv yX11_sayingSo cX11_sayingSo 5 (some .int) 2 := ⟨in_c8 230 rfl rfl, in_c1 13 rfl rfl, in_c8 229 rfl rfl, in_c0 111 rfl rfl, by decide +kernel, by decide +kernel, by decide +kernel⟩
theorem mw_X11_hears : MWv yX11_hears cX11_hears 2 (some .int) 1 := ⟨in_c8 235 rfl rfl, in_c1 13 rfl rfl, in_c8 233 rfl rfl, in_c8 234 rfl rfl, by decide +kernel, by decide +kernel, by decide +kernel⟩
theorem mw_X11_heard : MWv yX11_heard cX11_heard 6 (some .int) 2 := ⟨in_c8 239 rfl rfl, in_c1 13 rfl rfl, in_c8 237 rfl rfl, in_c8 238 rfl rfl, by decide +kernel, by decide +kernel, by decide +kernel⟩
theorem mw_X11_isReadSo : MWv yX11_isReadSo cX11_isReadSo 4 (some .boolean) 1 := ⟨in_c9 3 rfl rfl, in_c1 13 rfl rfl, in_c9 2 rfl rfl, in_c0 112 rfl rfl, by decide +kernel, by decide +kernel, by decide +kernel⟩
theorem mw_X11_count : MWv yX11_count cX11_count 2 (some .int) 1 := ⟨in_c9 7 rfl rfl, in_c1 13 rfl rfl, in_c9 5 rfl rfl, in_c9 6 rfl rfl, by decide +kernel, by decide +kernel, by decide +kernel⟩
theorem mw_X11_signs : MWv yX11_signs cX11_signs 5 (some .int) 0 := ⟨in_c9 11 rfl rfl, in_c1 13 rfl rfl, in_c9 9 rfl rfl, in_c9 10 rfl rfl, by decide +kernel, by decide +kernel, by decide +kernel⟩
theorem mw_X11_leastHeap : MWv yX11_leastHeap cX11_leastHeap 5 (some .int) 2 := ⟨in_c9 15 rfl rfl, in_c1 13 rfl rfl, in_c9 14 rfl rfl, in_c0 113 rfl rfl, by decide +kernel, by decide +kernel, by decide +kernel⟩
theorem mw_X11_pins : MWv yX11_pins cX11_pins 4 (some .int) 2 := ⟨in_c9 19 rfl rfl, in_c1 13 rfl rfl, in_c9 17 rfl rfl, in_c9 18 rfl rfl, by decide +kernel, by decide +kernel, by decide +kernel⟩
theorem mw_X11_onePrickMore : MWv yX11_onePrickMore cX11_onePrickMore 4 none 1 := ⟨in_c9 23 rfl rfl, in_c1 13 rfl rfl, in_c9 22 rfl rfl, in_c0 114 rfl rfl, by decide +kernel, by decide +kernel, by decide +kernel⟩
theorem mw_X11_canPart : MWv yX11_canPart cX11_canPart 5 (some .boolean) 2 := ⟨in_c9 27 rfl rfl, in_c1 13 rfl rfl, in_c9 26 rfl rfl, in_c0 115 rfl rfl, by decide +kernel, by decide +kernel, by decide +kernel⟩
theorem mw_X11_table : MWv yX11_table cX11_table 4 (some .boolean) 3 := ⟨in_c9 31 rfl rfl, in_c1 13 rfl rfl, in_c9 29 rfl rfl, in_c9 30 rfl rfl, by decide +kernel, by decide +kernel, by decide +kernel⟩
theorem mw_X11_tables : MWv yX11_tables cX11_tables 5 (some .int) 1 := ⟨in_c9 35 rfl rfl, in_c1 13 rfl rfl, in_c9 33 rfl rfl, in_c9 34 rfl rfl, by decide +kernel, by decide +kernel, by decide +kernel⟩
theorem mw_X11_led : MWv yX11_led cX11_led 6 (some .int) 1 := ⟨in_c9 39 rfl rfl, in_c1 13 rfl rfl, in_c9 38 rfl rfl, in_c0 116 rfl rfl, by decide +kernel, by decide +kernel, by decide +kernel⟩
theorem mw_X11_gets : MWv yX11_gets cX11_gets 4 (some .int) 3 := ⟨in_c9 43 rfl rfl, in_c1 13 rfl rfl, in_c9 42 rfl rfl, in_c0 117 rfl rfl, by decide +kernel, by decide +kernel, by decide +kernel⟩
theorem mw_X11_rests : MWv yX11_rests cX11_rests 5 (some .boolean) 2 := ⟨in_c9 47 rfl rfl, in_c1 13 rfl rfl, in_c9 46 rfl rfl, in_c0 118 rfl rfl, by decide +kernel, by decide +kernel, by decide +kernel⟩
theorem mw_X11_stand : MWv yX11_stand cX11_stand 6 (some .int) 3 := ⟨in_c9 51 rfl rfl, in_c1 13 rfl rfl, in_c9 49 rfl rfl, in_c9 50 rfl rfl, by decide +kernel, by decide +kernel, by decide +kernel⟩
theorem mw_X11_luck : MWs yX11_luck cX11_luck 4 (some .int) 2 := ⟨in_c9 54 rfl rfl, in_c1 13 rfl rfl, in_c9 53 rfl rfl, by decide +kernel, by decide +kernel, by decide +kernel⟩
theorem mw_X11_common : MWs yX11_common cX11_common 5 (some .int) 2 := ⟨in_c9 57 rfl rfl, in_c1 13 rfl rfl, in_c9 56 rfl rfl, by decide +kernel, by decide +kernel, by decide +kernel⟩
theorem mw_X11_worth : MWv yX11_worth cX11_worth 4 (some .boolean) 3 := ⟨in_c9 61 rfl rfl, in_c1 13 rfl rfl, in_c9 59 rfl rfl, in_c9 60 rfl rfl, by decide +kernel, by decide +kernel, by decide +kernel⟩
theorem mw_X11_sent : MWv yX11_sent cX11_sent 7 (some .int) 2 := ⟨in_c9 65 rfl rfl, in_c1 13 rfl rfl, in_c9 63 rfl rfl, in_c9 64 rfl rfl, by decide +kernel, by decide +kernel, by decide +kernel⟩
theorem mw_X11_layMostFor : MWv yX11_layMostFor cX11_layMostFor 5 none 1 := ⟨in_c9 69 rfl rfl, in_c1 13 rfl rfl, in_c9 68 rfl rfl, in_c0 119 rfl rfl, by decide +kernel, by decide +kernel, by decide +kernel⟩
theorem mw_X11_bitsOf : MWs yX11_bitsOf cX11_bitsOf 3 (some .int) 1 := ⟨in_c9 72 rfl rfl, in_c1 13 rfl rfl, in_c9 71 rfl rfl, by decide +kernel, by decide +kernel, by decide +kernel⟩
theorem mw_X11_load : MWv yX11_load cX11_load 3 (some .int) 2 := ⟨in_c9 76 rfl rfl, in_c1 13 rfl rfl, in_c9 74 rfl rfl, in_c9 75 rfl rfl, by decide +kernel, by decide +kernel, by decide +kernel⟩
theorem mw_X11_carried : MWv yX11_carried cX11_carried 5 (some .int) 2 := ⟨in_c9 80 rfl rfl, in_c1 13 rfl rfl, in_c9 78 rfl rfl, in_c9 79 rfl rfl, by decide +kernel, by decide +kernel, by decide +kernel⟩
theorem mw_X11_allOf : MWv yX11_allOf cX11_allOf 5 (some .int) 2 := ⟨in_c9 84 rfl rfl, in_c1 13 rfl rfl, in_c9 83 rfl rfl, in_c0 120 rfl rfl, by decide +kernel, by decide +kernel, by decide +kernel⟩
theorem mw_X11_promise : MWv yX11_promise cX11_promise 5 (some .int) 3 := ⟨in_c9 88 rfl rfl, in_c1 13 rfl rfl, in_c9 86 rfl rfl, in_c9 87 rfl rfl, by decide +kernel, by decide +kernel, by decide +kernel⟩
theorem mw_X11_kept : MWv yX11_kept cX11_kept 6 (some .int) 1 := ⟨in_c9 92 rfl rfl, in_c1 13 rfl rfl, in_c9 90 rfl rfl, in_c9 91 rfl rfl, by decide +kernel, by decide +kernel, by decide +kernel⟩
theorem mw_X11_allHold : MWv yX11_allHold cX11_allHold 4 (some .boolean) 1 := ⟨in_c9 96 rfl rfl, in_c1 13 rfl rfl, in_c9 95 rfl rfl, in_c0 121 rfl rfl, by decide +kernel, by decide +kernel, by decide +kernel⟩
theorem mw_X11_hat : MWv yX11_hat cX11_hat 3 (some .boolean) 2 := ⟨in_c9 100 rfl rfl, in_c1 13 rfl rfl, in_c9 98 rfl rfl, in_c9 99 rfl rfl, by decide +kernel, by decide +kernel, by decide +kernel⟩
theorem mw_X11_hats : MWv yX11_hats cX11_hats 5 (some .int) 1 := ⟨in_c9 104 rfl rfl, in_c1 13 rfl rfl, in_c9 102 rfl rfl, in_c9 103 rfl rfl, by decide +kernel, by decide +kernel, by decide +kernel⟩
theorem mw_X11_border : MWv yX11_border cX11_border 3 (some .int) 2 := ⟨in_c9 108 rfl rfl, in_c1 13 rfl rfl, in_c9 106 rfl rfl, in_c9 107 rfl rfl, by decide +kernel, by decide +kernel, by decide +kernel⟩
theorem mw_X11_map : MWv yX11_map cX11_map 3 (some .int) 1 := ⟨in_c9 112 rfl rfl, in_c1 13 rfl rfl, in_c9 110 rfl rfl, in_c9 111 rfl rfl, by decide +kernel, by decide +kernel, by decide +kernel⟩
theorem mw_X11_oneColourMore : MWv yX11_oneColourMore cX11_oneColourMore 3 none 0 := ⟨in_c9 116 rfl rfl, in_c1 13 rfl rfl, in_c9 115 rfl rfl, in_c0 122 rfl rfl, by decide +kernel, by decide +kernel, by decide +kernel⟩
theorem mw_X11_canBeOne : MWv yX11_canBeOne cX11_canBeOne 3 (some .boolean) 1 := ⟨in_c9 120 rfl rfl, in_c1 13 rfl rfl, in_c9 119 rfl rfl, in_c0 123 rfl rfl, by decide +kernel, by decide +kernel, by decide +kernel⟩
theorem mw_X11_cloth : MWv yX11_cloth cX11_cloth 3 (some .int) 2 := ⟨in_c9 124 rfl rfl, in_c1 13 rfl rfl, in_c9 122 rfl rfl, in_c9 123 rfl rfl, by decide +kernel, by decide +kernel, by decide +kernel⟩
theorem mw_X11_cloths : MWv yX11_cloths cX11_cloths 3 (some .int) 1 := ⟨in_c9 128 rfl rfl, in_c1 13 rfl rfl, in_c9 126 rfl rfl, in_c9 127 rfl rfl, by decide +kernel, by decide +kernel, by decide +kernel⟩
theorem mw_X11_layCloths : MWv yX11_layCloths cX11_layCloths 5 none 0 := ⟨in_c9 132 rfl rfl, in_c1 13 rfl rfl, in_c9 131 rfl rfl, in_c0 124 rfl rfl, by decide +kernel, by decide +kernel, by decide +kernel⟩
theorem mw_X11_interpreter : MWv yX11_interpreter cX11_interpreter 3 (some .int) 1 := ⟨in_c9 136 rfl rfl, in_c1 13 rfl rfl, in_c9 134 rfl rfl, in_c9 135 rfl rfl, by decide +kernel, by decide +kernel, by decide +kernel⟩
theorem mw_X11_areFive : MWv yX11_areFive cX11_areFive 5 (some .boolean) 1 := ⟨in_c9 140 rfl rfl, in_c1 13 rfl rfl, in_c9 139 rfl rfl, in_c0 125 rfl rfl, by decide +kernel, by decide +kernel, by decide +kernel⟩
theorem mw_X11_word : MWv yX11_word cX11_word 6 (some .int) 1 := ⟨in_c9 144 rfl rfl, in_c1 13 rfl rfl, in_c9 142 rfl rfl, in_c9 143 rfl rfl, by decide +kernel, by decide +kernel, by decide +kernel⟩
theorem mw_X11_becomes : MWv yX11_becomes cX11_becomes 4 (some .int) 1 := ⟨in_c9 148 rfl rfl, in_c1 13 rfl rfl, in_c9 147 rfl rfl, in_c0 126 rfl rfl, by decide +kernel, by decide +kernel, by decide +kernel⟩
theorem mw_X11_silence : MWv yX11_silence cX11_silence 7 (some .int) 4 := ⟨in_c9 152 rfl rfl, in_c1 13 rfl rfl, in_c9 150 rfl rfl, in_c9 151 rfl rfl, by decide +kernel, by decide +kernel, by decide +kernel⟩
theorem mw_X11_lies : MWs yX11_lies cX11_lies 4 (some .int) 4 := ⟨in_c9 155 rfl rfl, in_c1 13 rfl rfl, in_c9 154 rfl rfl, by decide +kernel, by decide +kernel, by decide +kernel⟩
theorem mw_X11_begins : MWv yX11_begins cX11_begins 4 (some .int) 1 := ⟨in_c9 159 rfl rfl, in_c1 13 rfl rfl, in_c9 158 rfl rfl, in_c0 127 rfl rfl, by decide +kernel, by decide +kernel, by decide +kernel⟩
theorem mw_X11_onHeap : MWs yX11_onHeap cX11_onHeap 2 (some .int) 2 := ⟨in_c9 162 rfl rfl, in_c1 13 rfl rfl, in_c9 161 rfl rfl, by decide +kernel, by decide +kernel, by decide +kernel⟩
theorem mw_X11_image : MWv yX11_image cX11_image 3 (some .boolean) 1 := ⟨in_c9 166 rfl rfl, in_c1 13 rfl rfl, in_c9 164 rfl rfl, in_c9 165 rfl rfl, by decide +kernel, by decide +kernel, by decide +kernel⟩
theorem mw_X11_look : MWv yX11_look cX11_look 2 (some .int) 1 := ⟨in_c9 170 rfl rfl, in_c1 13 rfl rfl, in_c9 168 rfl rfl, in_c9 169 rfl rfl, by decide +kernel, by decide +kernel, by decide +kernel⟩
theorem mw_X11_those : MWv yX11_those cX11_those 4 (some .int) 1 := ⟨in_c9 174 rfl rfl, in_c1 13 rfl rfl, in_c9 173 rfl rfl, in_c0 128 rfl rfl, by decide +kernel, by decide +kernel, by decide +kernel⟩
theorem jw_maxs : Jvm.Cond.static ⟨"java/lang/Math", "max", "(II)I"⟩ ∈ lw_g := in_c1 153 rfl rfl
theorem jw_mins : Jvm.Cond.static ⟨"java/lang/Math", "min", "(II)I"⟩ ∈ lw_g := in_c3 82 rfl rfl
theorem jw_math : Jvm.Cond.initialized "java/lang/Math" ∈ lw_g := in_c1 6 rfl rfl
theorem jw_sys : Jvm.Cond.initialized "java/lang/System" ∈ lw_g := in_c1 14 rfl rfl
theorem jw_acs : Jvm.Cond.static ⟨"java/lang/System", "arraycopy", "(Ljava/lang/Object;ILjava/lang/Object;II)V"⟩ ∈ lw_g := in_c3 85 rfl rfl
theorem jw_acn : Jvm.Cond.native ⟨"java/lang/System", "arraycopy", "(Ljava/lang/Object;ILjava/lang/Object;II)V"⟩ ∈ lw_g := in_c3 86 rfl rfl
theorem jw_maxc : Jvm.Cond.code Lib.Math.max.name Lib.Math.max.code 2 (some .int) ∈ lw_g := in_c1 154 rfl rfl
theorem jw_minc : Jvm.Cond.code Lib.Math.min.name Lib.Math.min.code 2 (some .int) ∈ lw_g := in_c3 83 rfl rfl
