/-! THE WORLD OF A SYSTEM as one table of ints, and walks over it: rules on top of the kit's rows. My own. -/
abbrev Tau : Type := Nat → Nat → Int32
def up (t : Tau) (c j : Nat) (v : Int32) : Tau := fun a b => if a = c ∧ b = j then v else t a b
/-- cells, their kinds (below 20 a class of vwCl; 20 int[], 21 boolean[], 22 char[], 23 Town[]), sizes, references -/
abbrev Sys : Type := Nat × (Nat → Nat) × (Nat → Nat) × (Nat → Nat → Option Nat)
def fv (ρ : Nat → Nat) : Option Nat → Int32 → Value
  | some q, _ => .ref (ρ q)
  | none, v => .int v
def en (cA : Nat → ClassId) (ρ : Nat → Nat) (y : Sys) (τ : Tau) (k : Nat) : va_E :=
  if y.2.1 k < 20 then .inr (y.2.1 k, (List.range (y.2.2.1 k)).map (fun j => fv ρ (y.2.2.2 k j) (τ k j)))
  else if y.2.1 k = 23 then .inl (cA 23, y.2.2.1 k, .inr (.inr (.inr (.inr (fun j => (y.2.2.2 k j).map ρ)))))
  else .inl (cA (y.2.1 k), y.2.2.1 k, .inl (τ k))
def wl (cA : Nat → ClassId) (ρ : Nat → Nat) (y : Sys) (τ : Tau) : va_W := (List.range y.1).map (fun k => (ρ k, en cA ρ y τ k))
theorem wl_at {cA : Nat → ClassId} {ρ : Nat → Nat} {y : Sys} {τ : Tau} {k : Nat} (h : k < y.1) : (wl cA ρ y τ)[k]? = some (ρ k, en cA ρ y τ k) := by
  simp [wl, List.getElem?_map, List.getElem?_range h]
theorem up_ne {t : Tau} {c j : Nat} {v : Int32} {a : Nat} (h : a ≠ c) : up t c j v a = t a := by
  funext b
  simp [up, h]
theorem up_eq {t : Tau} {c j : Nat} {v : Int32} : up t c j v c = upd (t c) j v := by
  funext b
  simp [up, upd]
theorem en_ne {cA : Nat → ClassId} {ρ : Nat → Nat} {y : Sys} {t : Tau} {c j : Nat} {v : Int32} {a : Nat} (h : a ≠ c) : en cA ρ y (up t c j v) a = en cA ρ y t a := by
  unfold en
  rw [up_ne h]
theorem wl_set {cA : Nat → ClassId} {ρ : Nat → Nat} {y : Sys} {t : Tau} {c j : Nat} {v : Int32} {x : va_E} (h : c < y.1) (e : en cA ρ y (up t c j v) c = x) : (wl cA ρ y t).set c (ρ c, x) = wl cA ρ y (up t c j v) := by
  apply List.ext_getElem?
  intro i
  rw [List.getElem?_set]
  by_cases hi : c = i
  · subst hi
    have hl : c < (wl cA ρ y t).length := by simp [wl, h]
    rw [if_pos rfl, if_pos hl, wl_at h, e]
  · rw [if_neg hi]
    by_cases hn : i < y.1
    · rw [wl_at hn, wl_at hn, en_ne (Ne.symm hi)]
    · have h1 : (wl cA ρ y t).length ≤ i := by simp [wl]; omega
      have h2 : (wl cA ρ y (up t c j v)).length ≤ i := by simp [wl]; omega
      rw [List.getElem?_eq_none h1, List.getElem?_eq_none h2]
theorem en_obj {cA : Nat → ClassId} {ρ : Nat → Nat} {y : Sys} {t : Tau} {c ci : Nat} (hk : y.2.1 c = ci) (h20 : ci < 20) : en cA ρ y t c = .inr (ci, (List.range (y.2.2.1 c)).map (fun j => fv ρ (y.2.2.2 c j) (t c j))) := by
  unfold en
  rw [hk, if_pos h20]
theorem en_arr {cA : Nat → ClassId} {ρ : Nat → Nat} {y : Sys} {t : Tau} {c ty n : Nat} (hk : y.2.1 c = ty) (h20 : ¬ ty < 20) (h23 : ¬ ty = 23) (hn : y.2.2.1 c = n) : en cA ρ y t c = .inl (cA ty, n, .inl (t c)) := by
  unfold en
  rw [hk, if_neg h20, if_neg h23, hn]
theorem en_rarr {cA : Nat → ClassId} {ρ : Nat → Nat} {y : Sys} {t : Tau} {c n : Nat} (hk : y.2.1 c = 23) (hn : y.2.2.1 c = n) : en cA ρ y t c = .inl (cA 23, n, .inr (.inr (.inr (.inr (fun j => (y.2.2.2 c j).map ρ))))) := by
  unfold en
  rw [hk, if_neg (by decide), if_pos rfl, hn]
def fr (ρ : Nat → Nat) (y : Sys) : Nat → Prop := fun q => ∃ k, k < y.1 ∧ q = ρ k
theorem wl_D {cA : Nat → ClassId} {ρ : Nat → Nat} {y : Sys} {τ : Tau} (h : ∀ i j, i < y.1 → j < y.1 → ρ i = ρ j → i = j) : va_D (fr ρ y) (wl cA ρ y τ) := by
  have at' : ∀ (k : Nat) (q : Nat × va_E), (wl cA ρ y τ)[k]? = some q → k < y.1 ∧ q.1 = ρ k := by
    intro k q hq
    have hl : k < (wl cA ρ y τ).length := (List.getElem?_eq_some_iff.mp hq).1
    have hn : k < y.1 := by simpa [wl] using hl
    rw [wl_at hn] at hq
    exact ⟨hn, by rw [← Option.some.inj hq]⟩
  refine ⟨fun i j p q hp hq e => ?_, fun k q hq => ?_⟩
  · obtain ⟨a1, a2⟩ := at' i p hp
    obtain ⟨b1, b2⟩ := at' j q hq
    exact h i j a1 b1 (by rw [← a2, ← b2, e])
  · obtain ⟨a1, a2⟩ := at' k q hq
    exact ⟨k, a1, a2⟩
def tysL (cA : Nat → ClassId) : List (ClassId × FieldType) := [(cA 20, .int), (cA 21, .boolean), (cA 22, .char), (cA 23, .object "BasketEnvoys$Town")]
/-! words -/
def lw_g : List Cond := lw_tbl.filter goodWord
theorem in_g {w : Cond} (h : w ∈ lw_tbl) (g : goodWord w = true) : w ∈ lw_g := List.mem_filter.mpr ⟨h, g⟩
theorem in_gi {w : Cond} (i : Nat) (h : lw_tbl[i]? = some w) (g : goodWord w = true) : w ∈ lw_g := in_g (List.mem_of_getElem? h) g
theorem in_gs (ws : List Cond) (ps : List Nat) (hp : ws = ps.filterMap (fun i => lw_tbl[i]?)) (h : ws.all goodWord = true) : ∀ w ∈ ws, w ∈ lw_g := by
  intro w hw
  have h1 := List.all_eq_true.mp h w hw
  rw [hp] at hw
  obtain ⟨i, -, hi⟩ := List.mem_filterMap.mp hw
  exact in_gi i hi h1
theorem good_g {w : Cond} (h : w ∈ lw_g) : (w.onTables && w.keeps) = true ∨ ∃ ty, w = .arrayClass ty := good_of_word (List.mem_filter.mp h).2
theorem goodIn_g {c c' : Cond} (h : c' ∈ lw_g) : GoodIn (c :: lw_g) (c' :: lw_g) := by
  intro w hw
  rcases List.mem_cons.mp hw with rfl | hw
  · exact ⟨List.mem_cons_of_mem _ h, good_g h⟩
  · exact ⟨List.mem_cons_of_mem _ hw, good_g hw⟩
/-! String constants of the claim: (class, entry, text, place) -/
abbrev StrT : Type := String × Nat × String × Nat
/-- the bytes of the String constants -/
def strB : List (List Nat) := [[110, 111, 100, 115, 32, 99, 114, 105, 101, 115, 32, 119, 105, 110, 115, 32, 119, 104, 101, 110, 32, 111, 114, 32, 97, 110, 100, 32, 110, 111, 116, 32, 115, 107, 105, 108, 108, 32, 103, 114, 105, 101, 102, 32, 102, 97, 108, 115, 101, 32, 116, 114, 117, 115, 116, 32, 116, 104, 105, 110, 103, 32, 115, 97, 121, 115, 32, 115, 116, 101, 112, 32, 115, 104, 111, 119, 110, 32, 112, 111, 114, 116, 115, 32, 100, 97, 121], [59, 43, 45, 42, 47, 40, 41, 60, 61, 62], [43, 45, 42, 47], [112, 111, 119, 101, 114, 32, 116, 104, 105, 110, 103, 32, 115, 97, 121, 115], [111, 110, 32, 115, 101, 110, 100, 32, 104, 111, 109, 101, 32, 103, 105, 102, 116, 32, 109, 111, 117, 114, 110], [112, 111, 119, 101, 114, 32, 119, 97, 110, 116, 115], [119, 104, 101, 110], [111, 114], [97, 110, 100], [110, 111, 116], [110, 111, 100, 115], [99, 114, 105, 101, 115], [119, 105, 110, 115], [115, 107, 105, 108, 108], [103, 114, 105, 101, 102], [102, 97, 108, 115, 101], [116, 114, 117, 115, 116], [116, 104, 105, 110, 103], [115, 97, 121, 115], [115, 116, 101, 112], [115, 104, 111, 119, 110], [112, 111, 114, 116, 115], [100, 97, 121], [112, 111, 119, 101, 114], [111, 110], [115, 101, 110, 100], [104, 111, 109, 101], [103, 105, 102, 116], [109, 111, 117, 114, 110], [119, 97, 110, 116, 115]]
def sB (i : Nat) : List Nat := strB.getD i []
def sL (i : Nat) : Nat := (sB i).length
def sC (i j : Nat) : Int32 := nI ((sB i).getD j 0)
def isNest : Cond → Bool
  | .methodLinkNest _ _ _ _ => true
  | _ => false
def nestW : List Cond := lw_tbl.filter isNest
theorem in_n {w : Cond} (i : Nat) (h : lw_tbl[i]? = some w) (g : isNest w = true) : w ∈ nestW := List.mem_filter.mpr ⟨List.mem_of_getElem? h, g⟩
def strW : List StrT := [("BasketEnvoys$Reader", 29, "nods cries wins when or and not skill grief false trust thing says step shown ports day", 0), ("BasketEnvoys$Tokens", 71, ";+-*/()<=>", 1), ("BasketEnvoys$Reader", 104, "+-*/", 2), ("BasketEnvoys$Reader", 122, "power thing says", 3), ("BasketEnvoys$Reader", 124, "on send home gift mourn", 4), ("BasketEnvoys$Reader", 126, "power wants", 5), ("BasketEnvoysModel", 140, "when", 6), ("BasketEnvoysModel", 142, "or", 7), ("BasketEnvoysModel", 144, "and", 8), ("BasketEnvoysModel", 146, "not", 9), ("BasketEnvoysModel", 148, "nods", 10), ("BasketEnvoysModel", 150, "cries", 11), ("BasketEnvoysModel", 152, "wins", 12), ("BasketEnvoysModel", 116, "skill", 13), ("BasketEnvoysModel", 122, "grief", 14), ("BasketEnvoysModel", 124, "false", 15), ("BasketEnvoysModel", 126, "trust", 16), ("BasketEnvoysModel", 128, "thing", 17), ("BasketEnvoysModel", 130, "says", 18), ("BasketEnvoysModel", 132, "step", 19), ("BasketEnvoysModel", 134, "shown", 20), ("BasketEnvoysModel", 136, "ports", 21), ("BasketEnvoysModel", 138, "day", 22), ("BasketEnvoysModel", 173, "power", 23), ("BasketEnvoysModel", 157, "on", 24), ("BasketEnvoysModel", 159, "send", 25), ("BasketEnvoysModel", 161, "home", 26), ("BasketEnvoysModel", 163, "gift", 27), ("BasketEnvoysModel", 165, "mourn", 28), ("BasketEnvoysModel", 178, "wants", 29)]
def rmD (d : Nat) : Room := { frames := d, cells := 0, slots := 0, locals := 64 * d }
def cv (ρ : Nat → Nat) : Value → Value
  | .ref a => .ref (ρ a)
  | v => v
theorem cv_cat (ρ : Nat → Nat) (v : Value) : (cv ρ v).category = v.category := by cases v <;> rfl
abbrev Ctx : Type := Program × Launch × Env × Room × State × MethodId × Array Value × List Frame × Method × Code × Nat × Nat × va_G × (Nat → ClassId) × (Nat → Nat)
/-- what holds of a world's surroundings at a state -/
def Stt (D : va_G) (cA : Nat → ClassId) (ρ : Nat → Nat) (y : Sys) (U : State) (H : Heap) : Prop :=
  va_K D vwCl (tysL cA) U ∧ (∀ i j, i < y.1 → j < y.1 → ρ i = ρ j → i = j) ∧ (∀ w ∈ nestW, va_Nw w U) ∧ (∀ q ∈ strW, vk_R q.1 q.2.1 q.2.2.1 (ρ (100000 + q.2.2.2)) U) ∧
  (∀ q ∈ strW, va_O "java/lang/String" (ρ (100000 + q.2.2.2)) (fr ρ y) U H ∧ va_OF "java/lang/String" "coder" "B" (.int 0) (ρ (100000 + q.2.2.2)) (fr ρ y) U H ∧ va_OF "java/lang/String" "value" "[B" (.ref (ρ (200000 + q.2.2.2))) (ρ (100000 + q.2.2.2)) (fr ρ y) U H ∧ va_T .byte (ρ (200000 + q.2.2.2)) (sL q.2.2.2) (fun j => .int (sC q.2.2.2 j)) (fr ρ y) U H) ∧
  va_Z "java/lang/String" "COMPACT_STRINGS" "Z" (.int 1) (fr ρ y) U H ∧
  (va_Z "jdk/internal/util/Preconditions" "SIOOBE_FORMATTER" "Ljava/util/function/BiFunction;" .null (fr ρ y) U H ∨ va_Z "jdk/internal/util/Preconditions" "SIOOBE_FORMATTER" "Ljava/util/function/BiFunction;" (.ref (ρ 300000)) (fr ρ y) U H)
