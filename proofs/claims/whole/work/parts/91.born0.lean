/-! PURE PART. The relation at the start -/
def zs0 : List (Nat × Nat) := (List.range 41).map (fun k => (223, 4 + k)) ++ (List.range 160).map (fun k => (223, 101 + k)) ++ (List.range 315).map (fun k => (223, 445 + k)) ++ (List.range 10).map (fun k => (51, k)) ++ (List.range 12).map (fun k => (34, k)) ++ (List.range 9).map (fun k => (35, k)) ++ (List.range 9).map (fun k => (36, k)) ++ (List.range 36).map (fun k => (37, k)) ++ (List.range 8).map (fun k => (38, k)) ++ [(2, 0), (2, 1), (47, 1), (47, 2), (47, 3), (39, 0), (39, 1), (16, 0), (18, 0), (20, 0), (22, 0), (24, 0), (26, 0), (28, 0), (30, 0), (32, 0), (116, 0), (116, 1), (222, 4), (0, 2), (222, 5), (197, 0), (222, 16), (213, 10)]
def chA (τ : Tau) : Bool := (List.range 255).all fun k => τ 223 k == τ (2 + slo k) (sli k)
def chB (τ : Tau) : Bool := (List.range 120).all fun k => τ 223 (261 + k) == τ 48 k
def chC (τ : Tau) : Bool := (List.range 600).all fun k => τ 223 (760 + k) == τ 46 k
def chD (τ : Tau) : Bool := zs0.all fun q => τ q.1 q.2 == 0
def chE (τ : Tau) : Bool := τ 197 1 == τ 222 23 && τ 197 2 == τ 222 25 && (τ 222 26 == 0 || τ 222 26 == 1)
def okX (f : Tau → Bool) (x : O3) : Bool := match x with
  | some (_, _, τ) => f τ
  | none => false
theorem ok_A : okX chA runU = true := by decide +kernel
theorem ok_B : okX chB runU = true := by decide +kernel
theorem ok_C : okX chC runU = true := by decide +kernel
theorem ok_D : okX chD runU = true := by decide +kernel
theorem ok_E : okX chE runU = true := by decide +kernel
