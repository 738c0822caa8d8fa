/-! both systems made: run by the kernel -/
def rf00 : RF := fun _ _ => 0
def tau00 : Tau := fun _ _ => 0
def runU : O3 :=
  cnew kdU lnU 10 8 (fun j => ([1, 1, 0, 1, 1, 1, 1, 1] : List Nat).getD j 0) 0 rf00 tau00 fun n rf τ => ccall (C10_init 0 n rf τ) fun n1 rf1 τ1 =>
    if n1 = 222 then (cnew kdU lnU 11 37 (fun j => ([1, 1, 1, 1, 0, 0, 1, 1, 1, 1, 1, 1, 0, 0, 0, 0, 0, 0, 0, 0, 0, 0, 0, 0, 0, 0, 0, 1, 1, 1, 1, 1, 1, 1, 1, 1, 1] : List Nat).getD j 0) n1 rf1 τ1 fun n2 rf2 τ2 => ccall (C11_init 222 n2 rf2 τ2) fun n3 rf3 τ3 => some (n3, rf3, τ3)) else none
def codeU (c j : Nat) : Nat := match rfU c j with
  | none => 0
  | some q => q + 2
def okRf (rf : RF) : Bool := (List.range 243).all fun c => (decide (20 ≤ kdU c) && !(kdU c == 23)) || (List.range (lnU c)).all fun j => rf c j == codeU c j
def okRun (x : O3) : Bool := match x with
  | some (n, rf, _) => n == 243 && okRf rf
  | none => false
theorem runU_ok : okRun runU = true := by decide +kernel
