/-! MIXED, the lines of drawers -/
def dG (D : List Nat) (k : Nat) : Nat := D.getD k 0
def dgs (n x : Nat) : List Nat := (List.range n).map fun j => x / 8 ^ (n - 1 - j) % 8
def setF (n k : Nat) (D : List Nat) : List Nat := (List.range n).map fun j => if j < k then dG D j else dG D k + 1
def goK (n : Nat) : Nat → List Nat → Option (List Nat)
  | 0, _ => none
  | k + 1, D => if dG D k < 7 then some (setF n k D) else goK n k D
theorem goK_s {n k : Nat} {D : List Nat} : goK n (k + 1) D = if dG D k < 7 then some (setF n k D) else goK n k D := rfl
def seqG (n : Nat) : Nat → List Nat → List (List Nat)
  | 0, _ => []
  | F + 1, D => D :: (match goK n n D with
    | none => []
    | some D2 => seqG n F D2)
theorem seqG_s {n F : Nat} {D : List Nat} : seqG n (F + 1) D = D :: (match goK n n D with
    | none => []
    | some D2 => seqG n F D2) := rfl
def upB (n : Nat) (D : List Nat) : Bool := (List.range n).all fun k => decide (k = 0) || decide (dG D (k - 1) ≤ dG D k)
def aF (D : List Nat) : Nat → Nat
  | 0 => 1
  | k + 1 => if dG D (k + 1) = dG D k then aF D k + 1 else 1
def cF (D : List Nat) (v : Nat) : Nat → Nat → Nat
  | 0, _ => 0
  | N + 1, j => (if dG D j = v then 1 else 0) + cF D v N (j + 1)
def alike (n : Nat) (D : List Nat) : Bool := (List.range n).all fun k => decide (aF D k ≤ cF D (dG D k) n 0) && (List.range n).any fun j => decide (dG D j = dG D k) && decide (aF D j = cF D (dG D k) n 0)
def eqLL : List (List Nat) → List (List Nat) → Bool
  | [], [] => true
  | a :: r, b :: s => Nat.beq (a.foldl (fun x y => 8 * x + y) 1) (b.foldl (fun x y => 8 * x + y) 1) && eqLL r s
  | _, _ => false
theorem seq_ok : (List.range 5).all (fun n => decide (seqG n 330 (dgs n 0) = ((List.range (8 ^ n)).map (dgs n)).filter (upB n))) = true := by decide +kernel
theorem alike_ok : (List.range 5).all (fun n => (seqG n 330 (dgs n 0)).all fun D => alike n D) = true := by decide +kernel
theorem dgs_0 : (List.range 5).all (fun n => (List.range n).all fun k => decide (dG (dgs n 0) k = 0)) = true := by decide +kernel
theorem dG_map {f : Nat → Nat} {n k : Nat} (h : k < n) : dG ((List.range n).map f) k = f k := by
  unfold dG
  simp [List.getD, h]
