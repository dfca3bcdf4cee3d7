/-! numbers asked, classes, constants -/
def nrw (c : Nat) (x : Int32) : Bool := match c with
  | 0 => true
  | 1 => decide (x = 0) || decide (x = 1)
  | 2 => decide ((x.toUInt32 % 65536).toInt32 = x)
  | _ => decide (x.toInt8.toInt32 = x)
def Q0 : Qs := (fun c x y => match c with
  | 0 => decide (x = y)
  | 1 => decide (x < y)
  | _ => decide (x ≤ y), fun i n => decide (0 ≤ i) && decide (i.toNatClampNeg < n), lg_cmp, nrw, fun sp dp n a b => (decide (0 ≤ sp) && (decide (0 ≤ dp) && decide (0 ≤ n))) && (decide (sp.toNatClampNeg + n.toNatClampNeg ≤ a) && decide (dp.toNatClampNeg + n.toNatClampNeg ≤ b)))
def tyA (t : Nat) : FieldType := match t with
  | 0 => .int
  | 1 => .byte
  | 2 => .long
  | 3 => .boolean
  | 4 => .object RX1
  | 5 => .object RX7
  | _ => .object RX5
def tyF (c : Nat) : Nat → FieldType := match c with
  | 0 => tyX0
  | 1 => tyX1
  | 2 => tyX2
  | 3 => tyX3
  | 4 => tyX4
  | 5 => tyX5
  | 6 => tyX6
  | 7 => tyX7
  | 8 => tyX8
  | _ => tyX9
abbrev vwCl : List vw_C := [(RX0, TX0, 5), (RX1, TX1, 8), (RX2, TX2, 4), (RX3, TX3, 4), (RX4, TX4, 11), (RX5, TX5, 3), (RX6, TX6, 3), (RX7, TX7, 6), (RX8, TX8, 15), (RX9, TX9, 83)]
def nF (c : Nat) : Nat := match vwCl[c]? with
  | some r => r.2.2
  | none => 0
def isRf (t : FieldType) : Bool := match t with
  | .object _ => true
  | .array _ => true
  | _ => false
def skK (i : Nat) : Nat := match i with
  | 0 => 57
  | 1 => 59
  | 2 => 76
  | 3 => 89
  | _ => 95
def skT (i : Nat) : String := match i with
  | 0 => "warm"
  | 1 => "cool"
  | 2 => "rain"
  | 3 => "pkvcln"
  | _ => "<=>"
def nfK (j : Nat) : Nat := match j with
  | 0 => 30
  | 1 => 40
  | _ => 43
