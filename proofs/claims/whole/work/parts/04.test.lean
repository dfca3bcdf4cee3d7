abbrev SM : Type := (Nat → Nat → Int32) × (Nat → Nat → Int64)
def up2 {α : Type} (f : Nat → Nat → α) (k i : Nat) (v : α) : Nat → Nat → α := fun a b => if a = k then (if b = i then v else f a b) else f a b
def upR {α : Type} (f : Nat → α) (k : Nat) (v : α) : Nat → α := fun a => if a = k then v else f a
noncomputable def OB : Ops SM := (fun _ k => SHt k, fun m k i => m.1 k i, fun m k i => m.2 k i, fun _ k i => GRt k i, fun m k i v => (up2 m.1 k i v, m.2), fun m k i v => (m.1, up2 m.2 k i v), fun _ _ _ _ => none, fun _ _ _ => none, fun m t rs sp rd dp n => match t with
  | 0 => (upR m.1 rd (va_cpy (m.1 rs) (m.1 rd) sp dp n), m.2)
  | _ => (m.1, upR m.2 rd (va_cpy (m.2 rs) (m.2 rd) sp dp n)))
theorem t_within (cf : Nat → List Value → SM → Rs SM) (rec : RecT SM) (n a b : Int32) (m : SM) : blk OB cf (prog 85) (heds 85) rec 700 0 [some (.int n), some (.int a), some (.int b)] [] m = if n < a then some (some (.int 0), m) else if b < n then some (some (.int 0), m) else some (some (.int 1), m) := rfl
