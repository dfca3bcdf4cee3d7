/-! A small machine of our own: rows of resolved instructions over a memory of numbered cells. What it answers, the Java machine answers (part 'sound'). -/
abbrev Sh : Type := Nat ⊕ (Nat × Nat)
abbrev Row : Type := Instr × Nat × Nat × Nat × Nat × Int32 × List (Int32 × Nat)
abbrev Lo : Type := List (Option Value)
abbrev Rs (M : Type) : Type := Option (Option Value × M)
/-- the questions that a step asks of numbers: 0 equal, 1 less, 2 at most; an index within; a long compare; a small type's number; a copy within -/
abbrev Qs : Type := (Nat → Int32 → Int32 → Bool) × (Int32 → Nat → Bool) × (Int64 → Int64 → Int32) × (Nat → Int32 → Bool) × (Int32 → Int32 → Int32 → Nat → Nat → Bool)
abbrev Ops (M : Type) : Type := Qs × (M → Nat → Sh) × (M → Nat → Nat → Int32) × (M → Nat → Nat → Int64) × (M → Nat → Nat → Option Nat) × (M → Nat → Nat → Int32 → M) × (M → Nat → Nat → Int64 → M) × (M → Nat → Nat → Nat → Option M) × (M → Sh → Nat → Option (Nat × M)) × (M → Nat → Nat → Nat → Nat → Nat → Nat → M)
def oQ {M : Type} (O : Ops M) : Qs := O.1
def oH {M : Type} (O : Ops M) : M → Nat → Sh := O.2.1
def oI {M : Type} (O : Ops M) : M → Nat → Nat → Int32 := O.2.2.1
def oL {M : Type} (O : Ops M) : M → Nat → Nat → Int64 := O.2.2.2.1
def oR {M : Type} (O : Ops M) : M → Nat → Nat → Option Nat := O.2.2.2.2.1
def pI {M : Type} (O : Ops M) : M → Nat → Nat → Int32 → M := O.2.2.2.2.2.1
def pL {M : Type} (O : Ops M) : M → Nat → Nat → Int64 → M := O.2.2.2.2.2.2.1
def pR {M : Type} (O : Ops M) : M → Nat → Nat → Nat → Option M := O.2.2.2.2.2.2.2.1
def oN {M : Type} (O : Ops M) : M → Sh → Nat → Option (Nat × M) := O.2.2.2.2.2.2.2.2.1
def oC {M : Type} (O : Ops M) : M → Nat → Nat → Nat → Nat → Nat → Nat → M := O.2.2.2.2.2.2.2.2.2
-- binders of answers (u1, u2: nothing but height: a tree's bX is unfolded last)
def u1 {α : Type} (a : α) : α := a
def u2 {α : Type} (a : α) : α := u1 a
def bI {M : Type} (r : Rs M) (f : Int32 → M → Rs M) : Rs M := match u2 r with
  | some (some (.int x), m) => f x m
  | _ => none
def bL {M : Type} (r : Rs M) (f : Int64 → M → Rs M) : Rs M := match u2 r with
  | some (some (.long x), m) => f x m
  | _ => none
def bA {M : Type} (r : Rs M) (f : Nat → M → Rs M) : Rs M := match u2 r with
  | some (some (.ref x), m) => f x m
  | _ => none
def bV {M : Type} (r : Rs M) (f : M → Rs M) : Rs M := match u2 r with
  | some (none, m) => f m
  | _ => none
def bO {M : Type} (r : Option Nat) (f : Nat → Rs M) : Rs M := match u2 r with
  | some x => f x
  | none => none
def bM {M : Type} (r : Option M) (f : M → Rs M) : Rs M := match u2 r with
  | some x => f x
  | none => none
def bN {M : Type} (r : Option (Nat × M)) (f : Nat → M → Rs M) : Rs M := match u2 r with
  | some (x, m) => f x m
  | none => none
def bX {α β : Type} (v : α) (f : α → β) : β := f v
def bS {M : Type} (r : Sh) (f : Nat → Rs M) : Rs M := match u2 r with
  | .inr (_, n) => f n
  | .inl _ => none
-- checks
def bT {α : Type} (c : Bool) (a b : α) : α := match u2 c with
  | true => a
  | false => b
def okO (s : Sh) (c : Nat) : Bool := match s with
  | .inl d => Nat.beq d c
  | .inr _ => false
def okI (Q : Qs) (s : Sh) (i : Int32) : Bool := match s with
  | .inl _ => false
  | .inr (u, n) => bT (Nat.beq u 0) (Q.2.1 i n) (bT (Nat.beq u 10) (Q.2.1 i n) false)
def okB (Q : Qs) (s : Sh) (i : Int32) : Bool := match s with
  | .inl _ => false
  | .inr (u, n) => bT (Nat.beq u 1) (Q.2.1 i n) (bT (Nat.beq u 3) (Q.2.1 i n) (bT (Nat.beq u 11) (Q.2.1 i n) false))
def ok1 (Q : Qs) (t : Nat) (s : Sh) (i : Int32) : Bool := match s with
  | .inl _ => false
  | .inr (u, n) => bT (Nat.beq u t) (Q.2.1 i n) false
def okA (Q : Qs) (s : Sh) (i : Int32) : Bool := match s with
  | .inl _ => false
  | .inr (u, n) => bT (Nat.beq u 4) (Q.2.1 i n) (bT (Nat.beq u 5) (Q.2.1 i n) (bT (Nat.beq u 6) (Q.2.1 i n) false))
def okC (Q : Qs) (t : Nat) (s d : Sh) (sp dp n : Int32) : Bool := match s with
  | .inl _ => false
  | .inr (u, a) => match d with
    | .inl _ => false
    | .inr (w, b) => bT (Nat.beq u t) (bT (Nat.beq w t) (Q.2.2.2.2 sp dp n a b) false) false
def nar (u : Nat) (x : Int32) : Int32 := match u with
  | 1 => x.toInt8.toInt32
  | _ => x &&& 1
def lcst (a : Nat) : Int64 := match a with
  | 0 => 0
  | 1 => 1
  | 2 => -9223372036854775808
  | _ => 4294967295
-- locals
def lset : Lo → Nat → Option Value → Lo
  | [], 0, v => [v]
  | [], n + 1, v => none :: lset [] n v
  | _ :: l, 0, v => v :: l
  | x :: l, n + 1, v => x :: lset l n v
def lkill (l : Lo) (i : Nat) : Lo := match i with
  | 0 => l
  | j + 1 => match l[j]? with
    | some (some (.long _)) => lset l j none
    | some (some (.double _)) => lset l j none
    | _ => l
def lmask : List Bool → Lo → Lo
  | [], _ => []
  | _ :: bs, [] => none :: lmask bs []
  | true :: bs, v :: l => v :: lmask bs l
  | false :: bs, _ :: l => none :: lmask bs l
def lst1 (l : Lo) (i : Nat) (v : Value) : Lo := lset (lkill l i) i (some v)
def argsL : List Value → Lo
  | [] => []
  | .long x :: r => some (.long x) :: none :: argsL r
  | .double x :: r => some (.double x) :: none :: argsL r
  | v :: r => some v :: argsL r
def swK {α : Type} (Q : Qs) : List (Int32 × Nat) → Nat → Int32 → (Nat → α) → α
  | [], d, _, k => k d
  | (c, t) :: l, d, x, k => bT (Q.1 0 x c) (k t) (swK Q l d x k)
def callK {M : Type} (q : Nat) (r : Rs M) (k : List Value → M → Rs M) : Rs M := match q with
  | 0 => bV r fun m => k [] m
  | 1 => bI r fun x m => k [.int x] m
  | 2 => bL r fun x m => k [.long x] m
  | _ => bA r fun x m => k [.ref x] m
def rcvK {M : Type} (O : Ops M) (c : Nat) (as : List Value) (m : M) (k : Rs M) : Rs M := match c with
  | 0 => k
  | d + 1 => match as with
    | .ref r :: _ => bT (okO (oH O m r) d) k none
    | _ => none
def room8 (st : List Value) : Bool := Nat.ble ((st.map fun v => v.category).sum) 8
/-- the words that a call's row names: how many locals the called one has -/
def swx (sw : List (Int32 × Nat)) : Nat := match sw with
  | (_, x) :: _ => x
  | [] => 0
def room9 (n x : Nat) (st : List Value) : Bool := bT (Nat.ble n st.length) (bT (Nat.ble (argsL (st.take n).reverse).length x) (room8 (st.drop n)) false) false
def cmpK {α : Type} (Q : Qs) (c : Jvm.ClassFile.Cond) (x y : Int32) (a b : α) : α := match c with
  | .eq => bT (Q.1 0 x y) a b
  | .ne => bT (Q.1 0 x y) b a
  | .lt => bT (Q.1 1 x y) a b
  | .ge => bT (Q.1 2 y x) a b
  | .gt => bT (Q.1 1 y x) a b
  | .le => bT (Q.1 2 x y) a b
noncomputable def stpK {M : Type} (O : Ops M) (cf : Nat → List Value → M → Rs M) (k : Nat → Lo → List Value → M → Rs M) (row : Row) (ls : Lo) (st : List Value) (m : M) : Rs M := match row with
  | (i, nx, a, b, c, v, sw) => match i with
    | .iload _ | .iload_n _ => match ls[a]? with
      | some (some (.int x)) => k nx ls (.int x :: st) m
      | _ => none
    | .aload _ | .aload_n _ => match ls[a]? with
      | some (some (.ref x)) => k nx ls (.ref x :: st) m
      | _ => none
    | .lload _ | .lload_n _ => match ls[a]? with
      | some (some (.long x)) => k nx ls (.long x :: st) m
      | _ => none
    | .istore _ | .istore_n _ => match st with
      | .int x :: st' => k nx (lst1 ls a (.int x)) st' m
      | _ => none
    | .astore _ | .astore_n _ => match st with
      | .ref x :: st' => k nx (lst1 ls a (.ref x)) st' m
      | _ => none
    | .iinc _ _ => match ls[a]? with
      | some (some (.int x)) => k nx (lst1 ls a (.int (x + v))) st m
      | _ => none
    | .iconst _ | .bipush _ | .sipush _ => k nx ls (.int v :: st) m
    | .ldc _ | .ldc_w _ => match c with
      | 0 => k nx ls (.int v :: st) m
      | _ => k nx ls (.ref a :: st) m
    | .lconst _ | .ldc2_w _ => k nx ls (.long (lcst a) :: st) m
    | .iadd => match st with
      | .int y :: .int x :: st' => k nx ls (.int (x + y) :: st') m
      | _ => none
    | .isub => match st with
      | .int y :: .int x :: st' => k nx ls (.int (x - y) :: st') m
      | _ => none
    | .imul => match st with
      | .int y :: .int x :: st' => k nx ls (.int (x * y) :: st') m
      | _ => none
    | .idiv => match st with
      | .int y :: .int x :: st' => bT ((oQ O).1 0 y 0) none (k nx ls (.int (x / y) :: st') m)
      | _ => none
    | .irem => match st with
      | .int y :: .int x :: st' => bT ((oQ O).1 0 y 0) none (k nx ls (.int (x - x / y * y) :: st') m)
      | _ => none
    | .iand => match st with
      | .int y :: .int x :: st' => k nx ls (.int (x &&& y) :: st') m
      | _ => none
    | .ior => match st with
      | .int y :: .int x :: st' => k nx ls (.int (x ||| y) :: st') m
      | _ => none
    | .ixor => match st with
      | .int y :: .int x :: st' => k nx ls (.int (x ^^^ y) :: st') m
      | _ => none
    | .ishl => match st with
      | .int y :: .int x :: st' => k nx ls (.int (x <<< (y &&& 31)) :: st') m
      | _ => none
    | .ishr => match st with
      | .int y :: .int x :: st' => k nx ls (.int (x >>> (y &&& 31)) :: st') m
      | _ => none
    | .iushr => match st with
      | .int y :: .int x :: st' => k nx ls (.int ((x.toUInt32 >>> (y.toUInt32 &&& Int32.toUInt32 31)).toInt32) :: st') m
      | _ => none
    | .ineg => match st with
      | .int x :: st' => k nx ls (.int (-x) :: st') m
      | _ => none
    | .i2l => match st with
      | .int x :: st' => k nx ls (.long x.toInt64 :: st') m
      | _ => none
    | .l2i => match st with
      | .long x :: st' => k nx ls (.int x.toInt32 :: st') m
      | _ => none
    | .i2b => match st with
      | .int x :: st' => k nx ls (.int x.toInt8.toInt32 :: st') m
      | _ => none
    | .i2s => match st with
      | .int x :: st' => k nx ls (.int x.toInt16.toInt32 :: st') m
      | _ => none
    | .i2c => match st with
      | .int x :: st' => k nx ls (.int (x.toUInt32 % 65536).toInt32 :: st') m
      | _ => none
    | .land => match st with
      | .long y :: .long x :: st' => k nx ls (.long (x &&& y) :: st') m
      | _ => none
    | .lor => match st with
      | .long y :: .long x :: st' => k nx ls (.long (x ||| y) :: st') m
      | _ => none
    | .lshl => match st with
      | .int y :: .long x :: st' => k nx ls (.long (x <<< (y.toInt64 &&& 63)) :: st') m
      | _ => none
    | .lcmp => match st with
      | .long y :: .long x :: st' => k nx ls (.int ((oQ O).2.2.1 x y) :: st') m
      | _ => none
    | .dup => match st with
      | .int x :: st' => k nx ls (.int x :: .int x :: st') m
      | .ref x :: st' => k nx ls (.ref x :: .ref x :: st') m
      | _ => none
    | .dup2 => match st with
      | .int x :: .ref y :: st' => k nx ls (.int x :: .ref y :: .int x :: .ref y :: st') m
      | _ => none
    | .pop => match st with
      | .int _ :: st' => k nx ls st' m
      | _ => none
    | .goto _ => k a ls st m
    | .ifCond q _ => match st with
      | .int x :: st' => cmpK (oQ O) q x 0 (k a ls st' m) (k nx ls st' m)
      | _ => none
    | .if_icmp q _ => match st with
      | .int y :: .int x :: st' => cmpK (oQ O) q x y (k a ls st' m) (k nx ls st' m)
      | _ => none
    | .tableswitch _ _ _ _ | .lookupswitch _ _ => match st with
      | .int x :: st' => swK (oQ O) sw a x fun t => k t ls st' m
      | _ => none
    | .getfield _ => match st with
      | .ref r :: st' => bT (okO (oH O m r) a) ((match c with
        | 0 => bX (oI O m r b) fun z => k nx ls (.int z :: st') m
        | _ => bO (oR O m r b) fun q => k nx ls (.ref q :: st') m)) none
      | _ => none
    | .putfield _ => match c with
      | 1 => match st with
        | .ref q :: .ref r :: st' => bT (okO (oH O m r) a) (bM (pR O m r b q) fun m' => k nx ls st' m') none
        | _ => none
      | 0 => match st with
        | .int x :: .ref r :: st' => bT (okO (oH O m r) a) (bX (pI O m r b x) fun m' => k nx ls st' m') none
        | _ => none
      | _ => match st with
        | .int x :: .ref r :: st' => bT (okO (oH O m r) a) ((bT ((oQ O).2.2.2.1 1 x) (bX (pI O m r b x) fun m' => k nx ls st' m') none)) none
        | _ => none
    | .getstatic _ => match c with
      | 0 => k nx ls (.ref a :: st) m
      | _ => k nx ls (.int v :: st) m
    | .iaload => match st with
      | .int x :: .ref r :: st' => bT (okI (oQ O) (oH O m r) x) (bX (oI O m r x.toNatClampNeg) fun z => k nx ls (.int z :: st') m) none
      | _ => none
    | .baload => match st with
      | .int x :: .ref r :: st' => bT (okB (oQ O) (oH O m r) x) (bX (oI O m r x.toNatClampNeg) fun z => k nx ls (.int z :: st') m) none
      | _ => none
    | .laload => match st with
      | .int x :: .ref r :: st' => bT (ok1 (oQ O) 2 (oH O m r) x) (bX (oL O m r x.toNatClampNeg) fun z => k nx ls (.long z :: st') m) none
      | _ => none
    | .aaload => match st with
      | .int x :: .ref r :: st' => bT (okA (oQ O) (oH O m r) x) (bO (oR O m r x.toNatClampNeg) fun q => k nx ls (.ref q :: st') m) none
      | _ => none
    | .iastore => match st with
      | .int y :: .int x :: .ref r :: st' => bT (ok1 (oQ O) 0 (oH O m r) x) (bX (pI O m r x.toNatClampNeg y) fun m' => k nx ls st' m') none
      | _ => none
    | .bastore => match st with
      | .int y :: .int x :: .ref r :: st' => bT (ok1 (oQ O) a (oH O m r) x) (bX (pI O m r x.toNatClampNeg (nar a y)) fun m' => k nx ls st' m') none
      | _ => none
    | .lastore => match st with
      | .long y :: .int x :: .ref r :: st' => bT (ok1 (oQ O) 2 (oH O m r) x) (bX (pL O m r x.toNatClampNeg y) fun m' => k nx ls st' m') none
      | _ => none
    | .aastore => match st with
      | .ref q :: .int x :: .ref r :: st' => bT (ok1 (oQ O) a (oH O m r) x) ((bT (okO (oH O m q) b) (bM (pR O m r x.toNatClampNeg q) fun m' => k nx ls st' m') none)) none
      | _ => none
    | .arraylength => match st with
      | .ref r :: st' => bS (oH O m r) fun n => k nx ls (.int (Int32.ofNat n) :: st') m
      | _ => none
    | .new _ => bN (oN O m (.inl a) b) fun q m' => k nx ls (.ref q :: st) m'
    | .newarray _ | .anewarray _ => match st with
      | .int x :: st' => bT ((oQ O).2.1 x 1000000) (bN (oN O m (.inr (a, x.toNatClampNeg)) x.toNatClampNeg) fun q m' => k nx ls (.ref q :: st') m') none
      | _ => none
    | .invokevirtual _ => bT (room9 (b / 4) (swx sw) st) (rcvK O c ((st.take (b / 4)).reverse) m (callK (b % 4) (cf a ((st.take (b / 4)).reverse) m) fun o m' => k nx ls (o ++ st.drop (b / 4)) m')) none
    | .invokespecial _ => match c with
      | 0 => match st with
        | .ref r :: st' => bT (Nat.beq r 1999) none (bT (room8 st') (k nx ls st' m) none)
        | _ => none
      | _ => bT (room9 (b / 4) (swx sw) st) (rcvK O c ((st.take (b / 4)).reverse) m (callK (b % 4) (cf a ((st.take (b / 4)).reverse) m) fun o m' => k nx ls (o ++ st.drop (b / 4)) m')) none
    | .invokestatic _ => match c with
      | 0 => bT (room9 (b / 4) (swx sw) st) (callK (b % 4) (cf a ((st.take (b / 4)).reverse) m) fun o m' => k nx ls (o ++ st.drop (b / 4)) m') none
      | _ => match st with
        | .int n :: .int dp :: .ref rd :: .int sp :: .ref rs :: st' => bT (room8 st') ((bT (okC (oQ O) a (oH O m rs) (oH O m rd) sp dp n) (bX (oC O m a rs sp.toNatClampNeg rd dp.toNatClampNeg n.toNatClampNeg) fun m' => k nx ls st' m') none)) none
        | _ => none
    | .ireturn => match st with
      | [.int x] => match c with
        | 0 => some (some (.int x), m)
        | _ => bT ((oQ O).2.2.2.1 c x) (some (some (.int x), m)) none
      | _ => none
    | .lreturn => match st with
      | [.long x] => some (some (.long x), m)
      | _ => none
    | .areturn => match st with
      | [.ref x] => some (some (.ref x), m)
      | _ => none
    | .return_ => match st with
      | [] => some (none, m)
      | _ => none
    | _ => none
abbrev RecT (M : Type) : Type := Nat → Lo → M → Rs M
noncomputable def blk {M : Type} (O : Ops M) (cf : Nat → List Value → M → Rs M) (fet : Nat → Option Row) (hd : Nat → Option (List Bool)) (rec : RecT M) (g : Nat) : Nat → Lo → List Value → M → Rs M :=
  Nat.rec (motive := fun _ => Nat → Lo → List Value → M → Rs M) (fun _ _ _ _ => none) (fun _ ih pc ls st m => match fet pc with
    | none => none
    | some row => stpK O cf (fun pc' ls' st' m' => match hd pc' with
      | none => ih pc' ls' st' m'
      | some n => match st' with
        | [] => rec pc' (lmask n ls') m'
        | _ => none) row ls st m) g
noncomputable def runN {M : Type} (O : Ops M) (cf : Nat → List Value → M → Rs M) (fet : Nat → Option Row) (hd : Nat → Option (List Bool)) (n : Nat) : RecT M :=
  Nat.rec (motive := fun _ => RecT M) (fun _ _ _ => none) (fun _ ih pc ls m => blk O cf fet hd ih 700 pc ls [] m) n
noncomputable def runF {M : Type} (O : Ops M) (cf : Nat → List Value → M → Rs M) (fet : Nat → Option Row) (hd : Nat → Option (List Bool)) : RecT M := fun pc ls m =>
  @dite (Rs M) (∃ r, ∃ n, runN O cf fet hd n pc ls m = some r) (Classical.propDecidable _) (fun h => some (Classical.choose h)) (fun _ => none)
noncomputable def callF {M : Type} (O : Ops M) (prog : Nat → Nat → Option Row) (heds : Nat → Nat → Option (List Bool)) (d : Nat) : Nat → List Value → M → Rs M :=
  Nat.rec (motive := fun _ => Nat → List Value → M → Rs M) (fun _ _ _ => none) (fun _ ih mi as m => runF O ih (prog mi) (heds mi) 0 (argsL as) m) d
/-- a memory that only grows -/
def OpsLe {M : Type} (O : Ops M) (Le : M → M → Prop) : Prop :=
  (∀ m, Le m m) ∧ (∀ a b c, Le a b → Le b c → Le a c) ∧ (∀ m k i v, Le m (pI O m k i v)) ∧ (∀ m k i v, Le m (pL O m k i v)) ∧ (∀ m k i v m', pR O m k i v = some m' → Le m m') ∧ (∀ m s n q m', oN O m s n = some (q, m') → Le m m') ∧ ∀ m t a b c d e, Le m (oC O m t a b c d e)
def CfLe {M : Type} (cf : Nat → List Value → M → Rs M) (Le : M → M → Prop) : Prop := ∀ i as m o m', cf i as m = some (o, m') → Le m m'
