/-- decode, at its length -/
def dk (cc : ByteArray) (pc : Nat) (i : Instr) (n nx : Nat) : Bool := (match decode cc pc with
  | .ok (j, l) => decide (j = i) && Nat.beq l n
  | .error _ => false) && Nat.beq nx (pc + n)
theorem dk_spec {cc : ByteArray} {pc n nx : Nat} {i : Instr} (h : dk cc pc i n nx = true) : decode cc pc = .ok (i, n) ∧ nx = pc + n := by
  unfold dk at h
  rw [Bool.and_eq_true] at h
  obtain ⟨h1, h2⟩ := h
  refine ⟨?_, Nat.eq_of_beq_eq_true h2⟩
  split at h1
  · rename_i j l e
    rw [Bool.and_eq_true, decide_eq_true_eq] at h1
    rw [e, h1.1, Nat.eq_of_beq_eq_true h1.2]
  · cases h1
/-! When a row says what the code has at its place. -/
def swN : List (Int32 × Nat) → Nat → Int32 → Nat
  | [], d, _ => d
  | (c, t) :: l, d, x => if x = c then t else swN l d x
theorem swK_N {α : Type} (x : Int32) (d : Nat) (k : Nat → α) : ∀ l : List (Int32 × Nat), swK Q0 l d x k = k (swN l d x)
  | [] => rfl
  | (c, t) :: l => by
    show bT (decide (x = c)) (k t) (swK Q0 l d x k) = k (if x = c then t else swN l d x)
    rw [swK_N x d k l]
    by_cases h : x = c
    · rw [decide_eq_true h, if_pos h]; rfl
    · rw [decide_eq_false h, if_neg h]; rfl
def fnd (L : List (Nat × Nat × Nat × Nat)) (x y z : Nat) : Bool := L.any fun q => Nat.beq q.1 x && (Nat.beq q.2.1 y && Nat.beq q.2.2.1 z)
theorem fnd_spec {L : List (Nat × Nat × Nat × Nat)} {x y z : Nat} (h : fnd L x y z = true) : ∃ w, (x, y, z, w) ∈ L := by
  obtain ⟨⟨q1, q2, q3, q4⟩, hq, h⟩ := List.any_eq_true.mp h
  simp only [Bool.and_eq_true] at h
  obtain ⟨h1, h2, h3⟩ := h
  rw [← Nat.eq_of_beq_eq_true h1, ← Nat.eq_of_beq_eq_true h2, ← Nat.eq_of_beq_eq_true h3]
  exact ⟨q4, hq⟩
def fnd2 (L : List (Nat × Nat × Nat)) (x y : Nat) : Bool := L.any fun q => Nat.beq q.1 x && Nat.beq q.2.1 y
theorem fnd2_spec {L : List (Nat × Nat × Nat)} {x y : Nat} (h : fnd2 L x y = true) : ∃ w, (x, y, w) ∈ L := by
  obtain ⟨⟨q1, q2, q3⟩, hq, h⟩ := List.any_eq_true.mp h
  simp only [Bool.and_eq_true] at h
  obtain ⟨h1, h2⟩ := h
  rw [← Nat.eq_of_beq_eq_true h1, ← Nat.eq_of_beq_eq_true h2]
  exact ⟨q3, hq⟩
def fndF (x y z t : Nat) : Bool := kFld.any fun q => Nat.beq q.1 x && (Nat.beq q.2.1 y && (Nat.beq q.2.2.1 z && Nat.beq q.2.2.2.1 t))
theorem fndF_spec {x y z t : Nat} (h : fndF x y z t = true) : ∃ w, (x, y, z, t, w) ∈ kFld := by
  obtain ⟨⟨q1, q2, q3, q4, q5⟩, hq, h⟩ := List.any_eq_true.mp h
  simp only [Bool.and_eq_true] at h
  obtain ⟨h1, h2, h3, h4⟩ := h
  rw [← Nat.eq_of_beq_eq_true h1, ← Nat.eq_of_beq_eq_true h2, ← Nat.eq_of_beq_eq_true h3, ← Nat.eq_of_beq_eq_true h4]
  exact ⟨q5, hq⟩
def fndI (x y : Nat) (v : Int32) : Bool := kInt.any fun q => Nat.beq q.1 x && (Nat.beq q.2.1 y && decide (q.2.2.1 = v))
theorem fndI_spec {x y : Nat} {v : Int32} (h : fndI x y v = true) : ∃ w, (x, y, v, w) ∈ kInt := by
  obtain ⟨⟨q1, q2, q3, q4⟩, hq, h⟩ := List.any_eq_true.mp h
  simp only [Bool.and_eq_true, decide_eq_true_eq] at h
  obtain ⟨h1, h2, h3⟩ := h
  rw [← Nat.eq_of_beq_eq_true h1, ← Nat.eq_of_beq_eq_true h2, ← h3]
  exact ⟨q4, hq⟩
def has2 (L : List (Nat × Nat)) (x : Nat) : Bool := L.any fun q => Nat.beq q.1 x
theorem has2_spec {L : List (Nat × Nat)} {x : Nat} (h : has2 L x = true) : ∃ w, (x, w) ∈ L := by
  obtain ⟨⟨q1, q2⟩, hq, h⟩ := List.any_eq_true.mp h
  have h1 := Nat.eq_of_beq_eq_true h
  exact ⟨q2, by rw [← h1]; exact hq⟩
/-- what a return gives, as a kind of call -/
def kdR (r : Option FieldType) : Nat := match r with
  | none => 0
  | some .int => 1
  | some .boolean => 1
  | some .char => 1
  | some .byte => 1
  | some .long => 2
  | _ => 3
noncomputable def calOK (a b : Nat) (sw : List (Int32 × Nat)) : Bool := has2 kCode a && (has2 kIni a && (Nat.beq (b % 4) (kdR (rM a)) && (Nat.beq (swx sw) (xM a) && !(Nat.ble 210 a && Nat.ble a 212))))
/-- a table's row: every key within goes where the code says, and no other key is named -/
def swT (pc : Nat) (d lo hi : Int) (offs : Array Int) (a : Nat) (sw : List (Int32 × Nat)) : Bool := decide ((pc : Int) + d = (a : Int)) && (sw.all (fun q => decide (lo ≤ q.1.toInt) && decide (q.1.toInt ≤ hi)) && ((decide (-1000 ≤ lo) && (decide (lo ≤ hi) && decide (hi ≤ 1000))) && (List.range ((hi - lo).toNat + 1)).all (fun j => match offs[j]? with
  | some o => decide ((pc : Int) + o = (swN sw a (Int32.ofInt (lo + j)) : Int))
  | none => false)))
def swL (pc : Nat) (d : Int) : List (Int × Int) → Nat → List (Int32 × Nat) → Bool
  | [], a, [] => decide ((pc : Int) + d = (a : Int))
  | (k, o) :: r, a, (x, t) :: l => (decide (x.toInt = k) && decide ((pc : Int) + o = (t : Int))) && swL pc d r a l
  | _, _, _ => false
noncomputable def vOK (mi pc : Nat) (row : Row) : Bool := match row with
  | (i, nx, a, b, c, v, sw) => match i with
    | .iload j | .aload j | .lload j => dk (cM mi) pc i 2 nx && Nat.beq j a
    | .iload_n j | .aload_n j | .lload_n j => dk (cM mi) pc i 1 nx && Nat.beq j.val a
    | .istore j | .astore j => dk (cM mi) pc i 2 nx && (Nat.beq j a && Nat.ble (a + 1) (xM mi))
    | .istore_n j | .astore_n j => dk (cM mi) pc i 1 nx && (Nat.beq j.val a && Nat.ble (a + 1) (xM mi))
    | .iinc j n => dk (cM mi) pc i 3 nx && (Nat.beq j a && (Nat.ble (a + 1) (xM mi) && decide (Int32.ofInt n = v)))
    | .iconst n => dk (cM mi) pc i 1 nx && decide (Int32.ofInt n = v)
    | .bipush n => dk (cM mi) pc i 2 nx && decide ((Int8.ofInt n).toInt32 = v)
    | .sipush n => dk (cM mi) pc i 3 nx && decide ((Int16.ofInt n).toInt32 = v)
    | .ldc x => dk (cM mi) pc i 2 nx && (match c with
      | 0 => fndI (oM mi) x v
      | _ => Nat.beq (oM mi) 6 && (Nat.ble 1010 a && (Nat.ble a 1014 && Nat.beq x (skK (a - 1010)))))
    | .ldc_w x => dk (cM mi) pc i 3 nx && (Nat.beq c 0 && fndI (oM mi) x v)
    | .lconst n => dk (cM mi) pc i 1 nx && decide (Int64.ofNat n.val = lcst a)
    | .ldc2_w x => dk (cM mi) pc i 3 nx && fnd kLng (oM mi) x a
    | .iadd | .isub | .imul | .idiv | .irem | .iand | .ior | .ixor | .ishl | .ishr | .iushr | .ineg | .i2l | .l2i | .i2b | .i2s | .i2c | .land | .lor | .lshl | .lcmp | .dup | .dup2 | .pop | .iaload | .baload | .laload | .aaload | .iastore | .lastore | .arraylength => dk (cM mi) pc i 1 nx
    | .bastore => dk (cM mi) pc i 1 nx && (Nat.beq a 1 || Nat.beq a 3)
    | .aastore => dk (cM mi) pc i 1 nx && ((Nat.beq a 4 && Nat.beq b 1) || ((Nat.beq a 5 && Nat.beq b 7) || (Nat.beq a 6 && Nat.beq b 5)))
    | .goto o => dk (cM mi) pc i 3 nx && decide ((pc : Int) + o = (a : Int))
    | .ifCond _ o | .if_icmp _ o => dk (cM mi) pc i 3 nx && decide ((pc : Int) + o = (a : Int))
    | .tableswitch d lo hi offs => (match decode (cM mi) pc with
      | .ok (j, _) => decide (j = i)
      | .error _ => false) && swT pc d lo hi offs a sw
    | .lookupswitch d ps => (match decode (cM mi) pc with
      | .ok (j, _) => decide (j = i)
      | .error _ => false) && (swL pc d ps.toList a sw && (ps.toList.zip (ps.toList.drop 1)).all (fun (x, next) => x.1 < next.1))
    | .getfield x => dk (cM mi) pc i 3 nx && ((Nat.ble a 9 && (fndF (oM mi) x a b && Nat.beq c (bT (isRf (tyF a b)) 1 0))) || (Nat.beq a 10 && (fnd kSfl (oM mi) x b && ((Nat.beq b 0 && Nat.beq c 1) || (Nat.beq b 1 && Nat.beq c 0)))))
    | .putfield x => dk (cM mi) pc i 3 nx && (Nat.ble a 9 && (fndF (oM mi) x a b && ((match c with
      | 0 => decide (tyF a b = .int)
      | 1 => isRf (tyF a b)
      | _ => decide (tyF a b = .boolean)) && bT (tF a b).2.2.2 (decide ((yM mi).name = "<init>") && decide ((tF a b).1 = clsN (oM mi))) true)))
    | .getstatic x => dk (cM mi) pc i 3 nx && (match c with
      | 0 => (Nat.ble 1001 a && (Nat.ble a 1004 && (fnd kSta (oM mi) x (a - 1001) || (Nat.beq (oM mi) 0 && (Nat.ble a 1003 && Nat.beq x (nfK (a - 1001))))))) || (Nat.beq a 1999 && fnd kSta (oM mi) x 5)
      | _ => fnd kSta (oM mi) x 4 && decide (v = 1))
    | .new x => dk (cM mi) pc i 3 nx && (Nat.ble a 9 && (Nat.beq b (nF a) && fnd kCls (oM mi) x a))
    | .newarray t => dk (cM mi) pc i 2 nx && (match t with
      | .int => Nat.beq a 0
      | .byte => Nat.beq a 1
      | .long => Nat.beq a 2
      | .boolean => Nat.beq a 3
      | _ => false)
    | .anewarray x => dk (cM mi) pc i 3 nx && ((Nat.beq a 4 && fnd kCls (oM mi) x 1) || ((Nat.beq a 5 && fnd kCls (oM mi) x 7) || (Nat.beq a 6 && fnd kCls (oM mi) x 5)))
    | .invokevirtual x => dk (cM mi) pc i 3 nx && (calOK a b sw && (fnd kMth (oM mi) x a && (has2 kInst a && (has2 kSel a && (Nat.beq (b / 4) (aM a + 1) && (Nat.beq c (oM a + 1) && Nat.ble c 11))))))
    | .invokespecial x => dk (cM mi) pc i 3 nx && (match c with
      | 0 => fnd2 kObj (oM mi) x
      | _ => calOK a b sw && ((fnd kMth (oM mi) x a || fnd kNst (oM mi) x a) && (has2 kInst a && (decide ((yM a).name = "<init>") && (decide (rM a = none) && (Nat.beq (b / 4) (aM a + 1) && (Nat.beq c (oM a + 1) && Nat.ble c 10)))))))
    | .invokestatic x => dk (cM mi) pc i 3 nx && (match c with
      | 0 => (calOK a b sw && ((fnd kMth (oM mi) x a || fnd kNst (oM mi) x a) && (has2 kStat a && Nat.beq (b / 4) (aM a)))) || (Nat.ble 210 a && (Nat.ble a 212 && (fnd kMth (oM mi) x a && (Nat.beq (b % 4) 1 && Nat.beq (b / 4) (bT (Nat.beq a 210) 1 2)))))
      | _ => fnd2 kAcp (oM mi) x && (Nat.beq a 0 || Nat.beq a 2))
    | .ireturn => dk (cM mi) pc i 1 nx && (match c with
      | 0 => decide (rM mi = some .int)
      | 1 => decide (rM mi = some .boolean)
      | 2 => decide (rM mi = some .char)
      | _ => decide (rM mi = some .byte))
    | .lreturn => dk (cM mi) pc i 1 nx && decide (rM mi = some .long)
    | .areturn => dk (cM mi) pc i 1 nx && (match rM mi with
      | some (.object _) => true
      | _ => false)
    | .return_ => dk (cM mi) pc i 1 nx && decide (rM mi = none)
    | _ => false
