/-! ACTS: what they answer, which bodies ran; asked of the class -/
def a10 (p : Int) (x : Int32) : Int32 := x + J p
def aC (p k v : Int) (x : Int32) : Int32 := if k = 2 ∨ k = 5 then a10 p (x * J 3) else if k = 4 then -(a10 p x) else if k = 6 then a10 p x ^^^ J v else a10 p x
def a11 (p k v : Int) (x : Int32) : Int32 := aC p k v x - J v
def a20 (p k v : Int) (x : Int32) : Int32 := a11 p k v x ^^^ J 6
def aN (p k v : Int) (x : Int32) : Int32 := if k = 1 then a20 p k v x else if k = 4 then a20 p k v (x + J 1) else if k = 6 then a11 p k v x + a10 p (J 2) else a11 p k v x
def a12 (p k v : Int) (x : Int32) : Int32 := aN p k v x * J 2
def aT (p k v : Int) (x : Int32) : Int32 := if k = 3 ∨ k = 6 then a12 p k v x + aN p k v (J 1) else if k = 5 then a12 p k v (x - J p) else a12 p k v x
def aLc (k : Int) : List Int := if k = 2 ∨ k = 5 then [30, 10] else if k = 4 then [50, 10] else if k = 6 then [71, 10] else [10]
def aLn (k : Int) : List Int := if k = 1 then 20 :: 11 :: aLc k else if k = 4 then 51 :: 20 :: 11 :: aLc k else if k = 6 then 70 :: 11 :: (aLc k ++ [10]) else 11 :: aLc k
def aLt (k : Int) : List Int := if k = 3 ∨ k = 6 then 40 :: 12 :: (aLn k ++ aLn k) else if k = 5 then 60 :: 12 :: aLn k else 12 :: aLn k
def curls (k : Int) : Int := if k = 2 ∨ k = 5 then 30 else if k = 4 then 50 else if k = 6 then 71 else 10
def nods (k : Int) : Int := if k = 1 then 20 else if k = 4 then 51 else if k = 6 then 70 else 11
def tells (k : Int) : Int := if k = 3 ∨ k = 6 then 40 else if k = 5 then 60 else 12
theorem aLc_len (k : Int) : (aLc k).length ≤ 2 := by
  unfold aLc
  (repeat' split) <;> simp
theorem aLn_len (k : Int) : (aLn k).length ≤ 5 := by
  have := aLc_len k
  unfold aLn
  (repeat' split) <;> simp <;> omega
theorem aLt_len (k : Int) : (aLt k).length ≤ 12 := by
  have := aLn_len k
  unfold aLt
  (repeat' split) <;> simp <;> omega
def ConC (m : SM) : Prop := ∀ k : Int, 0 ≤ k → k ≤ 6 → m.1 1001 k.toNat = J (curls k) ∧ m.1 1002 k.toNat = J (nods k) ∧ m.1 1003 k.toNat = J (tells k)
def LogC (l : List Int) (m : SM) : Prop := m.1 132 1 = J (l.length : Int) ∧ (∀ (j : Nat) (b : Int), l[j]? = some b → m.1 133 j = J b) ∧ l.length ≤ 20
def ActC (p k v : Int) (l : List Int) (m : SM) : Prop := (m.1 132 2 = J p ∧ m.1 132 3 = J k ∧ m.1 132 4 = J v) ∧ LogC l m ∧ ConC m
def aK : Nat → Prop := fun k => k = 132 ∨ k = 133
section
variable {m : SM} {d : Nat} {p k v : Int} {l : List Int} {x : Int32}
theorem S_1 (hA : ActC p k v l m) {b : Int} (hl : l.length < 20) : ∃ m', cB Q0 (d + 1) 1 [.ref 132, .int (J b)] m = some (none, m') ∧ ActC p k v (l ++ [b]) m' ∧ Fr aK m m' := by
  obtain ⟨⟨z2, z3, z4⟩, ⟨r0, r1, r2⟩, hc⟩ := hA
  have k1 : Fr aK m (up2 (up2 m.1 133 l.length (J b)) 132 1 (J ((l.length : Int) + 1)), m.2) := (Fr.put (K := aK) (k := 133) (by unfold aK; omega) _ _).tr (Fr.put (K := aK) (k := 132) (by unfold aK; omega) _ _)
  refine ⟨(up2 (up2 m.1 133 l.length (J b)) 132 1 (J ((l.length : Int) + 1)), m.2), ?_, ⟨⟨?_, ?_, ?_⟩, ⟨?_, fun j c hj => ?_, ?_⟩, fun k h0 h1 => ?_⟩, k1⟩
  · rw [cB_eq]
    show rB Q0 1 (cB Q0 d) 0 [some (.ref 132), some (.int (J b))] m = _
    rw [T_1_0]
    simp only [lits]
    simp (disch := omega) only [kk, lits, q0_J, q1_J, q2_J, cI_J, cT_J, cB_J, cZ_J, cS_J, c1_J, cA_J, J_clamp, u2_at, reduceIte, r0, u2_ne, Int.toNat_natCast]
    rw [if_neg (by omega)]
  · show up2 (up2 m.1 133 l.length (J b)) 132 1 (J ((l.length : Int) + 1)) 132 2 = _
    rw [u2_at, if_neg (by omega), u2_ne _ _ (by omega)]; exact z2
  · show up2 (up2 m.1 133 l.length (J b)) 132 1 (J ((l.length : Int) + 1)) 132 3 = _
    rw [u2_at, if_neg (by omega), u2_ne _ _ (by omega)]; exact z3
  · show up2 (up2 m.1 133 l.length (J b)) 132 1 (J ((l.length : Int) + 1)) 132 4 = _
    rw [u2_at, if_neg (by omega), u2_ne _ _ (by omega)]; exact z4
  · show up2 (up2 m.1 133 l.length (J b)) 132 1 (J ((l.length : Int) + 1)) 132 1 = _
    rw [u2_at, if_pos rfl]
    simp
  · show up2 (up2 m.1 133 l.length (J b)) 132 1 (J ((l.length : Int) + 1)) 133 j = _
    rw [u2_ne _ _ (by omega), u2_at]
    rw [List.getElem?_append] at hj
    by_cases e : j = l.length
    · rw [if_pos e]
      rw [if_neg (by omega), e, Nat.sub_self] at hj
      have hj : some b = some c := hj
      rw [Option.some.inj hj]
    · rw [if_neg e]
      by_cases e2 : j < l.length
      · rw [if_pos e2] at hj
        exact r1 j c hj
      · rw [if_neg e2] at hj
        rw [show j - l.length = (j - l.length - 1) + 1 by omega] at hj
        exact absurd hj (by simp)
  · simp; omega
  · rw [k1.1 1001 (by unfold aK; omega), k1.1 1002 (by unfold aK; omega), k1.1 1003 (by unfold aK; omega)]
    exact hc k h0 h1
/-- a body begins -/
theorem C10 (hA : ActC p k v l m) (hk : 0 ≤ k ∧ k ≤ 6) {dep : Int} (hd : 0 ≤ dep ∧ dep ≤ 19) (hl : l.length < 20) : ∃ m', cB Q0 (d + 2) 2 [.ref 132, .int (J 10), .int x, .int (J dep)] m = some (some (.int (a10 p x)), m') ∧ ActC p k v (l ++ [10]) m' ∧ Fr aK m m' := by
  obtain ⟨m1, q1, q2, q3⟩ := S_1 (d := d) hA (b := 10) hl
  have z3 := hA.1.2.1
  have y2 := q2.1.1
  have e1 := S_85 (m := m) (d := d) (show -2147483648 ≤ k by omega) (by omega) (show -2147483648 ≤ (0 : Int) by omega) (by omega) (show -2147483648 ≤ (6 : Int) by omega) (by omega)
  refine ⟨m1, ?_, q2, q3⟩
  rw [cB_eq]
  show rB Q0 2 (cB Q0 (d + 1)) 0 [some (.ref 132), some (.int (J 10)), some (.int x), some (.int (J dep))] m = _
  rw [T_2_0]
  simp only [lits]
  simp (disch := omega) only [kk, lits, q0_J, q1_J, q2_J, cI_J, cT_J, cB_J, cZ_J, cS_J, c1_J, cA_J, J_clamp, u2_at, reduceIte, z3, e1, q1, y2, Int.reduceEq]
  rw [if_neg (by omega), if_pos hk]
  rfl
theorem C30 (hA : ActC p k v l m) (hk : 0 ≤ k ∧ k ≤ 6) {dep : Int} (hd : 0 ≤ dep ∧ dep ≤ 18) (hl : l.length + 2 ≤ 20) : ∃ m', cB Q0 (d + 3) 2 [.ref 132, .int (J 30), .int x, .int (J dep)] m = some (some (.int (a10 p (x * J 3))), m') ∧ ActC p k v (l ++ (30 :: [10])) m' ∧ Fr aK m m' := by
  have cl := aLc_len k
  have cn := aLn_len k
  obtain ⟨m1, q1, q2, q3⟩ := S_1 (d := d + 1) hA (b := 30) (by omega)
  have z3 := hA.1.2.1
  obtain ⟨⟨y2, y3, y4⟩, -, hc⟩ := id q2
  have e1 := S_85 (m := m) (d := d + 1) (show -2147483648 ≤ k by omega) (by omega) (show -2147483648 ≤ (0 : Int) by omega) (by omega) (show -2147483648 ≤ (6 : Int) by omega) (by omega)
  have ll : (l ++ [30]).length = l.length + 1 := by simp
  have h1 : m1.1 1001 ((0 : Int)).toNat = J 10 := (hc 0 (by omega) (by omega)).1
  obtain ⟨m2, w1, w2, w3⟩ := C10 (d := d + 0) (x := x * J 3) q2 hk (dep := dep + 1) (by omega) (by omega)
  obtain ⟨⟨x2, x3, x4⟩, -, -⟩ := id w2
  refine ⟨m2, ?_, ?_, q3.tr w3⟩
  · rw [cB_eq]
    show rB Q0 2 (cB Q0 (d + 2)) 0 [some (.ref 132), some (.int (J 30)), some (.int x), some (.int (J dep))] m = _
    rw [T_2_0]
    simp only [lits]
    simp (disch := omega) only [kk, lits, q0_J, q1_J, q2_J, cI_J, cT_J, cB_J, cZ_J, cS_J, c1_J, cA_J, J_clamp, u2_at, reduceIte, z3, e1, q1, y2, y3, h1, Int.reduceEq]
    rw [if_neg (by omega), if_pos hk]
    simp (disch := omega) only [kk, lits, q0_J, q1_J, q2_J, cI_J, cT_J, cB_J, cZ_J, cS_J, c1_J, cA_J, J_clamp, u2_at, reduceIte, w1, x2, x3, x4]
    try rfl
  · rw [List.append_assoc] at w2
    exact w2
theorem C50 (hA : ActC p k v l m) (hk : 0 ≤ k ∧ k ≤ 6) {dep : Int} (hd : 0 ≤ dep ∧ dep ≤ 18) (hl : l.length + 2 ≤ 20) : ∃ m', cB Q0 (d + 3) 2 [.ref 132, .int (J 50), .int x, .int (J dep)] m = some (some (.int (-(a10 p x))), m') ∧ ActC p k v (l ++ (50 :: [10])) m' ∧ Fr aK m m' := by
  have cl := aLc_len k
  have cn := aLn_len k
  obtain ⟨m1, q1, q2, q3⟩ := S_1 (d := d + 1) hA (b := 50) (by omega)
  have z3 := hA.1.2.1
  obtain ⟨⟨y2, y3, y4⟩, -, hc⟩ := id q2
  have e1 := S_85 (m := m) (d := d + 1) (show -2147483648 ≤ k by omega) (by omega) (show -2147483648 ≤ (0 : Int) by omega) (by omega) (show -2147483648 ≤ (6 : Int) by omega) (by omega)
  have ll : (l ++ [50]).length = l.length + 1 := by simp
  have h1 : m1.1 1001 ((1 : Int)).toNat = J 10 := (hc 1 (by omega) (by omega)).1
  obtain ⟨m2, w1, w2, w3⟩ := C10 (d := d + 0) (x := x) q2 hk (dep := dep + 1) (by omega) (by omega)
  obtain ⟨⟨x2, x3, x4⟩, -, -⟩ := id w2
  refine ⟨m2, ?_, ?_, q3.tr w3⟩
  · rw [cB_eq]
    show rB Q0 2 (cB Q0 (d + 2)) 0 [some (.ref 132), some (.int (J 50)), some (.int x), some (.int (J dep))] m = _
    rw [T_2_0]
    simp only [lits]
    simp (disch := omega) only [kk, lits, q0_J, q1_J, q2_J, cI_J, cT_J, cB_J, cZ_J, cS_J, c1_J, cA_J, J_clamp, u2_at, reduceIte, z3, e1, q1, y2, y3, h1, Int.reduceEq]
    rw [if_neg (by omega), if_pos hk]
    simp (disch := omega) only [kk, lits, q0_J, q1_J, q2_J, cI_J, cT_J, cB_J, cZ_J, cS_J, c1_J, cA_J, J_clamp, u2_at, reduceIte, w1, x2, x3, x4]
    try rfl
  · rw [List.append_assoc] at w2
    exact w2
theorem C71 (hA : ActC p k v l m) (hk : 0 ≤ k ∧ k ≤ 6) {dep : Int} (hd : 0 ≤ dep ∧ dep ≤ 18) (hl : l.length + 2 ≤ 20) : ∃ m', cB Q0 (d + 3) 2 [.ref 132, .int (J 71), .int x, .int (J dep)] m = some (some (.int (a10 p x ^^^ J v)), m') ∧ ActC p k v (l ++ (71 :: [10])) m' ∧ Fr aK m m' := by
  have cl := aLc_len k
  have cn := aLn_len k
  obtain ⟨m1, q1, q2, q3⟩ := S_1 (d := d + 1) hA (b := 71) (by omega)
  have z3 := hA.1.2.1
  obtain ⟨⟨y2, y3, y4⟩, -, hc⟩ := id q2
  have e1 := S_85 (m := m) (d := d + 1) (show -2147483648 ≤ k by omega) (by omega) (show -2147483648 ≤ (0 : Int) by omega) (by omega) (show -2147483648 ≤ (6 : Int) by omega) (by omega)
  have ll : (l ++ [71]).length = l.length + 1 := by simp
  have h1 : m1.1 1001 ((3 : Int)).toNat = J 10 := (hc 3 (by omega) (by omega)).1
  obtain ⟨m2, w1, w2, w3⟩ := C10 (d := d + 0) (x := x) q2 hk (dep := dep + 1) (by omega) (by omega)
  obtain ⟨⟨x2, x3, x4⟩, -, -⟩ := id w2
  refine ⟨m2, ?_, ?_, q3.tr w3⟩
  · rw [cB_eq]
    show rB Q0 2 (cB Q0 (d + 2)) 0 [some (.ref 132), some (.int (J 71)), some (.int x), some (.int (J dep))] m = _
    rw [T_2_0]
    simp only [lits]
    simp (disch := omega) only [kk, lits, q0_J, q1_J, q2_J, cI_J, cT_J, cB_J, cZ_J, cS_J, c1_J, cA_J, J_clamp, u2_at, reduceIte, z3, e1, q1, y2, y3, h1, Int.reduceEq]
    rw [if_neg (by omega), if_pos hk]
    simp (disch := omega) only [kk, lits, q0_J, q1_J, q2_J, cI_J, cT_J, cB_J, cZ_J, cS_J, c1_J, cA_J, J_clamp, u2_at, reduceIte, w1, x2, x3, x4]
    try rfl
  · rw [List.append_assoc] at w2
    exact w2
theorem CC (hA : ActC p k v l m) (hk : 0 ≤ k ∧ k ≤ 6) {dep : Int} (hd : 0 ≤ dep ∧ dep ≤ 18) (hl : l.length + 2 ≤ 20) : ∃ m', cB Q0 (d + 3) 2 [.ref 132, .int (J (curls k)), .int x, .int (J dep)] m = some (some (.int (aC p k v x)), m') ∧ ActC p k v (l ++ aLc k) m' ∧ Fr aK m m' := by
  unfold curls aC aLc
  by_cases c1 : k = 2 ∨ k = 5
  · rw [if_pos c1, if_pos c1, if_pos c1]
    exact C30 (d := d) hA hk hd hl
  · rw [if_neg c1, if_neg c1, if_neg c1]
    by_cases c2 : k = 4
    · rw [if_pos c2, if_pos c2, if_pos c2]
      exact C50 (d := d) hA hk hd hl
    · rw [if_neg c2, if_neg c2, if_neg c2]
      by_cases c3 : k = 6
      · rw [if_pos c3, if_pos c3, if_pos c3]
        exact C71 (d := d) hA hk hd hl
      · rw [if_neg c3, if_neg c3, if_neg c3]
        exact C10 (d := d + 1) hA hk (by omega) (by omega)
theorem C11 (hA : ActC p k v l m) (hk : 0 ≤ k ∧ k ≤ 6) {dep : Int} (hd : 0 ≤ dep ∧ dep ≤ 17) (hl : l.length + 3 ≤ 20) : ∃ m', cB Q0 (d + 4) 2 [.ref 132, .int (J 11), .int x, .int (J dep)] m = some (some (.int (a11 p k v x)), m') ∧ ActC p k v (l ++ (11 :: aLc k)) m' ∧ Fr aK m m' := by
  have cl := aLc_len k
  have cn := aLn_len k
  obtain ⟨m1, q1, q2, q3⟩ := S_1 (d := d + 2) hA (b := 11) (by omega)
  have z3 := hA.1.2.1
  obtain ⟨⟨y2, y3, y4⟩, -, hc⟩ := id q2
  have e1 := S_85 (m := m) (d := d + 2) (show -2147483648 ≤ k by omega) (by omega) (show -2147483648 ≤ (0 : Int) by omega) (by omega) (show -2147483648 ≤ (6 : Int) by omega) (by omega)
  have ll : (l ++ [11]).length = l.length + 1 := by simp
  have h1 : m1.1 1001 (k).toNat = J (curls k) := (hc k (by omega) (by omega)).1
  obtain ⟨m2, w1, w2, w3⟩ := CC (d := d + 0) (x := x) q2 hk (dep := dep + 1) (by omega) (by omega)
  obtain ⟨⟨x2, x3, x4⟩, -, -⟩ := id w2
  refine ⟨m2, ?_, ?_, q3.tr w3⟩
  · rw [cB_eq]
    show rB Q0 2 (cB Q0 (d + 3)) 0 [some (.ref 132), some (.int (J 11)), some (.int x), some (.int (J dep))] m = _
    rw [T_2_0]
    simp only [lits]
    simp (disch := omega) only [kk, lits, q0_J, q1_J, q2_J, cI_J, cT_J, cB_J, cZ_J, cS_J, c1_J, cA_J, J_clamp, u2_at, reduceIte, z3, e1, q1, y2, y3, h1, Int.reduceEq]
    rw [if_neg (by omega), if_pos hk]
    simp (disch := omega) only [kk, lits, q0_J, q1_J, q2_J, cI_J, cT_J, cB_J, cZ_J, cS_J, c1_J, cA_J, J_clamp, u2_at, reduceIte, w1, x2, x3, x4]
    try rfl
  · rw [List.append_assoc] at w2
    exact w2
theorem C20 (hA : ActC p k v l m) (hk : 0 ≤ k ∧ k ≤ 6) {dep : Int} (hd : 0 ≤ dep ∧ dep ≤ 16) (hl : l.length + 4 ≤ 20) : ∃ m', cB Q0 (d + 5) 2 [.ref 132, .int (J 20), .int x, .int (J dep)] m = some (some (.int (a20 p k v x)), m') ∧ ActC p k v (l ++ (20 :: (11 :: aLc k))) m' ∧ Fr aK m m' := by
  have cl := aLc_len k
  have cn := aLn_len k
  obtain ⟨m1, q1, q2, q3⟩ := S_1 (d := d + 3) hA (b := 20) (by omega)
  have z3 := hA.1.2.1
  obtain ⟨⟨y2, y3, y4⟩, -, hc⟩ := id q2
  have e1 := S_85 (m := m) (d := d + 3) (show -2147483648 ≤ k by omega) (by omega) (show -2147483648 ≤ (0 : Int) by omega) (by omega) (show -2147483648 ≤ (6 : Int) by omega) (by omega)
  have ll : (l ++ [20]).length = l.length + 1 := by simp
  have h1 : m1.1 1002 ((0 : Int)).toNat = J 11 := (hc 0 (by omega) (by omega)).2.1
  obtain ⟨m2, w1, w2, w3⟩ := C11 (d := d + 0) (x := x) q2 hk (dep := dep + 1) (by omega) (by omega)
  obtain ⟨⟨x2, x3, x4⟩, -, -⟩ := id w2
  refine ⟨m2, ?_, ?_, q3.tr w3⟩
  · rw [cB_eq]
    show rB Q0 2 (cB Q0 (d + 4)) 0 [some (.ref 132), some (.int (J 20)), some (.int x), some (.int (J dep))] m = _
    rw [T_2_0]
    simp only [lits]
    simp (disch := omega) only [kk, lits, q0_J, q1_J, q2_J, cI_J, cT_J, cB_J, cZ_J, cS_J, c1_J, cA_J, J_clamp, u2_at, reduceIte, z3, e1, q1, y2, y3, h1, Int.reduceEq]
    rw [if_neg (by omega), if_pos hk]
    simp (disch := omega) only [kk, lits, q0_J, q1_J, q2_J, cI_J, cT_J, cB_J, cZ_J, cS_J, c1_J, cA_J, J_clamp, u2_at, reduceIte, w1, x2, x3, x4]
    try rfl
  · rw [List.append_assoc] at w2
    exact w2
theorem C51 (hA : ActC p k v l m) (hk : 0 ≤ k ∧ k ≤ 6) {dep : Int} (hd : 0 ≤ dep ∧ dep ≤ 15) (hl : l.length + 5 ≤ 20) : ∃ m', cB Q0 (d + 6) 2 [.ref 132, .int (J 51), .int x, .int (J dep)] m = some (some (.int (a20 p k v (x + J 1))), m') ∧ ActC p k v (l ++ (51 :: (20 :: 11 :: aLc k))) m' ∧ Fr aK m m' := by
  have cl := aLc_len k
  have cn := aLn_len k
  obtain ⟨m1, q1, q2, q3⟩ := S_1 (d := d + 4) hA (b := 51) (by omega)
  have z3 := hA.1.2.1
  obtain ⟨⟨y2, y3, y4⟩, -, hc⟩ := id q2
  have e1 := S_85 (m := m) (d := d + 4) (show -2147483648 ≤ k by omega) (by omega) (show -2147483648 ≤ (0 : Int) by omega) (by omega) (show -2147483648 ≤ (6 : Int) by omega) (by omega)
  have ll : (l ++ [51]).length = l.length + 1 := by simp
  have h1 : m1.1 1002 ((1 : Int)).toNat = J 20 := (hc 1 (by omega) (by omega)).2.1
  obtain ⟨m2, w1, w2, w3⟩ := C20 (d := d + 0) (x := x + J 1) q2 hk (dep := dep + 1) (by omega) (by omega)
  obtain ⟨⟨x2, x3, x4⟩, -, -⟩ := id w2
  refine ⟨m2, ?_, ?_, q3.tr w3⟩
  · rw [cB_eq]
    show rB Q0 2 (cB Q0 (d + 5)) 0 [some (.ref 132), some (.int (J 51)), some (.int x), some (.int (J dep))] m = _
    rw [T_2_0]
    simp only [lits]
    simp (disch := omega) only [kk, lits, q0_J, q1_J, q2_J, cI_J, cT_J, cB_J, cZ_J, cS_J, c1_J, cA_J, J_clamp, u2_at, reduceIte, z3, e1, q1, y2, y3, h1, Int.reduceEq]
    rw [if_neg (by omega), if_pos hk]
    simp (disch := omega) only [kk, lits, q0_J, q1_J, q2_J, cI_J, cT_J, cB_J, cZ_J, cS_J, c1_J, cA_J, J_clamp, u2_at, reduceIte, w1, x2, x3, x4]
    try rfl
  · rw [List.append_assoc] at w2
    exact w2
theorem C70 (hA : ActC p k v l m) (hk : 0 ≤ k ∧ k ≤ 6) {dep : Int} (hd : 0 ≤ dep ∧ dep ≤ 15) (hl : l.length + 5 ≤ 20) : ∃ m', cB Q0 (d + 6) 2 [.ref 132, .int (J 70), .int x, .int (J dep)] m = some (some (.int (a11 p k v x + a10 p (J 2))), m') ∧ ActC p k v (l ++ (70 :: ((11 :: aLc k) ++ [10]))) m' ∧ Fr aK m m' := by
  have cl := aLc_len k
  have cn := aLn_len k
  obtain ⟨m1, q1, q2, q3⟩ := S_1 (d := d + 4) hA (b := 70) (by omega)
  have z3 := hA.1.2.1
  obtain ⟨⟨y2, y3, y4⟩, -, hc⟩ := id q2
  have e1 := S_85 (m := m) (d := d + 4) (show -2147483648 ≤ k by omega) (by omega) (show -2147483648 ≤ (0 : Int) by omega) (by omega) (show -2147483648 ≤ (6 : Int) by omega) (by omega)
  have ll : (l ++ [70]).length = l.length + 1 := by simp
  have h1 : m1.1 1002 ((3 : Int)).toNat = J 11 := (hc 3 (by omega) (by omega)).2.1
  obtain ⟨m2, w1, w2, w3⟩ := C11 (d := d + 1) (x := x) q2 hk (dep := dep + 1) (by omega) (by omega)
  obtain ⟨⟨x2, x3, x4⟩, -, hc2⟩ := id w2
  have h2 : m2.1 1001 ((3 : Int)).toNat = J 10 := (hc2 3 (by omega) (by omega)).1
  obtain ⟨m3, r1, r2, r3⟩ := C10 (d := d + 3) (x := J 2) w2 hk (dep := dep + 1) (by omega) (by simp; omega)
  refine ⟨m3, ?_, ?_, (q3.tr w3).tr r3⟩
  · rw [cB_eq]
    show rB Q0 2 (cB Q0 (d + 5)) 0 [some (.ref 132), some (.int (J 70)), some (.int x), some (.int (J dep))] m = _
    rw [T_2_0]
    simp only [lits]
    simp (disch := omega) only [kk, lits, q0_J, q1_J, q2_J, cI_J, cT_J, cB_J, cZ_J, cS_J, c1_J, cA_J, J_clamp, u2_at, reduceIte, z3, e1, q1, y2, y3, h1, Int.reduceEq]
    rw [if_neg (by omega), if_pos hk]
    simp (disch := omega) only [kk, lits, q0_J, q1_J, q2_J, cI_J, cT_J, cB_J, cZ_J, cS_J, c1_J, cA_J, J_clamp, u2_at, reduceIte, w1, x2, x3, x4, h2]
    simp (disch := omega) only [kk, lits, q0_J, q1_J, q2_J, cI_J, cT_J, cB_J, cZ_J, cS_J, c1_J, cA_J, J_clamp, u2_at, reduceIte, r1]
    try rfl
  · rw [List.append_assoc, List.append_assoc] at r2
    exact r2
theorem CN (hA : ActC p k v l m) (hk : 0 ≤ k ∧ k ≤ 6) {dep : Int} (hd : 0 ≤ dep ∧ dep ≤ 15) (hl : l.length + 5 ≤ 20) : ∃ m', cB Q0 (d + 6) 2 [.ref 132, .int (J (nods k)), .int x, .int (J dep)] m = some (some (.int (aN p k v x)), m') ∧ ActC p k v (l ++ aLn k) m' ∧ Fr aK m m' := by
  unfold nods aN aLn
  by_cases c1 : k = 1
  · rw [if_pos c1, if_pos c1, if_pos c1]
    exact C20 (d := d + 1) hA hk (by omega) (by omega)
  · rw [if_neg c1, if_neg c1, if_neg c1]
    by_cases c2 : k = 4
    · rw [if_pos c2, if_pos c2, if_pos c2]
      exact C51 (d := d) hA hk hd hl
    · rw [if_neg c2, if_neg c2, if_neg c2]
      by_cases c3 : k = 6
      · rw [if_pos c3, if_pos c3, if_pos c3]
        exact C70 (d := d) hA hk hd hl
      · rw [if_neg c3, if_neg c3, if_neg c3]
        exact C11 (d := d + 2) hA hk (by omega) (by omega)
theorem C12 (hA : ActC p k v l m) (hk : 0 ≤ k ∧ k ≤ 6) {dep : Int} (hd : 0 ≤ dep ∧ dep ≤ 14) (hl : l.length + 6 ≤ 20) : ∃ m', cB Q0 (d + 7) 2 [.ref 132, .int (J 12), .int x, .int (J dep)] m = some (some (.int (a12 p k v x)), m') ∧ ActC p k v (l ++ (12 :: aLn k)) m' ∧ Fr aK m m' := by
  have cl := aLc_len k
  have cn := aLn_len k
  obtain ⟨m1, q1, q2, q3⟩ := S_1 (d := d + 5) hA (b := 12) (by omega)
  have z3 := hA.1.2.1
  obtain ⟨⟨y2, y3, y4⟩, -, hc⟩ := id q2
  have e1 := S_85 (m := m) (d := d + 5) (show -2147483648 ≤ k by omega) (by omega) (show -2147483648 ≤ (0 : Int) by omega) (by omega) (show -2147483648 ≤ (6 : Int) by omega) (by omega)
  have ll : (l ++ [12]).length = l.length + 1 := by simp
  have h1 : m1.1 1002 (k).toNat = J (nods k) := (hc k (by omega) (by omega)).2.1
  obtain ⟨m2, w1, w2, w3⟩ := CN (d := d + 0) (x := x) q2 hk (dep := dep + 1) (by omega) (by omega)
  obtain ⟨⟨x2, x3, x4⟩, -, -⟩ := id w2
  refine ⟨m2, ?_, ?_, q3.tr w3⟩
  · rw [cB_eq]
    show rB Q0 2 (cB Q0 (d + 6)) 0 [some (.ref 132), some (.int (J 12)), some (.int x), some (.int (J dep))] m = _
    rw [T_2_0]
    simp only [lits]
    simp (disch := omega) only [kk, lits, q0_J, q1_J, q2_J, cI_J, cT_J, cB_J, cZ_J, cS_J, c1_J, cA_J, J_clamp, u2_at, reduceIte, z3, e1, q1, y2, y3, h1, Int.reduceEq]
    rw [if_neg (by omega), if_pos hk]
    simp (disch := omega) only [kk, lits, q0_J, q1_J, q2_J, cI_J, cT_J, cB_J, cZ_J, cS_J, c1_J, cA_J, J_clamp, u2_at, reduceIte, w1, x2, x3, x4]
    try rfl
  · rw [List.append_assoc] at w2
    exact w2
theorem C40 (hA : ActC p k v l m) (hk : 0 ≤ k ∧ k ≤ 6) {dep : Int} (hd : 0 ≤ dep ∧ dep ≤ 13) (hl : l.length + 12 ≤ 20) : ∃ m', cB Q0 (d + 8) 2 [.ref 132, .int (J 40), .int x, .int (J dep)] m = some (some (.int (a12 p k v x + aN p k v (J 1))), m') ∧ ActC p k v (l ++ (40 :: ((12 :: aLn k) ++ aLn k))) m' ∧ Fr aK m m' := by
  have cl := aLc_len k
  have cn := aLn_len k
  obtain ⟨m1, q1, q2, q3⟩ := S_1 (d := d + 6) hA (b := 40) (by omega)
  have z3 := hA.1.2.1
  obtain ⟨⟨y2, y3, y4⟩, -, hc⟩ := id q2
  have e1 := S_85 (m := m) (d := d + 6) (show -2147483648 ≤ k by omega) (by omega) (show -2147483648 ≤ (0 : Int) by omega) (by omega) (show -2147483648 ≤ (6 : Int) by omega) (by omega)
  have ll : (l ++ [40]).length = l.length + 1 := by simp
  have h1 : m1.1 1003 ((0 : Int)).toNat = J 12 := (hc 0 (by omega) (by omega)).2.2
  obtain ⟨m2, w1, w2, w3⟩ := C12 (d := d + 0) (x := x) q2 hk (dep := dep + 1) (by omega) (by omega)
  obtain ⟨⟨x2, x3, x4⟩, -, hc2⟩ := id w2
  have h2 : m2.1 1002 (k).toNat = J (nods k) := (hc2 k (by omega) (by omega)).2.1
  obtain ⟨m3, r1, r2, r3⟩ := CN (d := d + 1) (x := J 1) w2 hk (dep := dep + 1) (by omega) (by simp; omega)
  refine ⟨m3, ?_, ?_, (q3.tr w3).tr r3⟩
  · rw [cB_eq]
    show rB Q0 2 (cB Q0 (d + 7)) 0 [some (.ref 132), some (.int (J 40)), some (.int x), some (.int (J dep))] m = _
    rw [T_2_0]
    simp only [lits]
    simp (disch := omega) only [kk, lits, q0_J, q1_J, q2_J, cI_J, cT_J, cB_J, cZ_J, cS_J, c1_J, cA_J, J_clamp, u2_at, reduceIte, z3, e1, q1, y2, y3, h1, Int.reduceEq]
    rw [if_neg (by omega), if_pos hk]
    simp (disch := omega) only [kk, lits, q0_J, q1_J, q2_J, cI_J, cT_J, cB_J, cZ_J, cS_J, c1_J, cA_J, J_clamp, u2_at, reduceIte, w1, x2, x3, x4, h2]
    simp (disch := omega) only [kk, lits, q0_J, q1_J, q2_J, cI_J, cT_J, cB_J, cZ_J, cS_J, c1_J, cA_J, J_clamp, u2_at, reduceIte, r1]
    try rfl
  · rw [List.append_assoc, List.append_assoc] at r2
    exact r2
theorem C60 (hA : ActC p k v l m) (hk : 0 ≤ k ∧ k ≤ 6) {dep : Int} (hd : 0 ≤ dep ∧ dep ≤ 13) (hl : l.length + 7 ≤ 20) : ∃ m', cB Q0 (d + 8) 2 [.ref 132, .int (J 60), .int x, .int (J dep)] m = some (some (.int (a12 p k v (x - J p))), m') ∧ ActC p k v (l ++ (60 :: (12 :: aLn k))) m' ∧ Fr aK m m' := by
  have cl := aLc_len k
  have cn := aLn_len k
  obtain ⟨m1, q1, q2, q3⟩ := S_1 (d := d + 6) hA (b := 60) (by omega)
  have z3 := hA.1.2.1
  obtain ⟨⟨y2, y3, y4⟩, -, hc⟩ := id q2
  have e1 := S_85 (m := m) (d := d + 6) (show -2147483648 ≤ k by omega) (by omega) (show -2147483648 ≤ (0 : Int) by omega) (by omega) (show -2147483648 ≤ (6 : Int) by omega) (by omega)
  have ll : (l ++ [60]).length = l.length + 1 := by simp
  have h1 : m1.1 1003 ((2 : Int)).toNat = J 12 := (hc 2 (by omega) (by omega)).2.2
  obtain ⟨m2, w1, w2, w3⟩ := C12 (d := d + 0) (x := x - J p) q2 hk (dep := dep + 1) (by omega) (by omega)
  obtain ⟨⟨x2, x3, x4⟩, -, -⟩ := id w2
  refine ⟨m2, ?_, ?_, q3.tr w3⟩
  · rw [cB_eq]
    show rB Q0 2 (cB Q0 (d + 7)) 0 [some (.ref 132), some (.int (J 60)), some (.int x), some (.int (J dep))] m = _
    rw [T_2_0]
    simp only [lits]
    simp (disch := omega) only [kk, lits, q0_J, q1_J, q2_J, cI_J, cT_J, cB_J, cZ_J, cS_J, c1_J, cA_J, J_clamp, u2_at, reduceIte, z3, e1, q1, y2, y3, h1, Int.reduceEq]
    rw [if_neg (by omega), if_pos hk]
    simp (disch := omega) only [kk, lits, q0_J, q1_J, q2_J, cI_J, cT_J, cB_J, cZ_J, cS_J, c1_J, cA_J, J_clamp, u2_at, reduceIte, w1, x2, x3, x4]
    try rfl
  · rw [List.append_assoc] at w2
    exact w2
theorem CT (hA : ActC p k v l m) (hk : 0 ≤ k ∧ k ≤ 6) {dep : Int} (hd : 0 ≤ dep ∧ dep ≤ 13) (hl : l.length + 12 ≤ 20) : ∃ m', cB Q0 (d + 8) 2 [.ref 132, .int (J (tells k)), .int x, .int (J dep)] m = some (some (.int (aT p k v x)), m') ∧ ActC p k v (l ++ aLt k) m' ∧ Fr aK m m' := by
  unfold tells aT aLt
  by_cases c1 : k = 3 ∨ k = 6
  · rw [if_pos c1, if_pos c1, if_pos c1]
    exact C40 (d := d) hA hk hd hl
  · rw [if_neg c1, if_neg c1, if_neg c1]
    by_cases c2 : k = 5
    · rw [if_pos c2, if_pos c2, if_pos c2]
      exact C60 (d := d) hA hk hd (by omega)
    · rw [if_neg c2, if_neg c2, if_neg c2]
      exact C12 (d := d + 1) hA hk (by omega) (by omega)
end
