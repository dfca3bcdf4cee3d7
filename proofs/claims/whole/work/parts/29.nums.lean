/-! numbers, for the answers of methods -/
def J (z : Int) : Int32 := Int32.ofInt z
def bi (c : Prop) [Decidable c] : Int32 := if c then 1 else 0
theorem J_toInt {z : Int} (h1 : -2147483648 ≤ z) (h2 : z ≤ 2147483647) : (J z).toInt = z := Int32.toInt_ofInt_of_le h1 (by omega)
theorem J_ex (x : Int32) : ∃ z : Int, -2147483648 ≤ z ∧ z ≤ 2147483647 ∧ x = J z := ⟨x.toInt, by have := x.minValue_le_toInt; simpa using this, x.toInt_le, (Int32.ofInt_toInt x).symm⟩
theorem J_lt {a b : Int} (h1 : -2147483648 ≤ a) (h2 : a ≤ 2147483647) (h3 : -2147483648 ≤ b) (h4 : b ≤ 2147483647) : (J a < J b) = (a < b) := by
  rw [Int32.lt_iff_toInt_lt, J_toInt h1 h2, J_toInt h3 h4]
theorem J_le {a b : Int} (h1 : -2147483648 ≤ a) (h2 : a ≤ 2147483647) (h3 : -2147483648 ≤ b) (h4 : b ≤ 2147483647) : (J a ≤ J b) = (a ≤ b) := by
  rw [Int32.le_iff_toInt_le, J_toInt h1 h2, J_toInt h3 h4]
theorem J_eq {a b : Int} (h1 : -2147483648 ≤ a) (h2 : a ≤ 2147483647) (h3 : -2147483648 ≤ b) (h4 : b ≤ 2147483647) : (J a = J b) = (a = b) := by
  rw [← Int32.toInt_inj, J_toInt h1 h2, J_toInt h3 h4]
theorem J_clamp {a : Int} (h1 : 0 ≤ a) (h2 : a ≤ 2147483647) : (J a).toNatClampNeg = a.toNat := Int32.toNatClampNeg_ofInt_of_le (by omega) (by omega)
theorem J_add (a b : Int) : J a + J b = J (a + b) := (Int32.ofInt_add a b).symm
theorem J_sub (a b : Int) : J a - J b = J (a - b) := (Int32.ofInt_sub a b).symm
theorem J_mul (a b : Int) : J a * J b = J (a * b) := (Int32.ofInt_mul a b).symm
theorem J_neg (a : Int) : - J a = J (-a) := (Int32.ofInt_neg a).symm
theorem J_div {a b : Int} (h1 : -2147483648 ≤ a) (h2 : a ≤ 2147483647) (h3 : -2147483648 ≤ b) (h4 : b ≤ 2147483647) : J a / J b = J (a.tdiv b) := (Int32.ofInt_tdiv h1 h2 h3 h4).symm
theorem bi_J (c : Prop) [Decidable c] : bi c = J (if c then 1 else 0) := by
  unfold bi
  split <;> rfl
theorem bT_d {α : Type} (c : Prop) [Decidable c] (a b : α) : bT (decide c) a b = if c then a else b := by
  by_cases h : c
  · rw [decide_eq_true h, if_pos h]; rfl
  · rw [decide_eq_false h, if_neg h]; rfl
-- questions of plain numbers
theorem q0_J {α : Type} {a b : Int} (h1 : -2147483648 ≤ a) (h2 : a ≤ 2147483647) (h3 : -2147483648 ≤ b) (h4 : b ≤ 2147483647) (x y : α) : bT (Q0.1 0 (J a) (J b)) x y = if a = b then x else y := by
  show bT (decide (J a = J b)) x y = _
  simp only [J_eq h1 h2 h3 h4]
  exact bT_d _ _ _
theorem q1_J {α : Type} {a b : Int} (h1 : -2147483648 ≤ a) (h2 : a ≤ 2147483647) (h3 : -2147483648 ≤ b) (h4 : b ≤ 2147483647) (x y : α) : bT (Q0.1 1 (J a) (J b)) x y = if a < b then x else y := by
  show bT (decide (J a < J b)) x y = _
  simp only [J_lt h1 h2 h3 h4]
  exact bT_d _ _ _
theorem q2_J {α : Type} {a b : Int} (h1 : -2147483648 ≤ a) (h2 : a ≤ 2147483647) (h3 : -2147483648 ≤ b) (h4 : b ≤ 2147483647) (x y : α) : bT (Q0.1 2 (J a) (J b)) x y = if a ≤ b then x else y := by
  show bT (decide (J a ≤ J b)) x y = _
  simp only [J_le h1 h2 h3 h4]
  exact bT_d _ _ _
theorem rng_J {a : Int} {n : Nat} (h1 : 0 ≤ a) (h2 : a < n) (h3 : n ≤ 1000000) : Q0.2.1 (J a) n = true := by
  show (decide (0 ≤ J a) && decide ((J a).toNatClampNeg < n)) = true
  rw [J_clamp h1 (by omega), Bool.and_eq_true, decide_eq_true_eq, decide_eq_true_eq]
  exact ⟨by rw [show (0 : Int32) = J 0 from rfl, J_le (by omega) (by omega) (by omega) (by omega)]; exact h1, by omega⟩
theorem cI_J {α : Type} {a : Int} {n : Nat} (h1 : 0 ≤ a) (h2 : a < n) (h3 : n ≤ 1000000) (x y : α) : bT (okI Q0 (.inr (0, n)) (J a)) x y = x := bT_t (rng_J h1 h2 h3)
theorem cT_J {α : Type} {a : Int} {n : Nat} (h1 : 0 ≤ a) (h2 : a < n) (h3 : n ≤ 1000000) (x y : α) : bT (okI Q0 (.inr (10, n)) (J a)) x y = x := bT_t (rng_J h1 h2 h3)
theorem cB_J {α : Type} {a : Int} {n : Nat} (h1 : 0 ≤ a) (h2 : a < n) (h3 : n ≤ 1000000) (x y : α) : bT (okB Q0 (.inr (1, n)) (J a)) x y = x := bT_t (rng_J h1 h2 h3)
theorem cZ_J {α : Type} {a : Int} {n : Nat} (h1 : 0 ≤ a) (h2 : a < n) (h3 : n ≤ 1000000) (x y : α) : bT (okB Q0 (.inr (3, n)) (J a)) x y = x := bT_t (rng_J h1 h2 h3)
theorem cS_J {α : Type} {a : Int} {n : Nat} (h1 : 0 ≤ a) (h2 : a < n) (h3 : n ≤ 1000000) (x y : α) : bT (okB Q0 (.inr (11, n)) (J a)) x y = x := bT_t (rng_J h1 h2 h3)
theorem beq_rf (n : Nat) : Nat.beq n n = true := Nat.beq_refl n
theorem c1_J {α : Type} {a : Int} {t n : Nat} (h1 : 0 ≤ a) (h2 : a < n) (h3 : n ≤ 1000000) (x y : α) : bT (ok1 Q0 t (.inr (t, n)) (J a)) x y = x := by
  refine bT_t ?_
  show bT (Nat.beq t t) (Q0.2.1 (J a) n) false = true
  rw [beq_rf, rng_J h1 h2 h3]
  rfl
theorem cA_J {α : Type} {a : Int} {t n : Nat} (h0 : 4 ≤ t) (h9 : t ≤ 6) (h1 : 0 ≤ a) (h2 : a < n) (h3 : n ≤ 1000000) (x y : α) : bT (okA Q0 (.inr (t, n)) (J a)) x y = x := by
  refine bT_t ?_
  rcases (show t = 4 ∨ t = 5 ∨ t = 6 by omega) with rfl | rfl | rfl <;> exact rng_J h1 h2 h3
theorem cO_J {α : Type} {c : Nat} (x y : α) : bT (okO (.inl c) c) x y = x := bT_t (beq_rf c)
-- a truth value
theorem nz_bi {α : Type} (c : Prop) [Decidable c] (x y : α) : bT (Q0.1 0 (bi c) 0) x y = if c then y else x := by
  unfold bi
  split <;> rfl
theorem nr_bi {α : Type} (c : Prop) [Decidable c] (x y : α) : bT (Q0.2.2.2.1 1 (bi c)) x y = x := by
  unfold bi
  split <;> rfl
theorem nr_0 {α : Type} (x y : α) : bT (Q0.2.2.2.1 1 0) x y = x := rfl
theorem nr_1 {α : Type} (x y : α) : bT (Q0.2.2.2.1 1 1) x y = x := rfl
theorem nr_J0 {α : Type} (x y : α) : bT (Q0.2.2.2.1 1 (J 0)) x y = x := rfl
theorem nr_J1 {α : Type} (x y : α) : bT (Q0.2.2.2.1 1 (J 1)) x y = x := rfl
-- binders
theorem bX_e {α β : Type} (v : α) (f : α → β) : bX v f = f v := rfl
theorem bI_e {M : Type} (x : Int32) (m : M) (f : Int32 → M → Rs M) : bI (some (some (.int x), m)) f = f x m := rfl
theorem bL_e {M : Type} (x : Int64) (m : M) (f : Int64 → M → Rs M) : bL (some (some (.long x), m)) f = f x m := rfl
theorem bA_e {M : Type} (x : Nat) (m : M) (f : Nat → M → Rs M) : bA (some (some (.ref x), m)) f = f x m := rfl
theorem bV_e {M : Type} (m : M) (f : M → Rs M) : bV (some (none, m)) f = f m := rfl
theorem bO_e {M : Type} (q : Nat) (f : Nat → Rs M) : bO (some q) f = f q := rfl
theorem bS_e {M : Type} (t n : Nat) (f : Nat → Rs M) : bS (.inr (t, n)) f = f n := rfl
theorem bI_ite {M : Type} (c : Prop) [Decidable c] (r s : Rs M) (f : Int32 → M → Rs M) : bI (if c then r else s) f = if c then bI r f else bI s f := by split <;> rfl
theorem bV_ite {M : Type} (c : Prop) [Decidable c] (r s : Rs M) (f : M → Rs M) : bV (if c then r else s) f = if c then bV r f else bV s f := by split <;> rfl
-- cells written
theorem u2_at {α : Type} (f : Nat → Nat → α) (k i j : Nat) (v : α) : up2 f k i v k j = if j = i then v else f k j := by
  unfold up2
  rw [if_pos rfl]
theorem u2_ne {α : Type} {f : Nat → Nat → α} {k j : Nat} (i : Nat) (v : α) (h : j ≠ k) : up2 f k i v j = f j := up2_row h
/-- what a simp takes: binders, questions, arithmetic -/
theorem kk : (∀ {α β : Type} (v : α) (f : α → β), bX v f = f v) ∧ (∀ {M : Type} (x : Int32) (m : M) (f : Int32 → M → Rs M), bI (some (some (.int x), m)) f = f x m) ∧ (∀ {M : Type} (x : Int64) (m : M) (f : Int64 → M → Rs M), bL (some (some (.long x), m)) f = f x m) ∧ (∀ {M : Type} (x : Nat) (m : M) (f : Nat → M → Rs M), bA (some (some (.ref x), m)) f = f x m) ∧ (∀ {M : Type} (m : M) (f : M → Rs M), bV (some (none, m)) f = f m) ∧ (∀ {M : Type} (q : Nat) (f : Nat → Rs M), bO (some q) f = f q) ∧ (∀ {M : Type} (t n : Nat) (f : Nat → Rs M), bS (.inr (t, n)) f = f n) ∧ (∀ a b : Int, J a + J b = J (a + b)) ∧ (∀ a b : Int, J a - J b = J (a - b)) ∧ (∀ a b : Int, J a * J b = J (a * b)) ∧ (∀ a : Int, - J a = J (-a)) ∧ (∀ {α : Type} (c : Prop) [Decidable c] (x y : α), bT (Q0.1 0 (bi c) (J 0)) x y = if c then y else x) ∧ (∀ {α : Type} (c : Prop) [Decidable c] (x y : α), bT (Q0.2.2.2.1 1 (bi c)) x y = x) ∧ (∀ {α : Type} (x y : α), bT (Q0.2.2.2.1 1 (J 0)) x y = x) ∧ (∀ {α : Type} (x y : α), bT (Q0.2.2.2.1 1 (J 1)) x y = x) ∧ (∀ {α : Type} {c : Nat} (x y : α), bT (okO (.inl c) c) x y = x) := ⟨bX_e, bI_e, bL_e, bA_e, bV_e, bO_e, bS_e, J_add, J_sub, J_mul, J_neg, nz_bi, nr_bi, nr_0, nr_1, cO_J⟩
theorem lits : (0 : Int32) = J 0 ∧ (1 : Int32) = J 1 ∧ (2 : Int32) = J 2 ∧ (3 : Int32) = J 3 ∧ (4 : Int32) = J 4 ∧ (5 : Int32) = J 5 ∧ (6 : Int32) = J 6 ∧ (7 : Int32) = J 7 ∧ (8 : Int32) = J 8 ∧ (9 : Int32) = J 9 ∧ (10 : Int32) = J 10 ∧ (11 : Int32) = J 11 ∧ (12 : Int32) = J 12 ∧ (13 : Int32) = J 13 ∧ (14 : Int32) = J 14 ∧ (15 : Int32) = J 15 ∧ (16 : Int32) = J 16 ∧ (17 : Int32) = J 17 ∧ (18 : Int32) = J 18 ∧ (19 : Int32) = J 19 ∧ (20 : Int32) = J 20 ∧ (21 : Int32) = J 21 ∧ (22 : Int32) = J 22 ∧ (23 : Int32) = J 23 ∧ (24 : Int32) = J 24 ∧ (25 : Int32) = J 25 ∧ (26 : Int32) = J 26 ∧ (27 : Int32) = J 27 ∧ (28 : Int32) = J 28 ∧ (29 : Int32) = J 29 ∧ (30 : Int32) = J 30 ∧ (31 : Int32) = J 31 ∧ (32 : Int32) = J 32 ∧ (33 : Int32) = J 33 ∧ (34 : Int32) = J 34 ∧ (35 : Int32) = J 35 ∧ (36 : Int32) = J 36 ∧ (37 : Int32) = J 37 ∧ (38 : Int32) = J 38 ∧ (39 : Int32) = J 39 ∧ (40 : Int32) = J 40 ∧ (41 : Int32) = J 41 ∧ (42 : Int32) = J 42 ∧ (43 : Int32) = J 43 ∧ (44 : Int32) = J 44 ∧ (45 : Int32) = J 45 ∧ (46 : Int32) = J 46 ∧ (47 : Int32) = J 47 ∧ (48 : Int32) = J 48 ∧ (49 : Int32) = J 49 ∧ (50 : Int32) = J 50 ∧ (51 : Int32) = J 51 ∧ (52 : Int32) = J 52 ∧ (53 : Int32) = J 53 ∧ (54 : Int32) = J 54 ∧ (55 : Int32) = J 55 ∧ (56 : Int32) = J 56 ∧ (57 : Int32) = J 57 ∧ (58 : Int32) = J 58 ∧ (59 : Int32) = J 59 ∧ (60 : Int32) = J 60 ∧ (61 : Int32) = J 61 ∧ (62 : Int32) = J 62 ∧ (63 : Int32) = J 63 ∧ (64 : Int32) = J 64 ∧ (65 : Int32) = J 65 ∧ (66 : Int32) = J 66 ∧ (67 : Int32) = J 67 ∧ (68 : Int32) = J 68 ∧ (69 : Int32) = J 69 ∧ (70 : Int32) = J 70 ∧ (71 : Int32) = J 71 ∧ (72 : Int32) = J 72 ∧ (73 : Int32) = J 73 ∧ (74 : Int32) = J 74 ∧ (75 : Int32) = J 75 ∧ (76 : Int32) = J 76 ∧ (77 : Int32) = J 77 ∧ (78 : Int32) = J 78 ∧ (79 : Int32) = J 79 ∧ (80 : Int32) = J 80 ∧ (81 : Int32) = J 81 ∧ (82 : Int32) = J 82 ∧ (83 : Int32) = J 83 ∧ (84 : Int32) = J 84 ∧ (85 : Int32) = J 85 ∧ (86 : Int32) = J 86 ∧ (87 : Int32) = J 87 ∧ (88 : Int32) = J 88 ∧ (89 : Int32) = J 89 ∧ (90 : Int32) = J 90 ∧ (91 : Int32) = J 91 ∧ (92 : Int32) = J 92 ∧ (93 : Int32) = J 93 ∧ (94 : Int32) = J 94 ∧ (95 : Int32) = J 95 ∧ (96 : Int32) = J 96 ∧ (97 : Int32) = J 97 ∧ (98 : Int32) = J 98 ∧ (99 : Int32) = J 99 ∧ (100 : Int32) = J 100 ∧ (101 : Int32) = J 101 ∧ (102 : Int32) = J 102 ∧ (103 : Int32) = J 103 ∧ (104 : Int32) = J 104 ∧ (105 : Int32) = J 105 ∧ (106 : Int32) = J 106 ∧ (107 : Int32) = J 107 ∧ (108 : Int32) = J 108 ∧ (109 : Int32) = J 109 ∧ (110 : Int32) = J 110 ∧ (111 : Int32) = J 111 ∧ (112 : Int32) = J 112 ∧ (113 : Int32) = J 113 ∧ (114 : Int32) = J 114 ∧ (115 : Int32) = J 115 ∧ (116 : Int32) = J 116 ∧ (117 : Int32) = J 117 ∧ (118 : Int32) = J 118 ∧ (119 : Int32) = J 119 ∧ (120 : Int32) = J 120 ∧ (121 : Int32) = J 121 ∧ (122 : Int32) = J 122 ∧ (123 : Int32) = J 123 ∧ (124 : Int32) = J 124 ∧ (125 : Int32) = J 125 ∧ (126 : Int32) = J 126 ∧ (127 : Int32) = J 127 ∧ (128 : Int32) = J 128 ∧ (129 : Int32) = J 129 ∧ (255 : Int32) = J 255 ∧ (300 : Int32) = J 300 ∧ (330 : Int32) = J 330 ∧ (1000 : Int32) = J 1000 ∧ (9999 : Int32) = J 9999 ∧ (10001 : Int32) = J 10001 ∧ (252645135 : Int32) = J 252645135 ∧ (858993459 : Int32) = J 858993459 ∧ (2147483647 : Int32) = J 2147483647 := ⟨rfl, rfl, rfl, rfl, rfl, rfl, rfl, rfl, rfl, rfl, rfl, rfl, rfl, rfl, rfl, rfl, rfl, rfl, rfl, rfl, rfl, rfl, rfl, rfl, rfl, rfl, rfl, rfl, rfl, rfl, rfl, rfl, rfl, rfl, rfl, rfl, rfl, rfl, rfl, rfl, rfl, rfl, rfl, rfl, rfl, rfl, rfl, rfl, rfl, rfl, rfl, rfl, rfl, rfl, rfl, rfl, rfl, rfl, rfl, rfl, rfl, rfl, rfl, rfl, rfl, rfl, rfl, rfl, rfl, rfl, rfl, rfl, rfl, rfl, rfl, rfl, rfl, rfl, rfl, rfl, rfl, rfl, rfl, rfl, rfl, rfl, rfl, rfl, rfl, rfl, rfl, rfl, rfl, rfl, rfl, rfl, rfl, rfl, rfl, rfl, rfl, rfl, rfl, rfl, rfl, rfl, rfl, rfl, rfl, rfl, rfl, rfl, rfl, rfl, rfl, rfl, rfl, rfl, rfl, rfl, rfl, rfl, rfl, rfl, rfl, rfl, rfl, rfl, rfl, rfl, rfl, rfl, rfl, rfl, rfl, rfl, rfl, rfl, rfl⟩
