/-! LOWEST TERMS, on both sides -/
def gcdZ (a b : Int) : Int := ((Nat.gcd b.toNat a.toNat : Nat) : Int)
theorem gcdZ_0 {a : Int} (ha : 0 ≤ a) : gcdZ a 0 = a := by
  unfold gcdZ
  rw [show (0 : Int).toNat = 0 from rfl, Nat.gcd_zero_left]
  omega
theorem gcdZ_s {a b : Int} (ha : 0 ≤ a) (hb : 0 < b) : gcdZ a b = gcdZ b (a % b) := by
  unfold gcdZ
  rw [Nat.gcd_rec, show (a % b).toNat = a.toNat % b.toNat from Int.toNat_emod ha (by omega)]
theorem gcdZ_in {a b : Int} (hb : 0 < b) : 1 ≤ gcdZ a b ∧ gcdZ a b ≤ b := by
  unfold gcdZ
  have h1 := Nat.gcd_pos_of_pos_left a.toNat (show 0 < b.toNat by omega)
  have h2 := Nat.gcd_le_left a.toNat (show 0 < b.toNat by omega)
  omega
theorem tmod_b {a b : Int} (ha : 0 ≤ a) : a - a.tdiv b * b = a % b := by
  rw [Int.tdiv_eq_ediv_of_nonneg ha, Int.mul_comm]
  have := Int.emod_add_mul_ediv a b
  omega
def lowZ (a b k : Int) : Int64 := Int32.toInt64 (J ((if k = 0 then a else b).tdiv (gcdZ a b)))
section
variable {m : SM} {d : Nat} {cf : Nat → List Value → SM → Rs SM}
theorem L_107 : ∀ (N : Nat) (a b c : Int), 0 ≤ a → a ≤ 100000000 → 0 ≤ b → b ≤ N → b ≤ 1000 → 0 ≤ c → c + N ≤ 999 → rB Q0 107 cf 7 [none, none, some (.int (J a)), some (.int (J b)), some (.int (J c))] m = some (some (.int (J (gcdZ a b))), m) := by
  intro N
  induction N with
  | zero =>
    intro a b c h0 h1 h2 h3 h4 h5 h6
    obtain rfl : b = 0 := by omega
    rw [T_107_7]
    simp (disch := omega) only [kk, lits, q0_J, q1_J, q2_J, cI_J, cT_J, cB_J, cZ_J, cS_J, c1_J, cA_J, J_clamp, u2_at, reduceIte]
    rw [if_neg (by omega), gcdZ_0 h0]
  | succ N ih =>
    intro a b c h0 h1 h2 h3 h4 h5 h6
    rw [T_107_7]
    by_cases hb : b = 0
    · subst hb
      simp (disch := omega) only [kk, lits, q0_J, q1_J, q2_J, cI_J, cT_J, cB_J, cZ_J, cS_J, c1_J, cA_J, J_clamp, u2_at, reduceIte]
      rw [if_neg (by omega), gcdZ_0 h0]
    · have e1 : J a / J b = J (a.tdiv b) := J_div (by omega) (by omega) (by omega) (by omega)
      have e2 := Int.emod_nonneg a hb
      have e3 := Int.emod_lt_of_pos a (show 0 < b by omega)
      simp (disch := omega) only [kk, lits, q0_J, q1_J, q2_J, cI_J, cT_J, cB_J, cZ_J, cS_J, c1_J, cA_J, J_clamp, u2_at, reduceIte, e1, tmod_b h0]
      rw [if_neg (by omega), if_neg hb, if_neg hb, ih b (a % b) (c + 1) (by omega) (by omega) (by omega) (by omega) (by omega) (by omega) (by omega), ← gcdZ_s h0 (by omega)]
theorem S_107 {a b : Int} (h0 : 0 ≤ a) (h1 : a ≤ 100000000) (h2 : 0 ≤ b) (h3 : b ≤ 900) : cB Q0 (d + 1) 107 [.int (J a), .int (J b)] m = some (some (.int (J (gcdZ a b))), m) := by
  have e := L_107 (m := m) (cf := cB Q0 d) b.toNat a b 0 h0 h1 h2 (by omega) (by omega) (by omega) (by omega)
  rw [cB_eq]
  show rB Q0 107 (cB Q0 d) 0 [some (.int (J a)), some (.int (J b))] m = _
  rw [T_107_0]
  exact e
theorem S_106 {a b k : Int} (h0 : 0 ≤ a) (h1 : a ≤ 100000000) (h2 : 0 < b) (h3 : b ≤ 900) (hk : -2147483648 ≤ k ∧ k ≤ 2147483647) : cB Q0 (d + 2) 106 [.int (J a), .int (J b), .int (J k)] m = some (some (.long (lowZ a b k)), m) := by
  have hg := gcdZ_in (a := a) h2
  have e1 := S_107 (m := m) (d := d) h0 h1 (show 0 ≤ b by omega) h3
  have e2 := S_211 (m := m) (d := d) (x := 1) (y := gcdZ a b) (by omega) (by omega) (by omega) (by omega)
  have e3 : (if 1 < gcdZ a b then gcdZ a b else 1) = gcdZ a b := by
    by_cases c : 1 < gcdZ a b
    · rw [if_pos c]
    · rw [if_neg c]; omega
  rw [e3] at e2
  have d1 : J a / J (gcdZ a b) = J (a.tdiv (gcdZ a b)) := J_div (by omega) (by omega) (by omega) (by omega)
  have d2 : J b / J (gcdZ a b) = J (b.tdiv (gcdZ a b)) := J_div (by omega) (by omega) (by omega) (by omega)
  rw [cB_eq]
  show rB Q0 106 (cB Q0 (d + 1)) 0 [some (.int (J a)), some (.int (J b)), some (.int (J k))] m = _
  rw [T_106_0]
  simp only [lits]
  simp (disch := omega) only [kk, lits, q0_J, q1_J, q2_J, cI_J, cT_J, cB_J, cZ_J, cS_J, c1_J, cA_J, J_clamp, u2_at, reduceIte, e1, e2, d1, d2]
  unfold lowZ
  by_cases c : k = 0
  · rw [if_pos c, if_neg (by omega), if_pos c]
  · rw [if_neg c, if_neg (by omega), if_neg c]
theorem L_176 : ∀ (N : Nat) (a b : Int), 0 ≤ a → a ≤ 100000000 → 0 ≤ b → b ≤ N → b ≤ 1000 → rB Q0 176 cf 5 [none, none, none, some (.int (J a)), some (.int (J b))] m = some (some (.int (J (gcdZ a b))), m) := by
  intro N
  induction N with
  | zero =>
    intro a b h0 h1 h2 h3 h4
    obtain rfl : b = 0 := by omega
    rw [T_176_5]
    simp (disch := omega) only [kk, lits, q0_J, q1_J, q2_J, cI_J, cT_J, cB_J, cZ_J, cS_J, c1_J, cA_J, J_clamp, u2_at, reduceIte]
    rw [gcdZ_0 h0]
  | succ N ih =>
    intro a b h0 h1 h2 h3 h4
    rw [T_176_5]
    by_cases hb : b = 0
    · subst hb
      simp (disch := omega) only [kk, lits, q0_J, q1_J, q2_J, cI_J, cT_J, cB_J, cZ_J, cS_J, c1_J, cA_J, J_clamp, u2_at, reduceIte]
      rw [gcdZ_0 h0]
    · have e1 : J a / J b = J (a.tdiv b) := J_div (by omega) (by omega) (by omega) (by omega)
      have e2 := Int.emod_nonneg a hb
      have e3 := Int.emod_lt_of_pos a (show 0 < b by omega)
      simp (disch := omega) only [kk, lits, q0_J, q1_J, q2_J, cI_J, cT_J, cB_J, cZ_J, cS_J, c1_J, cA_J, J_clamp, u2_at, reduceIte, e1, tmod_b h0]
      rw [if_neg hb, if_neg hb, ih b (a % b) (by omega) (by omega) (by omega) (by omega) (by omega), ← gcdZ_s h0 (by omega)]
theorem S_176 {a b : Int} (h0 : 0 ≤ a) (h1 : a ≤ 100000000) (h2 : 0 ≤ b) (h3 : b ≤ 900) : cB Q0 (d + 1) 176 [.ref 177, .int (J a), .int (J b)] m = some (some (.int (J (gcdZ a b))), m) := by
  have e := L_176 (m := m) (cf := cB Q0 d) b.toNat a b h0 h1 h2 (by omega) (by omega)
  rw [cB_eq]
  show rB Q0 176 (cB Q0 d) 0 [some (.ref 177), some (.int (J a)), some (.int (J b))] m = _
  rw [T_176_0]
  exact e
theorem S_177 {a b k : Int} (h0 : 0 ≤ a) (h1 : a ≤ 100000000) (h2 : 0 < b) (h3 : b ≤ 900) (hk : -2147483648 ≤ k ∧ k ≤ 2147483647) : cB Q0 (d + 2) 177 [.ref 177, .int (J a), .int (J b), .int (J k)] m = some (some (.long (lowZ a b k)), m) := by
  have hg := gcdZ_in (a := a) h2
  have e1 := S_176 (m := m) (d := d) h0 h1 (show 0 ≤ b by omega) h3
  have d1 : J a / J (gcdZ a b) = J (a.tdiv (gcdZ a b)) := J_div (by omega) (by omega) (by omega) (by omega)
  have d2 : J b / J (gcdZ a b) = J (b.tdiv (gcdZ a b)) := J_div (by omega) (by omega) (by omega) (by omega)
  rw [cB_eq]
  show rB Q0 177 (cB Q0 (d + 1)) 0 [some (.ref 177), some (.int (J a)), some (.int (J b)), some (.int (J k))] m = _
  rw [T_177_0]
  simp only [lits]
  simp (disch := omega) only [kk, lits, q0_J, q1_J, q2_J, cI_J, cT_J, cB_J, cZ_J, cS_J, c1_J, cA_J, J_clamp, u2_at, reduceIte, e1, d1, d2]
  unfold lowZ
  by_cases c : k = 0
  · rw [if_pos c, if_neg (by omega), if_pos c]
  · rw [if_neg c, if_neg (by omega), if_neg c]
end
