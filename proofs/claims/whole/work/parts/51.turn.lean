/-! IN TIME, in the class -/
def pop (b : Int) : Int := sumF (bitP b) 0 6
def bcE (a0 : Int32) : Int32 := ((((((((a0 - (((a0.toUInt32 >>> (Int32.toUInt32 1 &&& Int32.toUInt32 31)).toInt32) &&& 1431655765)) &&& 858993459) + ((((a0 - (((a0.toUInt32 >>> (Int32.toUInt32 1 &&& Int32.toUInt32 31)).toInt32) &&& 1431655765)).toUInt32 >>> (Int32.toUInt32 2 &&& Int32.toUInt32 31)).toInt32) &&& 858993459)) + (((((a0 - (((a0.toUInt32 >>> (Int32.toUInt32 1 &&& Int32.toUInt32 31)).toInt32) &&& 1431655765)) &&& 858993459) + ((((a0 - (((a0.toUInt32 >>> (Int32.toUInt32 1 &&& Int32.toUInt32 31)).toInt32) &&& 1431655765)).toUInt32 >>> (Int32.toUInt32 2 &&& Int32.toUInt32 31)).toInt32) &&& 858993459)).toUInt32 >>> (Int32.toUInt32 4 &&& Int32.toUInt32 31)).toInt32)) &&& 252645135) + (((((((a0 - (((a0.toUInt32 >>> (Int32.toUInt32 1 &&& Int32.toUInt32 31)).toInt32) &&& 1431655765)) &&& 858993459) + ((((a0 - (((a0.toUInt32 >>> (Int32.toUInt32 1 &&& Int32.toUInt32 31)).toInt32) &&& 1431655765)).toUInt32 >>> (Int32.toUInt32 2 &&& Int32.toUInt32 31)).toInt32) &&& 858993459)) + (((((a0 - (((a0.toUInt32 >>> (Int32.toUInt32 1 &&& Int32.toUInt32 31)).toInt32) &&& 1431655765)) &&& 858993459) + ((((a0 - (((a0.toUInt32 >>> (Int32.toUInt32 1 &&& Int32.toUInt32 31)).toInt32) &&& 1431655765)).toUInt32 >>> (Int32.toUInt32 2 &&& Int32.toUInt32 31)).toInt32) &&& 858993459)).toUInt32 >>> (Int32.toUInt32 4 &&& Int32.toUInt32 31)).toInt32)) &&& 252645135).toUInt32 >>> (Int32.toUInt32 8 &&& Int32.toUInt32 31)).toInt32)) + ((((((((a0 - (((a0.toUInt32 >>> (Int32.toUInt32 1 &&& Int32.toUInt32 31)).toInt32) &&& 1431655765)) &&& 858993459) + ((((a0 - (((a0.toUInt32 >>> (Int32.toUInt32 1 &&& Int32.toUInt32 31)).toInt32) &&& 1431655765)).toUInt32 >>> (Int32.toUInt32 2 &&& Int32.toUInt32 31)).toInt32) &&& 858993459)) + (((((a0 - (((a0.toUInt32 >>> (Int32.toUInt32 1 &&& Int32.toUInt32 31)).toInt32) &&& 1431655765)) &&& 858993459) + ((((a0 - (((a0.toUInt32 >>> (Int32.toUInt32 1 &&& Int32.toUInt32 31)).toInt32) &&& 1431655765)).toUInt32 >>> (Int32.toUInt32 2 &&& Int32.toUInt32 31)).toInt32) &&& 858993459)).toUInt32 >>> (Int32.toUInt32 4 &&& Int32.toUInt32 31)).toInt32)) &&& 252645135) + (((((((a0 - (((a0.toUInt32 >>> (Int32.toUInt32 1 &&& Int32.toUInt32 31)).toInt32) &&& 1431655765)) &&& 858993459) + ((((a0 - (((a0.toUInt32 >>> (Int32.toUInt32 1 &&& Int32.toUInt32 31)).toInt32) &&& 1431655765)).toUInt32 >>> (Int32.toUInt32 2 &&& Int32.toUInt32 31)).toInt32) &&& 858993459)) + (((((a0 - (((a0.toUInt32 >>> (Int32.toUInt32 1 &&& Int32.toUInt32 31)).toInt32) &&& 1431655765)) &&& 858993459) + ((((a0 - (((a0.toUInt32 >>> (Int32.toUInt32 1 &&& Int32.toUInt32 31)).toInt32) &&& 1431655765)).toUInt32 >>> (Int32.toUInt32 2 &&& Int32.toUInt32 31)).toInt32) &&& 858993459)).toUInt32 >>> (Int32.toUInt32 4 &&& Int32.toUInt32 31)).toInt32)) &&& 252645135).toUInt32 >>> (Int32.toUInt32 8 &&& Int32.toUInt32 31)).toInt32)).toUInt32 >>> (Int32.toUInt32 16 &&& Int32.toUInt32 31)).toInt32)) &&& 63)
theorem bc_ok : (List.range 64).all (fun n => eqI (bcE (J n)) (J (pop n))) = true := by decide +kernel
theorem S_209 {m : SM} {d : Nat} {b : Int} (h0 : 0 ≤ b) (h1 : b < 64) : cB Q0 (d + 1) 209 [.int (J b)] m = some (some (.int (J (pop b))), m) := by
  have h := List.all_eq_true.mp bc_ok b.toNat (List.mem_range.mpr (by omega))
  rw [Int.toNat_of_nonneg h0] at h
  have h3 : bcE (J b) = J (pop b) := eqI_spec h
  rw [cB_eq, ← h3]
  exact T_209_0 Q0 (cB Q0 d) (J b) m
theorem p2_ok : (List.range 7).all (fun n => eqI (J 1 <<< (J n &&& J 31)) (J ((2 ^ n : Nat) : Int))) = true := by decide +kernel
def p2 (n : Int) : Int := ((2 ^ n.toNat : Nat) : Int)
theorem p2_at {n : Int} (h0 : 0 ≤ n) (h1 : n ≤ 6) : J 1 <<< (J n &&& J 31) = J (p2 n) := by
  have h := List.all_eq_true.mp p2_ok n.toNat (List.mem_range.mpr (by omega))
  rw [Int.toNat_of_nonneg h0] at h
  exact eqI_spec h
theorem p2_in {n : Int} (h0 : 0 ≤ n) (h1 : n ≤ 6) : 1 ≤ p2 n ∧ p2 n ≤ 64 := by
  rcases (show n = 0 ∨ n = 1 ∨ n = 2 ∨ n = 3 ∨ n = 4 ∨ n = 5 ∨ n = 6 by omega) with rfl | rfl | rfl | rfl | rfl | rfl | rfl <;> decide
theorem pop_in (b : Int) : 0 ≤ pop b ∧ pop b ≤ 6 := by
  have := sumF_in (f := bitP b) (B := 1) 6 0 fun j _ _ => by
    have := bitP_in b j
    omega
  unfold pop
  omega
def uptF (du nd : Int → Int) (b p q : Int) : Int := if bitP b q = 1 ∧ (du q < du p ∨ (du q = du p ∧ q ≤ p)) then nd q else 0
def areF (n : Int) (du nd : Int → Int) (b : Int) : Nat → Int → Bool
  | 0, _ => true
  | N + 1, p => if bitP b p = 1 then (if sumF (uptF du nd b p) 0 n.toNat ≤ du p then areF n du nd b N (p + 1) else false) else areF n du nd b N (p + 1)
theorem areF_s {n : Int} {du nd : Int → Int} {b : Int} (N : Nat) (p : Int) : areF n du nd b (N + 1) p = if bitP b p = 1 then (if sumF (uptF du nd b p) 0 n.toNat ≤ du p then areF n du nd b N (p + 1) else false) else areF n du nd b N (p + 1) := rfl
def bestF (ok : Int → Bool) : Nat → Int → Int → Int
  | 0, _, best => best
  | N + 1, b, best => bestF ok N (b + 1) (if pop b ≤ pop best then best else if ok b = true then b else best)
theorem bestF_s {ok : Int → Bool} (N : Nat) (b best : Int) : bestF ok (N + 1) b best = bestF ok N (b + 1) (if pop b ≤ pop best then best else if ok b = true then b else best) := rfl
def needF (A : Shp) (pace p : Int) : Int := (8 - hairs (A.2.1 p) + pace - 1).tdiv pace
def dueF (A : Shp) (p : Int) : Int := A.2.1 p 0 3
def inF (A : Shp) (pace : Int) : Int := bestF (fun b => areF (A.1 0 0) (dueF A) (needF A pace) b (A.1 0 0).toNat 0) (p2 (A.1 0 0) - 1).toNat 1 0
theorem needF_in (A : Shp) {pace : Int} (h1 : 1 ≤ pace) (h2 : pace ≤ 9) (p : Int) : 0 ≤ needF A pace p ∧ needF A pace p ≤ 16 := by
  have h := hairs_in (A.2.1 p)
  unfold needF
  rw [Int.tdiv_eq_ediv_of_nonneg (by omega)]
  exact ⟨Int.ediv_nonneg (by omega) (by omega), Int.le_trans (Int.ediv_le_self _ (by omega)) (by omega)⟩
section
variable {m : SM} {d : Nat} {A : Shp}
theorem L_101 (hR : ShR 1 A m) (hI : ShI A) {nd : Int → Int} (hn : ∀ j, 0 ≤ j → j < A.1 0 0 → m.1 140 j.toNat = J (nd j)) (hb : ∀ j, 0 ≤ nd j ∧ nd j ≤ 16) {b p : Int} (b0 : 0 ≤ b) (b1 : b < 64) (p0 : 0 ≤ p) (p1 : p < A.1 0 0) {cf : Nat → List Value → SM → Rs SM} : ∀ (N : Nat) (q c : Int), 0 ≤ q → q + N = A.1 0 0 → 0 ≤ c → c ≤ 16 * q → rB Q0 101 cf 19 [some (.ref 0), some (.int (J p)), some (.int (J b)), some (.int (J (dueF A p))), some (.int (J c)), some (.int (J q))] m = some (some (.int (J (c + sumF (uptF (dueF A) nd b p) q N))), m) := by
  have i0 := hI.1.1
  have d0 := (hI.2.2.1 p p0 p1).1.2.2.2.1
  intro N
  induction N with
  | zero =>
    intro q c h0 h1 h2 h3
    rw [T_101_19]
    simp (disch := omega) only [kk, lits, q0_J, q1_J, q2_J, cI_J, cT_J, cB_J, cZ_J, cS_J, c1_J, cA_J, J_clamp, u2_at, reduceIte, hR.1.1]
    rw [if_pos (by omega)]
    simp [sumF]
  | succ N ih =>
    intro q c h0 h1 h2 h3
    have g : GRt 5 q.toNat = some (hd 1 q) := hd_g (s := 1) (Or.inl rfl) h0 (by omega)
    have hF := (hd_F (s := 1) (Or.inl rfl) h0 (show q < 6 by omega)).1.1
    have hd3 : m.1 (hd 1 q) 3 = J (dueF A q) := (hR.2.2.1 q h0 (by omega)).1.2.2.2.1
    have d1 := (hI.2.2.1 q h0 (by omega)).1.2.2.2.1
    have hbt := (pbits_at b0 b1 h0 (show q < 6 by omega)).1
    have hbi := bitP_in b q
    have hnd := hb q
    have e0 := ih (q + 1) c (by omega) (by omega) (by omega) (by omega)
    have e1 := ih (q + 1) (c + nd q) (by omega) (by omega) (by omega) (by omega)
    rw [T_101_19]
    simp only [lits, hbt]
    change 0 ≤ dueF A p ∧ dueF A p ≤ 30 at d0
    change 0 ≤ dueF A q ∧ dueF A q ≤ 30 at d1
    have w : ((1 : Int) = 0) = False := by simp
    simp (disch := omega) only [kk, lits, q0_J, q1_J, q2_J, cI_J, cT_J, cB_J, cZ_J, cS_J, c1_J, cA_J, J_clamp, u2_at, reduceIte, hR.1.1, g, hF, cO_J, hd3, hn q h0 (by omega), e0, e1, w, if_false]
    rw [if_neg (by omega)]
    have es : sumF (uptF (dueF A) nd b p) q (N + 1) = uptF (dueF A) nd b p q + sumF (uptF (dueF A) nd b p) (q + 1) N := rfl
    rw [es]
    have y1 : (bitP b q = 1 ∧ (dueF A q < dueF A p ∨ (dueF A q = dueF A p ∧ q ≤ p))) → uptF (dueF A) nd b p q = nd q := fun z => if_pos z
    have y0 : ¬ (bitP b q = 1 ∧ (dueF A q < dueF A p ∨ (dueF A q = dueF A p ∧ q ≤ p))) → uptF (dueF A) nd b p q = 0 := fun z => if_neg z
    by_cases c1 : bitP b q = 1
    · simp only [c1, if_true]
      by_cases c2 : dueF A p < dueF A q
      · rw [if_pos c2, y0 (by omega), Int.zero_add]
      · by_cases c3 : dueF A q = dueF A p
        · by_cases c4 : q ≤ p
          · rw [if_neg c2, if_pos c3, if_pos c4, y1 (by omega), Int.add_assoc]
          · rw [if_neg c2, if_pos c3, if_neg c4, y0 (by omega), Int.zero_add]
        · rw [if_neg c2, if_neg c3, y1 (by omega), Int.add_assoc]
    · rw [y0 (by omega), Int.zero_add]
      simp only [c1, if_false, ite_self]
theorem S_101 (hR : ShR 1 A m) (hI : ShI A) {nd : Int → Int} (hn : ∀ j, 0 ≤ j → j < A.1 0 0 → m.1 140 j.toNat = J (nd j)) (hb : ∀ j, 0 ≤ nd j ∧ nd j ≤ 16) {b p : Int} (b0 : 0 ≤ b) (b1 : b < 64) (p0 : 0 ≤ p) (p1 : p < A.1 0 0) : cB Q0 (d + 1) 101 [.ref 0, .int (J p), .int (J b)] m = some (some (.int (J (sumF (uptF (dueF A) nd b p) 0 (A.1 0 0).toNat))), m) := by
  have i0 := hI.1.1
  have g : GRt 5 p.toNat = some (hd 1 p) := hd_g (s := 1) (Or.inl rfl) p0 (by omega)
  have hF := (hd_F (s := 1) (Or.inl rfl) p0 (show p < 6 by omega)).1.1
  have hd3 : m.1 (hd 1 p) 3 = J (dueF A p) := (hR.2.2.1 p p0 p1).1.2.2.2.1
  have e := L_101 (cf := cB Q0 d) hR hI hn hb b0 b1 p0 p1 (A.1 0 0).toNat 0 0 (by omega) (by omega) (by omega) (by omega)
  rw [cB_eq]
  show rB Q0 101 (cB Q0 d) 0 [some (.ref 0), some (.int (J p)), some (.int (J b))] m = _
  rw [T_101_0]
  simp (disch := omega) only [kk, lits, q0_J, q1_J, q2_J, cI_J, cT_J, cB_J, cZ_J, cS_J, c1_J, cA_J, J_clamp, u2_at, reduceIte, g, hF, cO_J, hd3, e]
  rw [Int.zero_add]
theorem upt_in {du nd : Int → Int} (hb : ∀ j, 0 ≤ nd j ∧ nd j ≤ 16) (b p : Int) (N : Nat) (hN : N ≤ 6) : 0 ≤ sumF (uptF du nd b p) 0 N ∧ sumF (uptF du nd b p) 0 N ≤ 96 := by
  have := sumF_in (f := uptF du nd b p) (B := 16) N 0 fun j _ _ => by
    have := hb j
    unfold uptF
    split <;> omega
  omega
theorem S_100 (hR : ShR 1 A m) (hI : ShI A) {nd : Int → Int} (hn : ∀ j, 0 ≤ j → j < A.1 0 0 → m.1 140 j.toNat = J (nd j)) (hb : ∀ j, 0 ≤ nd j ∧ nd j ≤ 16) {b : Int} (b0 : 0 ≤ b) (b1 : b < 64) : cB Q0 (d + 2) 100 [.ref 0, .int (J b)] m = some (some (.int (bi (areF (A.1 0 0) (dueF A) nd b (A.1 0 0).toNat 0 = true))), m) := by
  have i0 := hI.1.1
  have L : ∀ (N : Nat) (p : Int), 0 ≤ p → p + N = A.1 0 0 → rB Q0 100 (cB Q0 (d + 1)) 2 [some (.ref 0), some (.int (J b)), some (.int (J p))] m = some (some (.int (bi (areF (A.1 0 0) (dueF A) nd b N p = true))), m) := by
    intro N
    induction N with
    | zero =>
      intro p h0 h1
      rw [T_100_2]
      simp (disch := omega) only [kk, lits, q0_J, q1_J, q2_J, cI_J, cT_J, cB_J, cZ_J, cS_J, c1_J, cA_J, J_clamp, u2_at, reduceIte, hR.1.1]
      rw [if_pos (by omega)]
      rfl
    | succ N ih =>
      intro p h0 h1
      have g : GRt 5 p.toNat = some (hd 1 p) := hd_g (s := 1) (Or.inl rfl) h0 (by omega)
      have hF := (hd_F (s := 1) (Or.inl rfl) h0 (show p < 6 by omega)).1.1
      have hd3 : m.1 (hd 1 p) 3 = J (dueF A p) := (hR.2.2.1 p h0 (by omega)).1.2.2.2.1
      have d1 := (hI.2.2.1 p h0 (by omega)).1.2.2.2.1
      change 0 ≤ dueF A p ∧ dueF A p ≤ 30 at d1
      have hbt := (pbits_at b0 b1 h0 (show p < 6 by omega)).1
      have hbi := bitP_in b p
      have hu := upt_in (du := dueF A) hb b p (A.1 0 0).toNat (by omega)
      have e1 := S_101 (d := d) hR hI hn hb b0 b1 h0 (show p < A.1 0 0 by omega)
      rw [T_100_2]
      simp only [lits, hbt]
      simp (disch := omega) only [kk, lits, q0_J, q1_J, q2_J, cI_J, cT_J, cB_J, cZ_J, cS_J, c1_J, cA_J, J_clamp, u2_at, reduceIte, hR.1.1, g, hF, cO_J, hd3, e1, ih (p + 1) (by omega) (by omega)]
      rw [if_neg (by omega), areF_s]
      by_cases c1 : bitP b p = 1
      · rw [if_pos c1, if_pos c1]
        by_cases c2 : sumF (uptF (dueF A) nd b p) 0 (A.1 0 0).toNat ≤ dueF A p
        · rw [if_pos c2, if_pos c2]
        · rw [if_neg c2, if_neg c2]
          rfl
      · rw [if_neg c1, if_neg c1]
  rw [cB_eq]
  show rB Q0 100 (cB Q0 (d + 1)) 0 [some (.ref 0), some (.int (J b))] m = _
  rw [T_100_0]
  exact L _ 0 (by omega) (by omega)
end
