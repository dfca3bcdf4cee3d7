/-! THEATRES of the class: what they warm -/
def andE (x : Int) : Int := x / 4 * 2 + (if x % 4 = 3 then 1 else 0)
def orE (x : Int) : Int := x / 4 * 2 + (if x % 4 = 0 then 0 else 1)
def notE (x : Int) : Int := if x % 2 = 0 then x + 1 else x - 1
theorem bits_ok : (List.range 4096).all (fun n => eqI (((J n >>> (J 2 &&& J 31)) <<< (J 1 &&& J 31)) ||| (((J n >>> (J 1 &&& J 31)) &&& J n) &&& J 1)) (J (andE n)) && (eqI (((J n >>> (J 2 &&& J 31)) <<< (J 1 &&& J 31)) ||| (((J n >>> (J 1 &&& J 31)) ||| J n) &&& J 1)) (J (orE n)) && (eqI (J n ^^^ J 1) (J (notE n)) && (eqI (J n &&& J 1) (J (n % 2)) && (eqI ((J n <<< (J 1 &&& J 31)) ||| J 0) (J (2 * n)) && eqI ((J n <<< (J 1 &&& J 31)) ||| J 1) (J (2 * n + 1))))))) = true := by decide +kernel
theorem bits_at {x : Int} (h0 : 0 ≤ x) (h1 : x < 4096) : ((J x >>> (J 2 &&& J 31)) <<< (J 1 &&& J 31)) ||| (((J x >>> (J 1 &&& J 31)) &&& J x) &&& J 1) = J (andE x) ∧ ((J x >>> (J 2 &&& J 31)) <<< (J 1 &&& J 31)) ||| (((J x >>> (J 1 &&& J 31)) ||| J x) &&& J 1) = J (orE x) ∧ J x ^^^ J 1 = J (notE x) ∧ J x &&& J 1 = J (x % 2) ∧ (J x <<< (J 1 &&& J 31)) ||| J 0 = J (2 * x) ∧ (J x <<< (J 1 &&& J 31)) ||| J 1 = J (2 * x + 1) := by
  have h := List.all_eq_true.mp bits_ok x.toNat (List.mem_range.mpr (by omega))
  simp only [Bool.and_eq_true] at h
  rw [Int.toNat_of_nonneg h0] at h
  obtain ⟨a, b, c, d, e, f⟩ := h
  exact ⟨eqI_spec a, eqI_spec b, eqI_spec c, eqI_spec d, eqI_spec e, eqI_spec f⟩
def tst (lt : Int → Int) (t : Int) : Prop := if t / 100 % 3 = 0 then lt (t / 300) < t % 100 else if t / 100 % 3 = 1 then lt (t / 300) = t % 100 else t % 100 < lt (t / 300)
def tstB (lt : Int → Int) (t : Int) : Bool := if t / 100 % 3 = 0 then decide (lt (t / 300) < t % 100) else if t / 100 % 3 = 1 then decide (lt (t / 300) = t % 100) else decide (t % 100 < lt (t / 300))
def LetR (lt : Int → Int) (m : SM) : Prop := ∀ j : Int, 0 ≤ j → j < 6 → m.1 137 j.toNat = J (lt j)
section
variable {q : Nat} {m : SM} {d : Nat} {lt : Int → Int}
theorem S_48 (hL : LetR lt m) (hb : ∀ j : Int, 0 ≤ j → j < 6 → -1000000 ≤ lt j ∧ lt j ≤ 1000000) {t : Int} (h0 : 0 ≤ t) (h1 : t < 1800) : cB Q0 (d + 1) 48 [.ref q, .int (J t), .ref 137] m = some (some (.int (bi (tstB lt t = true))), m) := by
  have e1 : t.tdiv 300 = t / 300 := Int.tdiv_eq_ediv_of_nonneg h0
  have e2 : t.tdiv 100 = t / 100 := Int.tdiv_eq_ediv_of_nonneg h0
  have e3 : (t / 100).tdiv 3 = t / 100 / 3 := Int.tdiv_eq_ediv_of_nonneg (by omega)
  have e4 := hL (t / 300) (by omega) (by omega)
  have e5 := hb (t / 300) (by omega) (by omega)
  have e6 : Int32.ofNat 6 = J 6 := rfl
  rw [cB_eq]
  show rB Q0 48 (cB Q0 d) 0 [some (.ref q), some (.int (J t)), some (.ref 137)] m = _
  rw [T_48_0]
  have k1 : (t / 100 - t / 100 / 3 * 3) = t / 100 % 3 := by omega
  have k2 : (t - t / 100 * 100) = t % 100 := by omega
  simp (disch := omega) only [kk, lits, q0_J, q1_J, q2_J, cI_J, cT_J, cB_J, cZ_J, cS_J, c1_J, cA_J, J_clamp, u2_at, reduceIte, J_div, e1, e2, e3, e4, e6, k1, k2]
  rw [if_neg (by omega), if_neg (by omega), if_pos (by omega), if_neg (by omega), if_neg (by omega), if_neg (by omega)]
  unfold tstB bi
  by_cases g0 : t / 100 % 3 = 0
  · simp only [g0, if_true]
    by_cases g1 : lt (t / 300) < t % 100
    · rw [if_neg (by omega)]; simp [g1]; rfl
    · rw [if_pos (by omega)]; simp [g1]; rfl
  · by_cases g1 : t / 100 % 3 = 1
    · simp only [g1]
      by_cases g2 : lt (t / 300) = t % 100
      · simp [g2]; rfl
      · simp [g2]; rfl
    · simp only [g0, g1, if_false]
      by_cases g2 : t % 100 < lt (t / 300)
      · rw [if_neg (by omega)]; simp [g2]; rfl
      · rw [if_pos (by omega)]; simp [g2]; rfl
end
