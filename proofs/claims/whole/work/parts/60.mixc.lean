/-! MIXED, in the class -/
def RowX (n : Nat) (D : List Nat) (f : Nat → Int32) : Prop := ∀ k, k < n → f k = J (dG D k : Nat)
def DI (n : Nat) (D : List Nat) : Prop := ∀ k, k < n → dG D k ≤ 7
def hasL (D : List Nat) (st : Int → Int) : Nat → Nat → Bool
  | 0, _ => true
  | N + 1, k => if (aF D k : Int) ≤ st (dG D k : Nat) then hasL D st N (k + 1) else false
theorem hasL_s {D : List Nat} {st : Int → Int} {N k : Nat} : hasL D st (N + 1) k = if (aF D k : Int) ≤ st (dG D k : Nat) then hasL D st N (k + 1) else false := rfl
theorem aF_in (D : List Nat) : ∀ k, 1 ≤ aF D k ∧ aF D k ≤ k + 1
  | 0 => ⟨Nat.le_refl _, Nat.le_refl _⟩
  | k + 1 => by
    have := aF_in D k
    show 1 ≤ (if dG D (k + 1) = dG D k then aF D k + 1 else 1) ∧ _
    constructor
    · split <;> omega
    · show (if dG D (k + 1) = dG D k then aF D k + 1 else 1) ≤ _
      split <;> omega
theorem aF_s {D : List Nat} {k : Nat} : aF D (k + 1) = if dG D (k + 1) = dG D k then aF D k + 1 else 1 := rfl
def muchZ (D : List Nat) (t : Int → Int) (w : Int) (n : Nat) : Int := ab (sumF (fun k => t (dG D k.toNat : Nat)) 0 n - w)
def stepM (t : Int → Int) (w : Int) (n : Nat) (a : Int × List Nat) (D : List Nat) : Int × List Nat := if a.1 < 0 ∨ muchZ D t w n < a.1 then (muchZ D t w n, D) else a
def AccR (n : Nat) (a : Int × List Nat) (m : SM) : Prop := (a.1 = -5 ∧ m.1 134 3 = J 0) ∨ ((0 ≤ a.1 ∧ a.1 ≤ 1000000) ∧ m.1 134 3 = J 1 ∧ m.1 134 2 = J a.1 ∧ RowX n a.2 (m.1 136))
def weK : Nat → Prop := fun k => k = 134 ∨ k = 136
def goKs : Nat → Prop := fun k => k = 135
section
variable {m : SM} {d n : Nat} {D : List Nat} {st t : Int → Int}
theorem S_17 (hn : n ≤ 4) (hD : DI n D) (hR : RowX n D (m.1 135)) (hs : ∀ j : Int, 0 ≤ j → j < 8 → m.1 4 j.toNat = J (st j)) (hsb : ∀ j : Int, 0 ≤ j → j < 8 → 0 ≤ st j ∧ st j ≤ 99) : cB Q0 (d + 1) 17 [.ref 134, .int (J n), .ref 4] m = some (some (.int (bi (hasL D st n 0 = true))), m) := by
  have L : ∀ (N k : Nat) (c : Int), k + N = n → 0 ≤ c → c ≤ 4 → (0 < k → c = aF D (k - 1)) → rB Q0 17 (cB Q0 d) 5 [some (.ref 134), some (.int (J n)), some (.ref 4), some (.int (J c)), some (.int (J k))] m = some (some (.int (bi (hasL D st N k = true))), m) := by
    intro N
    induction N with
    | zero =>
      intro k c h1 h2 h3 h4
      rw [T_17_5]
      simp (disch := omega) only [kk, lits, q0_J, q1_J, q2_J, cI_J, cT_J, cB_J, cZ_J, cS_J, c1_J, cA_J, J_clamp, u2_at, reduceIte]
      rw [if_pos (by omega)]
      rfl
    | succ N ih =>
      intro k c h1 h2 h3 h4
      have r1 := hR k (by omega)
      have d1 := hD k (by omega)
      have s1 := hs (dG D k : Nat) (by omega) (by omega)
      have s2 := hsb (dG D k : Nat) (by omega) (by omega)
      rw [Int.toNat_natCast] at s1
      rw [T_17_5, hasL_s]
      rcases Nat.eq_zero_or_pos k with rfl | hk
      · have e1 := ih 1 1 (by omega) (by omega) (by omega) (fun _ => rfl)
        have ea : aF D 0 = 1 := rfl
        simp (disch := omega) only [kk, lits, q0_J, q1_J, q2_J, cI_J, cT_J, cB_J, cZ_J, cS_J, c1_J, cA_J, J_clamp, u2_at, reduceIte, Int.toNat_natCast, r1, s1]
        rw [if_neg (by omega), if_pos (by omega), ea]
        by_cases c1 : (1 : Int) ≤ st (dG D 0 : Nat)
        · rw [if_pos c1, if_pos (show ((1 : Nat) : Int) ≤ st (dG D 0 : Nat) by omega)]
          exact e1
        · rw [if_neg c1, if_neg (show ¬ ((1 : Nat) : Int) ≤ st (dG D 0 : Nat) by omega)]
          rfl
      · obtain ⟨j, rfl⟩ : ∃ j, k = j + 1 := ⟨k - 1, by omega⟩
        have r0 := hR j (by omega)
        have d0 := hD j (by omega)
        have hc := h4 (by omega)
        have ha := aF_in D j
        rw [show j + 1 - 1 = j by omega] at hc
        have ej : (((j + 1 : Nat) : Int) - 1).toNat = j := by omega
        have ek : (((j + 1 : Nat) : Int)) = (j : Int) + 1 := by omega
        have ek2 : ((j : Int) + 1).toNat = j + 1 := by omega
        have ek3 : ((j : Int) + 1 - 1).toNat = j := by omega
        have e1 := ih (j + 1 + 1) 1 (by omega) (by omega) (by omega)
        have e2 := ih (j + 1 + 1) (c + 1) (by omega) (by omega) (by omega)
        rw [show j + 1 + 1 - 1 = j + 1 by omega, aF_s, show ((j + 1 + 1 : Nat) : Int) = (j : Int) + 1 + 1 by omega] at e1 e2
        rw [ek]
        simp (disch := omega) only [kk, lits, q0_J, q1_J, q2_J, cI_J, cT_J, cB_J, cZ_J, cS_J, c1_J, cA_J, J_clamp, u2_at, reduceIte, ek2, ek3, Int.toNat_natCast, r1, r0, s1]
        rw [if_neg (by omega), if_neg (by omega), aF_s]
        by_cases c0 : dG D (j + 1) = dG D j
        · rw [if_pos (show ((dG D (j + 1) : Nat) : Int) = (dG D j : Nat) by omega), if_pos c0]
          rw [if_pos c0] at e2
          have e3 := e2 (fun _ => by omega)
          by_cases c1 : c + 1 ≤ st (dG D (j + 1) : Nat)
          · rw [if_pos c1, if_pos (show ((aF D j + 1 : Nat) : Int) ≤ st (dG D (j + 1) : Nat) by omega)]
            exact e3
          · rw [if_neg c1, if_neg (show ¬ ((aF D j + 1 : Nat) : Int) ≤ st (dG D (j + 1) : Nat) by omega)]
            rfl
        · rw [if_neg (show ¬ ((dG D (j + 1) : Nat) : Int) = (dG D j : Nat) by omega), if_neg c0]
          rw [if_neg c0] at e1
          have e3 := e1 (fun _ => rfl)
          by_cases c1 : (1 : Int) ≤ st (dG D (j + 1) : Nat)
          · rw [if_pos c1, if_pos (show ((1 : Nat) : Int) ≤ st (dG D (j + 1) : Nat) by omega)]
            exact e3
          · rw [if_neg c1, if_neg (show ¬ ((1 : Nat) : Int) ≤ st (dG D (j + 1) : Nat) by omega)]
            rfl
  rw [cB_eq]
  show rB Q0 17 (cB Q0 d) 0 [some (.ref 134), some (.int (J n)), some (.ref 4)] m = _
  rw [T_17_0]
  exact L n 0 0 (by omega) (by omega) (by omega) (fun h => absurd h (by omega))
theorem S_19 (hn : n ≤ 4) (hD : DI n D) (hR : RowX n D (m.1 135)) : (goK n n D = none → cB Q0 (d + 1) 19 [.ref 134, .int (J n)] m = some (some (.int (J 0)), m)) ∧ ∀ D2, goK n n D = some D2 → ∃ m', cB Q0 (d + 1) 19 [.ref 134, .int (J n)] m = some (some (.int (J 1)), m') ∧ RowX n D2 (m'.1 135) ∧ DI n D2 ∧ Fr goKs m m' := by
  have W : ∀ (N i k : Nat) (v : Int) (m : SM), i + N = n → ∃ m', rB Q0 19 (cB Q0 d) 31 [some (.ref 134), some (.int (J n)), none, some (.int (J v)), some (.int (J i))] m = some (some (.int (J 1)), m') ∧ (∀ j, j < n → m'.1 135 j = if i ≤ j then J v else m.1 135 j) ∧ Fr goKs m m' := by
    intro N
    induction N with
    | zero =>
      intro i k v m h1
      refine ⟨m, ?_, fun j hj => by rw [if_neg (by omega)], Fr.rf⟩
      rw [T_19_31]
      simp (disch := omega) only [kk, lits, q0_J, q1_J, q2_J, cI_J, cT_J, cB_J, cZ_J, cS_J, c1_J, cA_J, J_clamp, u2_at, reduceIte]
      rw [if_pos (by omega)]
    | succ N ih =>
      intro i k v m h1
      have hF : Fr goKs m (up2 m.1 135 i (J v), m.2) := Fr.put (K := goKs) rfl _ _
      obtain ⟨m', q1, q2, q3⟩ := ih (i + 1) k v (up2 m.1 135 i (J v), m.2) (by omega)
      refine ⟨m', ?_, fun j hj => ?_, hF.tr q3⟩
      · rw [T_19_31]
        simp (disch := omega) only [kk, lits, q0_J, q1_J, q2_J, cI_J, cT_J, cB_J, cZ_J, cS_J, c1_J, cA_J, J_clamp, u2_at, reduceIte, Int.toNat_natCast]
        rw [if_neg (by omega)]
        exact q1
      · rw [q2 j hj]
        show (if i + 1 ≤ j then J v else up2 m.1 135 i (J v) 135 j) = _
        rw [u2_at]
        by_cases c1 : i + 1 ≤ j
        · rw [if_pos c1, if_pos (by omega)]
        · rw [if_neg c1]
          by_cases c2 : j = i
          · rw [if_pos c2, if_pos (by omega)]
          · rw [if_neg c2, if_neg (by omega)]
  have L : ∀ (k : Nat), k ≤ n → (goK n k D = none → rB Q0 19 (cB Q0 d) 4 [some (.ref 134), some (.int (J n)), some (.int (J ((k : Int) - 1)))] m = some (some (.int (J 0)), m)) ∧ ∀ D2, goK n k D = some D2 → ∃ m', rB Q0 19 (cB Q0 d) 4 [some (.ref 134), some (.int (J n)), some (.int (J ((k : Int) - 1)))] m = some (some (.int (J 1)), m') ∧ RowX n D2 (m'.1 135) ∧ DI n D2 ∧ Fr goKs m m' := by
    intro k
    induction k with
    | zero =>
      intro hk
      refine ⟨fun _ => ?_, fun D2 h => by cases h⟩
      rw [T_19_4]
      simp (disch := omega) only [kk, lits, q0_J, q1_J, q2_J, cI_J, cT_J, cB_J, cZ_J, cS_J, c1_J, cA_J, J_clamp, u2_at, reduceIte]
      rw [if_pos (by omega)]
    | succ k ih =>
      intro hk
      have r1 := hR k (by omega)
      have d1 := hD k (by omega)
      rw [show ((k + 1 : Nat) : Int) - 1 = k by omega, goK_s]
      by_cases c : dG D k < 7
      · rw [if_pos c]
        refine ⟨fun h => (by cases h), fun D2 h => ?_⟩
        have h2 : setF n k D = D2 := Option.some.inj h
        obtain ⟨m', q1, q2, q3⟩ := W (n - k) k 0 ((dG D k : Nat) + 1) m (by omega)
        refine ⟨m', ?_, fun j hj => ?_, fun j hj => ?_, q3⟩
        · rw [T_19_4]
          simp (disch := omega) only [kk, lits, q0_J, q1_J, q2_J, cI_J, cT_J, cB_J, cZ_J, cS_J, c1_J, cA_J, J_clamp, u2_at, reduceIte, Int.toNat_natCast, r1]
          rw [if_neg (by omega), if_neg (by omega)]
          exact q1
        · rw [← h2, q2 j hj]
          unfold setF
          rw [dG_map hj]
          by_cases c2 : k ≤ j
          · rw [if_pos c2, if_neg (by omega)]
            rfl
          · rw [if_neg c2, if_pos (by omega)]
            exact hR j hj
        · rw [← h2]
          unfold setF
          rw [dG_map hj]
          have := hD j hj
          split <;> omega
      · rw [if_neg c]
        have h3 := ih (by omega)
        have e : rB Q0 19 (cB Q0 d) 4 [some (.ref 134), some (.int (J n)), some (.int (J k))] m = rB Q0 19 (cB Q0 d) 4 [some (.ref 134), some (.int (J n)), some (.int (J ((k : Int) - 1)))] m := by
          rw [T_19_4]
          simp (disch := omega) only [kk, lits, q0_J, q1_J, q2_J, cI_J, cT_J, cB_J, cZ_J, cS_J, c1_J, cA_J, J_clamp, u2_at, reduceIte, Int.toNat_natCast, r1]
          rw [if_neg (by omega), if_pos (by omega)]
          rfl
        rw [e]
        exact h3
  have e : cB Q0 (d + 1) 19 [.ref 134, .int (J n)] m = rB Q0 19 (cB Q0 d) 4 [some (.ref 134), some (.int (J n)), some (.int (J ((n : Int) - 1)))] m := by
    rw [cB_eq]
    show rB Q0 19 (cB Q0 d) 0 [some (.ref 134), some (.int (J n))] m = _
    rw [T_19_0]
    simp (disch := omega) only [kk, lits, q0_J, q1_J, q2_J, cI_J, cT_J, cB_J, cZ_J, cS_J, c1_J, cA_J, J_clamp, u2_at, reduceIte]
  rw [e]
  exact L n (Nat.le_refl _)
end
