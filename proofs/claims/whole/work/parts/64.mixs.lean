/-! THE REFERENCE: a line laid -/
def lnK : Nat → Prop := fun k => k = 199
section
variable {m : SM} {d n : Nat} {st : Int → Int}
theorem dgs_at {n x k : Nat} (h : k < n) : dG (dgs n x) k = x / 8 ^ (n - 1 - k) % 8 := by
  unfold dgs
  rw [dG_map h]
theorem dgs_DI (n x : Nat) : DI n (dgs n x) := fun k hk => by
  rw [dgs_at hk]
  omega
theorem cF_in (D : List Nat) (v : Nat) : ∀ N j, cF D v N j ≤ N
  | 0, _ => Nat.le_refl _
  | N + 1, j => by
    have := cF_in D v N (j + 1)
    show (if dG D j = v then 1 else 0) + cF D v N (j + 1) ≤ N + 1
    split <;> omega
theorem S_165 (hn : n ≤ 4) {x : Nat} (hx : x < 4096) (hs : ∀ j : Int, 0 ≤ j → j < 8 → m.1 180 j.toNat = J (st j)) (hsb : ∀ j : Int, 0 ≤ j → j < 8 → 0 ≤ st j ∧ st j ≤ 99) : ∃ m', cB Q0 (d + 1) 165 [.ref 177, .int (J x), .int (J n)] m = some (some (.int (bi (layL n (dgs n x) st n 0 = true))), m') ∧ RowX n (dgs n x) (m'.1 199) ∧ FrR lnK noI m m' := by
  have hDI := dgs_DI n x
  -- how often, from one on
  have C : ∀ (m : SM), RowX n (dgs n x) (m.1 199) → ∀ (k : Nat), k < n → ∀ (N j c : Nat), j + N = n → c ≤ j → rB Q0 165 (cB Q0 d) 49 [some (.ref 177), none, some (.int (J n)), none, some (.int (J k)), some (.int (J c)), some (.int (J j))] m = rB Q0 165 (cB Q0 d) 49 [some (.ref 177), none, some (.int (J n)), none, some (.int (J k)), some (.int (J ((c + cF (dgs n x) (dG (dgs n x) k) N j : Nat) : Int))), some (.int (J n))] m := by
    intro m hR k hk N
    induction N with
    | zero =>
      intro j c h1 h2
      rw [show j = n by omega]
      rfl
    | succ N ih =>
      intro j c h1 h2
      have r1 := hR k hk
      have r2 := hR j (by omega)
      have d1 := hDI k hk
      have d2 := hDI j (by omega)
      have es : cF (dgs n x) (dG (dgs n x) k) (N + 1) j = (if dG (dgs n x) j = dG (dgs n x) k then 1 else 0) + cF (dgs n x) (dG (dgs n x) k) N (j + 1) := rfl
      conv => lhs; rw [T_165_49]
      simp (disch := omega) only [kk, lits, q0_J, q1_J, q2_J, cI_J, cT_J, cB_J, cZ_J, cS_J, c1_J, cA_J, J_clamp, u2_at, reduceIte, Int.toNat_natCast, r1, r2]
      rw [if_neg (show ¬ (n : Int) ≤ (j : Int) by omega), es]
      by_cases c1 : dG (dgs n x) j = dG (dgs n x) k
      · rw [if_pos (show ((dG (dgs n x) j : Nat) : Int) = (dG (dgs n x) k : Nat) by omega), if_pos c1]
        have := ih (j + 1) (c + 1) (by omega) (by omega)
        rw [show c + (1 + cF (dgs n x) (dG (dgs n x) k) N (j + 1)) = c + 1 + cF (dgs n x) (dG (dgs n x) k) N (j + 1) by omega]
        exact this
      · rw [if_neg (show ¬ ((dG (dgs n x) j : Nat) : Int) = (dG (dgs n x) k : Nat) by omega), if_neg c1]
        have := ih (j + 1) c (by omega) (by omega)
        rw [Nat.zero_add, Int.add_zero]
        exact this
  have K : ∀ (m : SM), RowX n (dgs n x) (m.1 199) → (∀ j : Int, 0 ≤ j → j < 8 → m.1 180 j.toNat = J (st j)) → ∀ (N k : Nat), k + N = n → rB Q0 165 (cB Q0 d) 37 [some (.ref 177), none, some (.int (J n)), none, some (.int (J k))] m = some (some (.int (bi (layL n (dgs n x) st N k = true))), m) := by
    intro m hR hs N
    induction N with
    | zero =>
      intro k h1
      rw [T_165_37]
      simp (disch := omega) only [kk, lits, q0_J, q1_J, q2_J, cI_J, cT_J, cB_J, cZ_J, cS_J, c1_J, cA_J, J_clamp, u2_at, reduceIte]
      rw [if_pos (show (n : Int) ≤ (k : Int) by omega)]
      rfl
    | succ N ih =>
      intro k h1
      have r1 := hR k (by omega)
      have d1 := hDI k (by omega)
      have s1 := hs (dG (dgs n x) k : Nat) (by omega) (by omega)
      have s2 := hsb (dG (dgs n x) k : Nat) (by omega) (by omega)
      have cb := cF_in (dgs n x) (dG (dgs n x) k) n 0
      rw [Int.toNat_natCast] at s1
      have e0 := C m hR k (by omega) n 0 0 (by omega) (by omega)
      rw [Nat.zero_add] at e0
      have e1 := ih (k + 1) (by omega)
      rw [T_165_37]
      simp (disch := omega) only [kk, lits, q0_J, q1_J, q2_J, cI_J, cT_J, cB_J, cZ_J, cS_J, c1_J, cA_J, J_clamp, u2_at, reduceIte]
      rw [if_neg (show ¬ (n : Int) ≤ (k : Int) by omega), layL_s]
      refine Eq.trans e0 ?_
      rw [T_165_49]
      simp (disch := omega) only [kk, lits, q0_J, q1_J, q2_J, cI_J, cT_J, cB_J, cZ_J, cS_J, c1_J, cA_J, J_clamp, u2_at, reduceIte, Int.toNat_natCast, r1, s1]
      rw [if_pos (Int.le_refl _)]
      by_cases c1 : st (dG (dgs n x) k : Nat) < (cF (dgs n x) (dG (dgs n x) k) n 0 : Nat)
      · rw [if_pos c1, if_pos c1]
        rfl
      · rw [if_neg c1, if_neg c1]
        by_cases c2 : k = 0
        · rw [if_pos (show (k : Int) ≤ 0 by omega), if_pos c2]
          exact e1
        · obtain ⟨j, rfl⟩ : ∃ j, k = j + 1 := ⟨k - 1, by omega⟩
          have r0 := hR j (by omega)
          have d0 := hDI j (by omega)
          have ej : (((j + 1 : Nat) : Int) - 1).toNat = j := by omega
          rw [if_neg (show ¬ ((j + 1 : Nat) : Int) ≤ 0 by omega), if_neg c2, show j + 1 - 1 = j by omega]
          simp (disch := omega) only [kk, lits, q0_J, q1_J, q2_J, cI_J, cT_J, cB_J, cZ_J, cS_J, c1_J, cA_J, J_clamp, u2_at, reduceIte, ej, r0]
          by_cases c3 : dG (dgs n x) j ≤ dG (dgs n x) (j + 1)
          · rw [if_pos c3, if_pos (show ((dG (dgs n x) j : Nat) : Int) ≤ (dG (dgs n x) (j + 1) : Nat) by omega)]
            exact e1
          · rw [if_neg c3, if_neg (show ¬ ((dG (dgs n x) j : Nat) : Int) ≤ (dG (dgs n x) (j + 1) : Nat) by omega)]
            rfl
  have W : ∀ (N : Nat) (m : SM) (y : Nat), N ≤ n → y = x / 8 ^ (n - N) → (∀ j : Int, 0 ≤ j → j < 8 → m.1 180 j.toNat = J (st j)) → (∀ k, N ≤ k → k < n → m.1 199 k = J (dG (dgs n x) k : Nat)) → ∃ m', rB Q0 165 (cB Q0 d) 7 [some (.ref 177), none, some (.int (J n)), some (.int (J y)), some (.int (J ((N : Int) - 1)))] m = some (some (.int (bi (layL n (dgs n x) st n 0 = true))), m') ∧ RowX n (dgs n x) (m'.1 199) ∧ FrR lnK noI m m' := by
    intro N
    induction N with
    | zero =>
      intro m y h1 h2 hs hr
      have hR : RowX n (dgs n x) (m.1 199) := fun k hk => hr k (by omega) hk
      refine ⟨m, ?_, hR, FrR.rf⟩
      rw [T_165_7]
      simp (disch := omega) only [kk, lits, q0_J, q1_J, q2_J, cI_J, cT_J, cB_J, cZ_J, cS_J, c1_J, cA_J, J_clamp, u2_at, reduceIte]
      rw [if_pos (by omega)]
      exact K m hR hs n 0 (by omega)
    | succ N ih =>
      intro m y h1 h2 hs hr
      have hy : y ≤ 4096 := by
        rw [h2]
        exact Nat.le_trans (Nat.div_le_self _ _) (by omega)
      have hF : FrR lnK noI m (up2 m.1 199 N (J ((y % 8 : Nat) : Int)), m.2) := FrR.put (K := lnK) (KI := noI) (k := 199) rfl (by omega) _ _
      have ed : J y / J 8 = J ((y / 8 : Nat) : Int) := by
        rw [J_div (by omega) (by omega) (by omega) (by omega), Int.tdiv_eq_ediv_of_nonneg (by omega)]
        rfl
      have em : J y - J ((y / 8 : Nat) : Int) * J 8 = J ((y % 8 : Nat) : Int) := by
        rw [J_mul, J_sub]
        congr 1
        omega
      obtain ⟨m', q1, q2, q3⟩ := ih (up2 m.1 199 N (J ((y % 8 : Nat) : Int)), m.2) (y / 8) (by omega) (by
        rw [h2, Nat.div_div_eq_div_mul, ← Nat.pow_succ, show (n - (N + 1)).succ = n - N by omega]) (fun j h0 h1 => by rw [hF.1 180 (by unfold lnK; omega) (by omega)]; exact hs j h0 h1) (fun k h3 h4 => by
        show up2 m.1 199 N (J ((y % 8 : Nat) : Int)) 199 k = _
        rw [u2_at]
        by_cases c : k = N
        · rw [if_pos c, dgs_at h4, h2, show n - (N + 1) = n - 1 - k by omega]
        · rw [if_neg c, hr k (by omega) h4])
      refine ⟨m', ?_, q2, hF.tr q3⟩
      rw [T_165_7]
      simp only [lits, ed, em]
      rw [show ((N + 1 : Nat) : Int) - 1 = N by omega]
      simp (disch := omega) only [kk, lits, q0_J, q1_J, q2_J, cI_J, cT_J, cB_J, cZ_J, cS_J, c1_J, cA_J, J_clamp, u2_at, reduceIte, Int.toNat_natCast]
      rw [if_neg (show ¬ (N : Int) < 0 by omega), if_neg (show ¬ (8 : Int) = 0 by omega), if_neg (show ¬ (8 : Int) = 0 by omega)]
      exact q1
  obtain ⟨m', q1, q2, q3⟩ := W n m x (Nat.le_refl _) (by rw [Nat.sub_self, Nat.pow_zero, Nat.div_one]) hs (fun k h1 h2 => by omega)
  refine ⟨m', ?_, q2, q3⟩
  rw [cB_eq]
  show rB Q0 165 (cB Q0 d) 0 [some (.ref 177), some (.int (J x)), some (.int (J n))] m = _
  rw [T_165_0]
  simp (disch := omega) only [kk, lits, q0_J, q1_J, q2_J, cI_J, cT_J, cB_J, cZ_J, cS_J, c1_J, cA_J, J_clamp, u2_at, reduceIte]
  exact q1
end
