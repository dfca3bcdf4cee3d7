/-! ON, asked of the class -/
section
variable {m : SM} {d : Nat} {n : Int} {T : Int × Cls} {A : Shp}
theorem S_62 (hI : ShI A) (hV : View 1 n T A m) (g1 : A.1 0 1 ≤ 9999) (g2 : A.1 0 2 ≤ 9999) {a w : Int} (h1 : -2147483648 ≤ a ∧ a ≤ 2147483647) (h2 : -2147483648 ≤ w ∧ w ≤ 2147483647) : ∃ m', cB Q0 (d + 6) 62 [.ref 0, .int (J a), .int (J w)] m = some (some (.int (J (onA A T.1 T.2 a w))), m') ∧ Fr scK m m' := by
  have i0 := hI.1.1
  have e1 := S_85 (m := m) (d := d + 4) h2.1 h2.2 (show -2147483648 ≤ (10 : Int) by omega) (by omega) (show -2147483648 ≤ (39 : Int) by omega) (by omega)
  have n0 : ∀ {α : Type} (x y : α), bT (Q0.1 0 (J w) 0) x y = if w = 0 then x else y := fun x y => q0_J (b := 0) (by omega) (by omega) (by omega) (by omega) x y
  have n10 : ∀ {α : Type} (x y : α), bT (Q0.1 0 10 0) x y = y := fun x y => rfl
  have n1 : ∀ {α : Type} (x y : α), bT (Q0.1 0 1 0) x y = y := fun x y => rfl
  have n00 : ∀ {α : Type} (x y : α), bT (Q0.1 0 0 0) x y = x := fun x y => rfl
  rw [cB_eq]
  show ∃ m', rB Q0 62 (cB Q0 (d + 5)) 0 [some (.ref 0), some (.int (J a)), some (.int (J w))] m = _ ∧ _
  rw [T_62_s, show cB Q0 (d + 5) 85 [.int (J w), .int 10, .int 39] m = _ from e1, bI_e, nz_bi]
  unfold onA
  by_cases c1 : 10 ≤ w ∧ w ≤ 39
  · have em : J w - J w / 10 * 10 = J (w % 10) := by
      rw [show (10 : Int32) = J 10 from rfl, J_div (by omega) (by omega) (by omega) (by omega), J_mul, J_sub, tmod_b (by omega)]
    rw [if_pos c1, n10, em, S_87 (d := d + 3) hV.1.1.1 i0.1 i0.2 (by omega) (by omega), bI_e, nz_bi]
    by_cases c2 : 0 ≤ w % 10 ∧ w % 10 ≤ A.1 0 0 - 1
    · rw [if_pos c2, n0, if_neg (show ¬ w = 0 by omega), n1, if_neg (show ¬ ¬ (w = 0 ∨ (10 ≤ w ∧ w ≤ 39 ∧ w % 10 ≤ A.1 0 0 - 1)) by omega)]
      exact L_62 (d := d) hI hV g1 g2 h1 (by omega)
    · rw [if_neg c2, n0, if_neg (show ¬ w = 0 by omega), n00, if_pos (show ¬ (w = 0 ∨ (10 ≤ w ∧ w ≤ 39 ∧ w % 10 ≤ A.1 0 0 - 1)) by omega)]
      exact ⟨m, rfl, Fr.rf⟩
  · rw [if_neg c1, n0]
    by_cases c2 : w = 0
    · rw [if_pos c2, if_neg (show ¬ ¬ (w = 0 ∨ (10 ≤ w ∧ w ≤ 39 ∧ w % 10 ≤ A.1 0 0 - 1)) by omega)]
      exact L_62 (d := d) hI hV g1 g2 h1 (by omega)
    · rw [if_neg c2, n00, if_pos (show ¬ (w = 0 ∨ (10 ≤ w ∧ w ≤ 39 ∧ w % 10 ≤ A.1 0 0 - 1)) by omega)]
      exact ⟨m, rfl, Fr.rf⟩
end
