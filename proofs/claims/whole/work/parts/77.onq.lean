/-! ON, asked of the reference -/
section
variable {m : SM} {d : Nat} {A : Shp} {sh h : Int} {L : Cla}
theorem S_164 (hI : ShI A) (hV : ViewN sh h L A m) (ht : ThI (rainL 0 L, clsL L)) (h32 : m.1 177 32 = J 9999) (g1 : A.1 0 1 ≤ 9999) (g2 : A.1 0 2 ≤ 9999) {a w : Int} (h1 : -2147483648 ≤ a ∧ a ≤ 2147483647) (h2 : -2147483648 ≤ w ∧ w ≤ 2147483647) : ∃ m', cB Q0 (d + 7) 164 [.ref 177, .int (J a), .int (J w)] m = some (some (.int (J (onA A (rainL 0 L) (clsL L) a w))), m') ∧ BK m m' := by
  have i0 := hI.1.1
  have a0 := hV.1.1.1
  have e1 := S_109 (m := m) (d := d + 5) h2.1 h2.2 (show -2147483648 ≤ (10 : Int) by omega) (by omega) (show -2147483648 ≤ 9 + A.1 0 0 by omega) (by omega)
  have e2 := S_109 (m := m) (d := d + 5) h2.1 h2.2 (show -2147483648 ≤ (20 : Int) by omega) (by omega) (show -2147483648 ≤ 19 + A.1 0 0 by omega) (by omega)
  have e3 := S_109 (m := m) (d := d + 5) h2.1 h2.2 (show -2147483648 ≤ (30 : Int) by omega) (by omega) (show -2147483648 ≤ 29 + A.1 0 0 by omega) (by omega)
  have n0 : ∀ {α : Type} (x y : α), bT (Q0.1 0 (J w) 0) x y = if w = 0 then x else y := fun x y => q0_J (b := 0) (by omega) (by omega) (by omega) (by omega) x y
  rw [cB_eq]
  show ∃ m', rB Q0 164 (cB Q0 (d + 6)) 0 [some (.ref 177), some (.int (J a)), some (.int (J w))] m = _ ∧ _
  rw [T_164_s, n0]
  unfold onA
  have G := fun hw => L_164 (d := d) (w := w) hI hV ht h32 g1 g2 h1 hw
  by_cases k : w = 0 ∨ (10 ≤ w ∧ w ≤ 39 ∧ w % 10 ≤ A.1 0 0 - 1)
  · rw [if_neg (show ¬ ¬ (w = 0 ∨ (10 ≤ w ∧ w ≤ 39 ∧ w % 10 ≤ A.1 0 0 - 1)) from fun z => z k)]
    by_cases k0 : w = 0
    · rw [if_pos k0]
      exact G k
    · rw [if_neg k0, bX_e, a0, show (9 : Int32) + J (A.1 0 0) = J (9 + A.1 0 0) from J_add 9 _, show cB Q0 (d + 6) 109 [.ref 177, .int (J w), .int 10, .int (J (9 + A.1 0 0))] m = _ from e1, bI_e, nz_bi]
      by_cases k1 : 10 ≤ w ∧ w ≤ 9 + A.1 0 0
      · rw [if_pos k1]
        exact G k
      · rw [if_neg k1, bX_e, a0, show (19 : Int32) + J (A.1 0 0) = J (19 + A.1 0 0) from J_add 19 _, show cB Q0 (d + 6) 109 [.ref 177, .int (J w), .int 20, .int (J (19 + A.1 0 0))] m = _ from e2, bI_e, nz_bi]
        by_cases k2 : 20 ≤ w ∧ w ≤ 19 + A.1 0 0
        · rw [if_pos k2]
          exact G k
        · rw [if_neg k2, bX_e, a0, show (29 : Int32) + J (A.1 0 0) = J (29 + A.1 0 0) from J_add 29 _, show cB Q0 (d + 6) 109 [.ref 177, .int (J w), .int 30, .int (J (29 + A.1 0 0))] m = _ from e3, bI_e, nz_bi, if_pos (show 30 ≤ w ∧ w ≤ 29 + A.1 0 0 by omega)]
          exact G k
  · rw [if_pos (show ¬ (w = 0 ∨ (10 ≤ w ∧ w ≤ 39 ∧ w % 10 ≤ A.1 0 0 - 1)) from k), if_neg (show ¬ w = 0 by omega), bX_e, a0, show (9 : Int32) + J (A.1 0 0) = J (9 + A.1 0 0) from J_add 9 _, show cB Q0 (d + 6) 109 [.ref 177, .int (J w), .int 10, .int (J (9 + A.1 0 0))] m = _ from e1, bI_e, nz_bi, if_neg (show ¬ (10 ≤ w ∧ w ≤ 9 + A.1 0 0) by omega), bX_e, a0, show (19 : Int32) + J (A.1 0 0) = J (19 + A.1 0 0) from J_add 19 _, show cB Q0 (d + 6) 109 [.ref 177, .int (J w), .int 20, .int (J (19 + A.1 0 0))] m = _ from e2, bI_e, nz_bi, if_neg (show ¬ (20 ≤ w ∧ w ≤ 19 + A.1 0 0) by omega), bX_e, a0, show (29 : Int32) + J (A.1 0 0) = J (29 + A.1 0 0) from J_add 29 _, show cB Q0 (d + 6) 109 [.ref 177, .int (J w), .int 30, .int (J (29 + A.1 0 0))] m = _ from e3, bI_e, nz_bi, if_neg (show ¬ (30 ≤ w ∧ w ≤ 29 + A.1 0 0) by omega)]
    exact ⟨m, rfl, BK.rf⟩
end
