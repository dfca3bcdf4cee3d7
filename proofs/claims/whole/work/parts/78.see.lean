/-! SEE, asked of the class -/
def seeS (A : Shp) (p l a : Int) : Shp := if p = -1 then upRw A 0 (upH (A.2.2 0) 0 0 0) else if 0 ≤ p ∧ p ≤ A.1 0 0 - 1 then (if 0 ≤ l ∧ l ≤ 1 then (if 0 ≤ a ∧ a ≤ 9999 then (if 5 ≤ A.2.2 0 0 0 then A else upRw A 0 (addR (A.2.2 0) p l a)) else A) else A) else A
def seeA (A : Shp) (p l a : Int) : Int := if p = -1 then 0 else if 0 ≤ p ∧ p ≤ A.1 0 0 - 1 then (if 0 ≤ l ∧ l ≤ 1 then (if 0 ≤ a ∧ a ≤ 9999 then (if 5 ≤ A.2.2 0 0 0 then -4 else A.2.2 0 0 0 + 1) else -2) else -1) else -1
section
variable {m : SM} {d : Nat} {n : Int} {T : Int × Cls} {A : Shp}
theorem S_65 (hI : ShI A) (hV : View 1 n T A m) {p l a : Int} (h1 : -2147483648 ≤ p ∧ p ≤ 2147483647) (h2 : -2147483648 ≤ l ∧ l ≤ 2147483647) (h3 : -2147483648 ≤ a ∧ a ≤ 2147483647) : ∃ m', cB Q0 (d + 3) 65 [.ref 0, .int (J p), .int (J l), .int (J a)] m = some (some (.int (J (seeA A p l a))), m') ∧ View 1 n T (seeS A p l a) m' ∧ Fr (hK 6) m m' := by
  have i0 := hI.1.1
  have iq := hI.2.2.2.1.1
  have hr : RowsR 6 (A.2.2 0) m := hV.1.2.2.2 0 (by omega)
  have hF : RowF 6 := (shF (s := 1) (Or.inl rfl)).2.2.1
  have e1 := S_87 (d := d) hV.1.1.1 i0.1 i0.2 h1.1 h1.2
  have e2 := S_89 (m := m) (d := d) h2.1 h2.2
  have e3 := S_85 (m := m) (d := d + 1) h3.1 h3.2 (show -2147483648 ≤ (0 : Int) by omega) (by omega) (show -2147483648 ≤ (9999 : Int) by omega) (by omega)
  have nm : ∀ {α : Type} (x y : α), bT (Q0.1 0 (J p) (-1)) x y = if p = -1 then x else y := fun x y => q0_J (b := -1) (by omega) (by omega) (by omega) (by omega) x y
  rw [cB_eq]
  show ∃ m', rB Q0 65 (cB Q0 (d + 2)) 0 [some (.ref 0), some (.int (J p)), some (.int (J l)), some (.int (J a))] m = _ ∧ _
  rw [T_65_0, nm]
  unfold seeA seeS
  by_cases c0 : p = -1
  · rw [if_pos c0, if_pos c0, if_pos c0]
    have hf : Fr (hK 6) m (up2 m.1 6 0 (J 0), m.2) := Fr.put (K := hK 6) (k := 6) (by unfold hK; omega) _ _
    refine ⟨(up2 m.1 6 0 (J 0), m.2), rfl, ⟨hV.1.rw i0.2 (k := 0) (by omega) hf ⟨?_, fun k g0 g1 j g2 g3 => ?_⟩, (hV.2.fr hf fun k hk => by unfold hK; omega).sh rfl⟩, hf⟩
    · show up2 m.1 6 0 (J 0) 6 0 = J (upH (A.2.2 0) 0 0 0 0 0)
      rw [u2_at, if_pos rfl]
      rfl
    · have e0 : upH (A.2.2 0) 0 0 0 0 0 = 0 := if_pos ⟨rfl, rfl⟩
      rw [e0] at g3
      omega
  · rw [if_neg c0, if_neg c0, if_neg c0, e1, bI_e, nz_bi]
    by_cases c1 : 0 ≤ p ∧ p ≤ A.1 0 0 - 1
    · rw [if_pos c1, if_pos c1, if_pos c1, e2, bI_e, nz_bi]
      by_cases c2 : 0 ≤ l ∧ l ≤ 1
      · rw [if_pos c2, if_pos c2, if_pos c2, show cB Q0 (d + 2) 85 [.int (J a), .int 0, .int 9999] m = _ from e3, bI_e, nz_bi]
        by_cases c3 : 0 ≤ a ∧ a ≤ 9999
        · rw [if_pos c3, if_pos c3, if_pos c3]
          by_cases c4 : 5 ≤ A.2.2 0 0 0
          · rw [if_pos c4, if_pos c4, show cB Q0 (d + 2) 21 [.ref 6, .int 5, .int (J p), .int (J l), .int (J a)] m = _ from S_21n (d := d + 1) (most := 5) hF hr (by omega) (by omega) c4, bI_e]
            exact ⟨m, rfl, hV, Fr.rf⟩
          · obtain ⟨m', q1, q2, q3⟩ := S_21 (d := d + 1) (most := 5) (x := p) (y := l) (z := a) hF hr (by omega) (by omega) (by omega)
            rw [if_neg c4, if_neg c4, show cB Q0 (d + 2) 21 [.ref 6, .int 5, .int (J p), .int (J l), .int (J a)] m = _ from q1, bI_e]
            exact ⟨m', rfl, ⟨hV.1.rw i0.2 (k := 0) (by omega) q3 q2, (hV.2.fr q3 fun k hk => by unfold hK; omega).sh rfl⟩, q3⟩
        · rw [if_neg c3, if_neg c3, if_neg c3]
          exact ⟨m, rfl, hV, Fr.rf⟩
      · rw [if_neg c2, if_neg c2, if_neg c2]
        exact ⟨m, rfl, hV, Fr.rf⟩
    · rw [if_neg c1, if_neg c1, if_neg c1]
      exact ⟨m, rfl, hV, Fr.rf⟩
end
