/-! TOLD and WRONG, on both sides -/
def toldA (A : Shp) (rain a : Int) : Int := if 10 ≤ a ∧ a ≤ 17 then A.1 3 (a - 10) else if 20 ≤ a ∧ a ≤ 27 then A.1 1 (a - 20) else if 30 ≤ a ∧ a ≤ 37 then A.1 2 (a - 30) else if a = 0 then A.1 0 1 else if a = 1 then rain else if a = 2 then A.1 0 2 else if a = 3 then allHairs A else -1
section
variable {m : SM} {d : Nat} {n : Int} {T : Int × Cls} {A : Shp}
theorem S_60 (hI : ShI A) (hV : View 1 n T A m) {a : Int} (h2 : -2147483648 ≤ a ∧ a ≤ 2147483647) : cB Q0 (d + 3) 60 [.ref 0, .int (J a)] m = some (some (.int (J (toldA A T.1 a))), m) := by
  have i0 := hI.1.1
  have i3 := hI.1.2.2.2
  have e1 := S_85 (m := m) (d := d + 1) h2.1 h2.2 (show -2147483648 ≤ (10 : Int) by omega) (by omega) (show -2147483648 ≤ (17 : Int) by omega) (by omega)
  have e2 := S_85 (m := m) (d := d + 1) h2.1 h2.2 (show -2147483648 ≤ (20 : Int) by omega) (by omega) (show -2147483648 ≤ (27 : Int) by omega) (by omega)
  have e3 := S_85 (m := m) (d := d + 1) h2.1 h2.2 (show -2147483648 ≤ (30 : Int) by omega) (by omega) (show -2147483648 ≤ (37 : Int) by omega) (by omega)
  obtain ⟨z0, z1, z2, z3⟩ := hV.1.1
  rw [cB_eq]
  show rB Q0 60 (cB Q0 (d + 2)) 0 [some (.ref 0), some (.int (J a))] m = _
  rw [T_60_0, show cB Q0 (d + 2) 85 [.int (J a), .int 10, .int 17] m = _ from e1, bI_e, nz_bi]
  unfold toldA
  by_cases c1 : 10 ≤ a ∧ a ≤ 17
  · rw [if_pos c1, if_pos c1]
    have hr : m.1 4 (a - 10).toNat = J (A.1 3 (a - 10)) := hV.1.2.1 3 (by omega) (by omega) _ (by omega) (by omega)
    simp only [lits]
    simp (disch := omega) only [kk, lits, q0_J, q1_J, q2_J, cI_J, cT_J, cB_J, cZ_J, cS_J, c1_J, cA_J, J_clamp, u2_at, reduceIte, hr]
  · rw [if_neg c1, if_neg c1, show cB Q0 (d + 2) 85 [.int (J a), .int 20, .int 27] m = _ from e2, bI_e, nz_bi]
    by_cases c2 : 20 ≤ a ∧ a ≤ 27
    · rw [if_pos c2, if_pos c2]
      have hr : m.1 2 (a - 20).toNat = J (A.1 1 (a - 20)) := hV.1.2.1 1 (by omega) (by omega) _ (by omega) (by omega)
      simp only [lits]
      simp (disch := omega) only [kk, lits, q0_J, q1_J, q2_J, cI_J, cT_J, cB_J, cZ_J, cS_J, c1_J, cA_J, J_clamp, u2_at, reduceIte, hr]
    · rw [if_neg c2, if_neg c2, show cB Q0 (d + 2) 85 [.int (J a), .int 30, .int 37] m = _ from e3, bI_e, nz_bi]
      by_cases c3 : 30 ≤ a ∧ a ≤ 37
      · rw [if_pos c3, if_pos c3]
        have hr : m.1 3 (a - 30).toNat = J (A.1 2 (a - 30)) := hV.1.2.1 2 (by omega) (by omega) _ (by omega) (by omega)
        simp only [lits]
        simp (disch := omega) only [kk, lits, q0_J, q1_J, q2_J, cI_J, cT_J, cB_J, cZ_J, cS_J, c1_J, cA_J, J_clamp, u2_at, reduceIte, hr]
      · rw [if_neg c3, if_neg c3]
        have q : ∀ {α : Type} (k : Int) (x y : α), -100 ≤ k → k ≤ 100 → bT (Q0.1 0 (J a) (J k)) x y = if a = k then x else y := fun k x y g0 g1 => q0_J h2.1 h2.2 (by omega) (by omega) x y
        have n0 : ∀ {α : Type} (x y : α), bT (Q0.1 0 (J a) 0) x y = if a = 0 then x else y := fun x y => q 0 x y (by omega) (by omega)
        have n1 : ∀ {α : Type} (x y : α), bT (Q0.1 0 (J a) 1) x y = if a = 1 then x else y := fun x y => q 1 x y (by omega) (by omega)
        have n2 : ∀ {α : Type} (x y : α), bT (Q0.1 0 (J a) 2) x y = if a = 2 then x else y := fun x y => q 2 x y (by omega) (by omega)
        have n3 : ∀ {α : Type} (x y : α), bT (Q0.1 0 (J a) 3) x y = if a = 3 then x else y := fun x y => q 3 x y (by omega) (by omega)
        by_cases k0 : a = 0
        · rw [n0, if_pos k0, if_pos k0, bX_e, z1]
        · rw [n0, if_neg k0, if_neg k0]
          by_cases k1 : a = 1
          · have e4 := S_92 (m := m) (d := d) (s := 1) (Or.inl rfl) z3 hV.2.1.1 i3 hV.2.1.2
            have hF := thS_F (A.1 0 3) n hV.2.1.2.2
            rw [n1, if_pos k1, if_pos k1, e4, bA_e, hF.1, cO_J, bX_e, hV.2.2.1.1]
          · rw [n1, if_neg k1, if_neg k1]
            by_cases k2 : a = 2
            · rw [n2, if_pos k2, if_pos k2, bX_e, z2]
            · rw [n2, if_neg k2, if_neg k2]
              by_cases k3 : a = 3
              · rw [n3, if_pos k3, if_pos k3, S_25 (d := d) (s := 1) (Or.inl rfl) hV.1 hI, bI_e]
              · rw [n3, if_neg k3, if_neg k3]
                rfl
theorem S_66 (hI : ShI A) (hV : View 1 n T A m) : ∃ m', cB Q0 (d + 7) 66 [.ref 0] m = some (some (.int (J (wrongA A T.2 (-1)))), m') ∧ Fr scK m m' := by
  obtain ⟨m', q1, q2⟩ := S_102 (d := d) (Or.inl rfl) hI hV (p := -1) (by omega)
  refine ⟨m', ?_, scK_of q2 fun k hk => by unfold kT at hk; omega⟩
  rw [cB_eq]
  show rB Q0 66 (cB Q0 (d + 6)) 0 [some (.ref 0)] m = _
  rw [T_66_0, show cB Q0 (d + 6) 102 [.ref 0, .ref 1, .int (-1)] m = _ from q1, bI_e]
end
section
variable {m : SM} {d : Nat} {A : Shp} {sh h : Int} {L : Cla}
theorem S_163 (hI : ShI A) (hV : ViewN sh h L A m) {a : Int} (h2 : -2147483648 ≤ a ∧ a ≤ 2147483647) : cB Q0 (d + 3) 163 [.ref 177, .int (J a)] m = some (some (.int (J (toldA A (rainL 0 L) a))), m) := by
  have e1 := S_109 (m := m) (d := d + 1) h2.1 h2.2 (show -2147483648 ≤ (10 : Int) by omega) (by omega) (show -2147483648 ≤ (17 : Int) by omega) (by omega)
  have e2 := S_109 (m := m) (d := d + 1) h2.1 h2.2 (show -2147483648 ≤ (20 : Int) by omega) (by omega) (show -2147483648 ≤ (27 : Int) by omega) (by omega)
  have e3 := S_109 (m := m) (d := d + 1) h2.1 h2.2 (show -2147483648 ≤ (30 : Int) by omega) (by omega) (show -2147483648 ≤ (37 : Int) by omega) (by omega)
  obtain ⟨z0, z1, z2, z3⟩ := hV.1.1
  rw [cB_eq]
  show rB Q0 163 (cB Q0 (d + 2)) 0 [some (.ref 177), some (.int (J a))] m = _
  rw [T_163_0, show cB Q0 (d + 2) 109 [.ref 177, .int (J a), .int 10, .int 17] m = _ from e1, bI_e, nz_bi]
  unfold toldA
  by_cases c1 : 10 ≤ a ∧ a ≤ 17
  · rw [if_pos c1, if_pos c1]
    have hr : m.1 180 (a - 10).toNat = J (A.1 3 (a - 10)) := hV.1.2.1 3 (by omega) (by omega) _ (by omega) (by omega)
    simp only [lits]
    simp (disch := omega) only [kk, lits, q0_J, q1_J, q2_J, cI_J, cT_J, cB_J, cZ_J, cS_J, c1_J, cA_J, J_clamp, u2_at, reduceIte, hr]
  · rw [if_neg c1, if_neg c1, show cB Q0 (d + 2) 109 [.ref 177, .int (J a), .int 20, .int 27] m = _ from e2, bI_e, nz_bi]
    by_cases c2 : 20 ≤ a ∧ a ≤ 27
    · rw [if_pos c2, if_pos c2]
      have hr : m.1 178 (a - 20).toNat = J (A.1 1 (a - 20)) := hV.1.2.1 1 (by omega) (by omega) _ (by omega) (by omega)
      simp only [lits]
      simp (disch := omega) only [kk, lits, q0_J, q1_J, q2_J, cI_J, cT_J, cB_J, cZ_J, cS_J, c1_J, cA_J, J_clamp, u2_at, reduceIte, hr]
    · rw [if_neg c2, if_neg c2, show cB Q0 (d + 2) 109 [.ref 177, .int (J a), .int 30, .int 37] m = _ from e3, bI_e, nz_bi]
      by_cases c3 : 30 ≤ a ∧ a ≤ 37
      · rw [if_pos c3, if_pos c3]
        have hr : m.1 179 (a - 30).toNat = J (A.1 2 (a - 30)) := hV.1.2.1 2 (by omega) (by omega) _ (by omega) (by omega)
        simp only [lits]
        simp (disch := omega) only [kk, lits, q0_J, q1_J, q2_J, cI_J, cT_J, cB_J, cZ_J, cS_J, c1_J, cA_J, J_clamp, u2_at, reduceIte, hr]
      · rw [if_neg c3, if_neg c3]
        have q : ∀ {α : Type} (k : Int) (x y : α), -100 ≤ k → k ≤ 100 → bT (Q0.1 0 (J a) (J k)) x y = if a = k then x else y := fun k x y g0 g1 => q0_J h2.1 h2.2 (by omega) (by omega) x y
        have n0 : ∀ {α : Type} (x y : α), bT (Q0.1 0 (J a) 0) x y = if a = 0 then x else y := fun x y => q 0 x y (by omega) (by omega)
        have n1 : ∀ {α : Type} (x y : α), bT (Q0.1 0 (J a) 1) x y = if a = 1 then x else y := fun x y => q 1 x y (by omega) (by omega)
        have n2 : ∀ {α : Type} (x y : α), bT (Q0.1 0 (J a) 2) x y = if a = 2 then x else y := fun x y => q 2 x y (by omega) (by omega)
        have n3 : ∀ {α : Type} (x y : α), bT (Q0.1 0 (J a) 3) x y = if a = 3 then x else y := fun x y => q 3 x y (by omega) (by omega)
        by_cases k0 : a = 0
        · rw [n0, if_pos k0, if_pos k0, bX_e, z3]
        · rw [n0, if_neg k0, if_neg k0]
          by_cases k1 : a = 1
          · rw [n1, if_pos k1, if_pos k1, S_145 (d := d) hV.2, bI_e]
          · rw [n1, if_neg k1, if_neg k1]
            by_cases k2 : a = 2
            · rw [n2, if_pos k2, if_pos k2, bX_e, z2]
            · rw [n2, if_neg k2, if_neg k2]
              by_cases k3 : a = 3
              · rw [n3, if_pos k3, if_pos k3, S_154 (d := d) hV.1 hI, bI_e]
              · rw [n3, if_neg k3, if_neg k3]
                rfl
theorem S_172 (hI : ShI A) (hV : ViewN sh h L A m) (hW : RwN A m) (ht : ThI (rainL 0 L, clsL L)) : ∃ m', cB Q0 (d + 8) 172 [.ref 177] m = some (some (.int (J (wrongA A (clsL L) (-1)))), m') ∧ FrR piK noI m m' := by
  obtain ⟨m', q1, q2⟩ := S_171 (d := d) hI hV hW ht (p := -1) (by omega)
  refine ⟨m', ?_, q2⟩
  rw [cB_eq]
  show rB Q0 172 (cB Q0 (d + 7)) 0 [some (.ref 177)] m = _
  rw [T_172_0, show cB Q0 (d + 7) 171 [.ref 177, .int (-1)] m = _ from q1, bI_e]
end
