/-! SEE, asked of the reference -/
def seK : Nat → Prop := fun k => 203 ≤ k ∧ k ≤ 205
def seI : Nat → Prop := fun i => i = 41
section
variable {m : SM} {d : Nat} {A : Shp} {sh h : Int} {L : Cla}
theorem S_170 (hI : ShI A) (hV : ViewN sh h L A m) (hW : RwN A m) {p l a : Int} (h1 : -2147483648 ≤ p ∧ p ≤ 2147483647) (h2 : -2147483648 ≤ l ∧ l ≤ 2147483647) (h3 : -2147483648 ≤ a ∧ a ≤ 2147483647) : ∃ m', cB Q0 (d + 3) 170 [.ref 177, .int (J p), .int (J l), .int (J a)] m = some (some (.int (J (seeA A p l a))), m') ∧ ViewN sh h L A m' ∧ RwN (seeS A p l a) m' ∧ FrR seK seI m m' := by
  have i0 := hI.1.1
  have iq := hI.2.2.2.1.1
  have r0 := hW.1.1
  have e1 := S_114 (d := d) hV.1.1.1 i0.1 i0.2 h1.1 h1.2
  have e2 := S_109 (m := m) (d := d + 1) h2.1 h2.2 (show -2147483648 ≤ (0 : Int) by omega) (by omega) (show -2147483648 ≤ (1 : Int) by omega) (by omega)
  have e3 := S_109 (m := m) (d := d + 1) h3.1 h3.2 (show -2147483648 ≤ (0 : Int) by omega) (by omega) (show -2147483648 ≤ (9999 : Int) by omega) (by omega)
  have nm : ∀ {α : Type} (x y : α), bT (Q0.1 0 (J p) (-1)) x y = if p = -1 then x else y := fun x y => q0_J (b := -1) (by omega) (by omega) (by omega) (by omega) x y
  have fv : ∀ m', FrR seK seI m m' → ViewN sh h L A m' := fun m' hf => ⟨hV.1.fr hf (fun k g1 g2 => by unfold seK at g2; omega) (fun i g1 g2 => by unfold seI at g2; omega), hV.2.fr hf (fun k g1 g2 g3 => by unfold seK at g3; omega) (by unfold seI; omega)⟩
  rw [cB_eq]
  show ∃ m', rB Q0 170 (cB Q0 (d + 2)) 0 [some (.ref 177), some (.int (J p)), some (.int (J l)), some (.int (J a))] m = _ ∧ _
  rw [T_170_0, nm]
  unfold seeA seeS
  by_cases c0 : p = -1
  · rw [if_pos c0, if_pos c0, if_pos c0]
    have hf : FrR seK seI m (up2 m.1 177 41 (J 0), m.2) := FrR.put7 (KI := seI) (i := 41) rfl _
    refine ⟨(up2 m.1 177 41 (J 0), m.2), rfl, fv _ hf, ⟨⟨?_, fun k g0 g1 j g2 g3 => ?_⟩, ⟨?_, fun j g2 g3 => ?_⟩, ⟨?_, fun j g2 g3 => ?_⟩⟩, hf⟩
    · show up2 m.1 177 41 (J 0) 177 41 = J (upH (A.2.2 0) 0 0 0 0 0)
      rw [u2_at, if_pos rfl]
      rfl
    · have e0 : upH (A.2.2 0) 0 0 0 0 0 = 0 := if_pos ⟨rfl, rfl⟩
      have g4 : j < upH (A.2.2 0) 0 0 0 0 0 := g3
      omega
    · rw [hf.2.1 45 (by unfold seI; omega)]; exact hW.2.1.1
    · rw [hf.1 206 (by unfold seK; omega) (by omega), hf.1 207 (by unfold seK; omega) (by omega)]; exact hW.2.1.2 j g2 g3
    · rw [hf.2.1 46 (by unfold seI; omega)]; exact hW.2.2.1
    · rw [hf.1 208 (by unfold seK; omega) (by omega), hf.1 209 (by unfold seK; omega) (by omega)]; exact hW.2.2.2 j g2 g3
  · rw [if_neg c0, if_neg c0, if_neg c0, e1, bI_e, nz_bi]
    by_cases c1 : 0 ≤ p ∧ p ≤ A.1 0 0 - 1
    · rw [if_pos c1, if_pos c1, if_pos c1, show cB Q0 (d + 2) 109 [.ref 177, .int (J l), .int 0, .int 1] m = _ from e2, bI_e, nz_bi]
      by_cases c2 : 0 ≤ l ∧ l ≤ 1
      · rw [if_pos c2, if_pos c2, if_pos c2, show cB Q0 (d + 2) 109 [.ref 177, .int (J a), .int 0, .int 9999] m = _ from e3, bI_e, nz_bi]
        by_cases c3 : 0 ≤ a ∧ a ≤ 9999
        · rw [if_pos c3, if_pos c3, if_pos c3]
          by_cases c4 : 5 ≤ A.2.2 0 0 0
          · rw [if_pos c4, if_pos c4]
            refine ⟨m, ?_, hV, hW, FrR.rf⟩
            simp only [lits]
            simp (disch := omega) only [kk, lits, q0_J, q1_J, q2_J, cI_J, cT_J, cB_J, cZ_J, cS_J, c1_J, cA_J, J_clamp, u2_at, reduceIte, r0]
            rw [if_pos (show A.2.2 0 0 0 = 5 by omega)]
          · rw [if_neg c4, if_neg c4]
            have hf : FrR seK seI m (up2 (up2 (up2 (up2 m.1 203 (A.2.2 0 0 0).toNat (J p)) 204 (A.2.2 0 0 0).toNat (J l)) 205 (A.2.2 0 0 0).toNat (J a)) 177 41 (J (A.2.2 0 0 0 + 1)), m.2) := ⟨fun k g1 g2 => by
              unfold seK at g1
              simp (disch := omega) only [u2_ne], fun i g1 => by
              unfold seI at g1
              simp (disch := omega) only [u2_at, u2_ne]
              rw [if_neg g1], rfl⟩
            refine ⟨_, ?_, fv _ hf, ⟨⟨?_, fun k g0 g1 j g2 g3 => ?_⟩, ⟨?_, fun j g2 g3 => ?_⟩, ⟨?_, fun j g2 g3 => ?_⟩⟩, hf⟩
            · simp only [lits]
              simp (disch := omega) only [kk, lits, q0_J, q1_J, q2_J, cI_J, cT_J, cB_J, cZ_J, cS_J, c1_J, cA_J, J_clamp, u2_at, reduceIte, r0, u2_ne]
              rw [if_neg (show ¬ A.2.2 0 0 0 = 5 by omega)]
            · simp (disch := omega) only [u2_at]
              simp [upRw, addR]
            · have e0 : (upRw A 0 (addR (A.2.2 0) p l a)).2.2 0 0 0 = A.2.2 0 0 0 + 1 := by simp [upRw, addR]
              rw [e0] at g3
              have e5 : (upRw A 0 (addR (A.2.2 0) p l a)).2.2 0 k j = if j = A.2.2 0 0 0 then (if k = 1 then p else if k = 2 then l else a) else A.2.2 0 k j := by
                show addR (A.2.2 0) p l a k j = _
                unfold addR
                rw [if_neg (by omega)]
              rw [e5]
              rcases (show k = 1 ∨ k = 2 ∨ k = 3 by omega) with rfl | rfl | rfl
              · simp (disch := omega) only [u2_ne, u2_at]
                by_cases c : j = A.2.2 0 0 0
                · rw [if_pos (by omega), if_pos c]; simp
                · rw [if_neg (by omega), if_neg c]; exact hW.1.2 1 (by omega) (by omega) j g2 (by omega)
              · simp (disch := omega) only [u2_ne, u2_at]
                by_cases c : j = A.2.2 0 0 0
                · rw [if_pos (by omega), if_pos c]; simp
                · rw [if_neg (by omega), if_neg c]; exact hW.1.2 2 (by omega) (by omega) j g2 (by omega)
              · simp (disch := omega) only [u2_ne, u2_at]
                by_cases c : j = A.2.2 0 0 0
                · rw [if_pos (by omega), if_pos c]; simp
                · rw [if_neg (by omega), if_neg c]; exact hW.1.2 3 (by omega) (by omega) j g2 (by omega)
            · rw [hf.2.1 45 (by unfold seI; omega)]; exact hW.2.1.1
            · rw [hf.1 206 (by unfold seK; omega) (by omega), hf.1 207 (by unfold seK; omega) (by omega)]; exact hW.2.1.2 j g2 g3
            · rw [hf.2.1 46 (by unfold seI; omega)]; exact hW.2.2.1
            · rw [hf.1 208 (by unfold seK; omega) (by omega), hf.1 209 (by unfold seK; omega) (by omega)]; exact hW.2.2.2 j g2 g3
        · rw [if_neg c3, if_neg c3, if_neg c3]
          exact ⟨m, rfl, hV, hW, FrR.rf⟩
      · rw [if_neg c2, if_neg c2, if_neg c2]
        exact ⟨m, rfl, hV, hW, FrR.rf⟩
    · rw [if_neg c1, if_neg c1, if_neg c1]
      exact ⟨m, rfl, hV, hW, FrR.rf⟩
end
