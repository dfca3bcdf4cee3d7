/-! THE REFERENCE: SHADE and OF -/
section
variable {m : SM} {d : Nat} {A : Shp} {sh h : Int} {L : Cla}
theorem S_150 (hI : ShI A) (hV : ViewN sh h L A m) {p dr l : Int} (h1 : -2147483648 ≤ p ∧ p ≤ 2147483647) (h2 : -2147483648 ≤ dr ∧ dr ≤ 2147483647) (h3 : -2147483648 ≤ l ∧ l ≤ 2147483647) : ∃ m', cB Q0 (d + 5) 150 [.ref 177, .int (J p), .int (J dr), .int (J l)] m = some (some (.int (J (shadeA A (clsL L) p dr l))), m') ∧ FrR piK noI m m' := by
  have i0 := hI.1.1
  have e1 := S_114 (d := d + 2) hV.1.1.1 i0.1 i0.2 h1.1 h1.2
  have e2 := S_115 (m := m) (d := d + 2) h2.1 h2.2
  have e3 := S_109 (m := m) (d := d + 3) h3.1 h3.2 (show -2147483648 ≤ (0 : Int) by omega) (by omega) (show -2147483648 ≤ (1 : Int) by omega) (by omega)
  rw [cB_eq]
  show ∃ m', rB Q0 150 (cB Q0 (d + 4)) 0 [some (.ref 177), some (.int (J p)), some (.int (J dr)), some (.int (J l))] m = _ ∧ _
  rw [T_150_0, e1, bI_e, nz_bi]
  unfold shadeA
  by_cases c1 : 0 ≤ p ∧ p ≤ A.1 0 0 - 1
  · rw [if_pos c1, if_neg (fun z => z c1), e2, bI_e, nz_bi]
    by_cases c2 : 0 ≤ dr ∧ dr ≤ 7
    · rw [if_pos c2, if_neg (fun z => z c2), show cB Q0 (d + 4) 109 [.ref 177, .int (J l), .int 0, .int 1] m = _ from e3, bI_e, nz_bi]
      by_cases c3 : 0 ≤ l ∧ l ≤ 1
      · rw [if_pos c3, if_neg (fun z => z c3)]
        obtain ⟨m', q1, q2⟩ := S_149 (d := d) hI hV (p := p) (dr := dr) (l := l) ⟨c1.1, by omega⟩ c2 c3
        exact ⟨m', by rw [q1, bI_e], q2⟩
      · rw [if_neg c3, if_pos c3]
        exact ⟨m, rfl, FrR.rf⟩
    · rw [if_neg c2, if_pos c2]
      exact ⟨m, rfl, FrR.rf⟩
  · rw [if_neg c1, if_pos c1]
    exact ⟨m, rfl, FrR.rf⟩
theorem S_162 (hI : ShI A) (hV : ViewN sh h L A m) (ht : ThI (rainL 0 L, clsL L)) (h32 : m.1 177 32 = J 9999) (g1 : A.1 0 1 ≤ 9999) (g2 : A.1 0 2 ≤ 9999) {p w : Int} (h1 : -2147483648 ≤ p ∧ p ≤ 2147483647) (h2 : -2147483648 ≤ w ∧ w ≤ 2147483647) : ∃ m', cB Q0 (d + 7) 162 [.ref 177, .int (J p), .int (J w)] m = some (some (.int (J (ofA A (rainL 0 L) (clsL L) p w))), m') ∧ BK m m' := by
  have i0 := hI.1.1
  have e1 := S_114 (d := d + 4) hV.1.1.1 i0.1 i0.2 h1.1 h1.2
  have e2 := S_109 (m := m) (d := d + 5) h2.1 h2.2 (show -2147483648 ≤ (10 : Int) by omega) (by omega) (show -2147483648 ≤ (17 : Int) by omega) (by omega)
  have e3 := S_109 (m := m) (d := d + 5) h2.1 h2.2 (show -2147483648 ≤ (20 : Int) by omega) (by omega) (show -2147483648 ≤ (27 : Int) by omega) (by omega)
  rw [cB_eq]
  show ∃ m', rB Q0 162 (cB Q0 (d + 6)) 0 [some (.ref 177), some (.int (J p)), some (.int (J w))] m = _ ∧ _
  rw [T_162_0, e1, bI_e, nz_bi]
  unfold ofA
  by_cases c1 : 0 ≤ p ∧ p ≤ A.1 0 0 - 1
  · rw [if_pos c1, if_neg (fun z => z c1)]
    have hp : 0 ≤ p ∧ p < A.1 0 0 := ⟨c1.1, by omega⟩
    have p6 : p < (6 : Nat) := by omega
    have hHI := hI.2.2.1 p hp.1 hp.2
    have hHR := hV.1.2.2.1 p hp.1 hp.2
    have e5 := S_151 (d := d + 5) (p := p) ⟨hp.1, by omega⟩ hHR hHI
    have ek := hV.1.2.2.2.2 p hp.1 hp.2
    have e4 := S_110 (m := m) (d := d + 5) hV.1.2.2.2.1.1 hV.1.2.2.2.1.2 hp.1 (show p < 6 by omega)
    have hsh := hV.1.1.2.1
    obtain ⟨⟨a0, a1, a2, a3⟩, r1, r2, r3⟩ := hHR
    have cI : ∀ {α : Type} (x y : α), bT (okI Q0 (.inr (0, 6)) (J p)) x y = x := fun x y => cI_J hp.1 p6 (by omega) x y
    have cP := J_clamp (a := p) hp.1 (by omega)
    rw [show cB Q0 (d + 6) 109 [.ref 177, .int (J w), .int 10, .int 17] m = _ from e2, bI_e, nz_bi]
    by_cases c2 : 10 ≤ w ∧ w ≤ 17
    · rw [if_pos c2, if_pos c2]
      have hb := hHI.2.2 (w - 10) (by omega) (by omega)
      have hr3 := r3 (w - 10) (by omega) (by omega)
      have hr2 := r2 (w - 10) (by omega) (by omega)
      rw [show 8 * p + (w - 10) = 8 * p + w - 10 by omega] at hr2 hr3
      refine ⟨m, ?_, BK.rf⟩
      simp only [lits]
      simp (disch := omega) only [kk, lits, q0_J, q1_J, q2_J, cI_J, cT_J, cB_J, cZ_J, cS_J, c1_J, cA_J, J_clamp, u2_at, reduceIte, hr3]
      by_cases c3 : A.2.1 p 2 (w - 10) = -1
      · rw [if_pos c3, if_pos (show A.2.1 p 3 (w - 10) ≤ 0 by omega)]
      · rw [if_neg c3, if_neg (show ¬ A.2.1 p 3 (w - 10) ≤ 0 by omega), hr2 c3]
    · rw [if_neg c2, if_neg c2]
      rw [show cB Q0 (d + 6) 109 [.ref 177, .int (J w), .int 20, .int 27] m = _ from e3, bI_e, nz_bi]
      by_cases c3 : 20 ≤ w ∧ w ≤ 27
      · rw [if_pos c3, if_pos c3]
        have hr3 := r3 (w - 20) (by omega) (by omega)
        rw [show 8 * p + (w - 20) = 8 * p + w - 20 by omega] at hr3
        refine ⟨m, ?_, BK.rf⟩
        simp only [lits]
        simp (disch := omega) only [kk, lits, q0_J, q1_J, q2_J, cI_J, cT_J, cB_J, cZ_J, cS_J, c1_J, cA_J, J_clamp, u2_at, reduceIte, hr3]
      · rw [if_neg c3, if_neg c3]
        unfold ofB
        have q : ∀ {α : Type} (k : Int) (x y : α), -100 ≤ k → k ≤ 100 → bT (Q0.1 0 (J w) (J k)) x y = if w = k then x else y := fun k x y g0 g1 => q0_J h2.1 h2.2 (by omega) (by omega) x y
        have n0 : ∀ {α : Type} (x y : α), bT (Q0.1 0 (J w) 0) x y = if w = 0 then x else y := fun x y => q 0 x y (by omega) (by omega)
        have n1 : ∀ {α : Type} (x y : α), bT (Q0.1 0 (J w) 1) x y = if w = 1 then x else y := fun x y => q 1 x y (by omega) (by omega)
        have n2 : ∀ {α : Type} (x y : α), bT (Q0.1 0 (J w) 2) x y = if w = 2 then x else y := fun x y => q 2 x y (by omega) (by omega)
        have n3 : ∀ {α : Type} (x y : α), bT (Q0.1 0 (J w) 3) x y = if w = 3 then x else y := fun x y => q 3 x y (by omega) (by omega)
        have n4 : ∀ {α : Type} (x y : α), bT (Q0.1 0 (J w) 4) x y = if w = 4 then x else y := fun x y => q 4 x y (by omega) (by omega)
        have n5 : ∀ {α : Type} (x y : α), bT (Q0.1 0 (J w) 5) x y = if w = 5 then x else y := fun x y => q 5 x y (by omega) (by omega)
        have n6 : ∀ {α : Type} (x y : α), bT (Q0.1 0 (J w) 6) x y = if w = 6 then x else y := fun x y => q 6 x y (by omega) (by omega)
        have n7 : ∀ {α : Type} (x y : α), bT (Q0.1 0 (J w) 7) x y = if w = 7 then x else y := fun x y => q 7 x y (by omega) (by omega)
        have n8 : ∀ {α : Type} (x y : α), bT (Q0.1 0 (J w) 8) x y = if w = 8 then x else y := fun x y => q 8 x y (by omega) (by omega)
        have n9 : ∀ {α : Type} (x y : α), bT (Q0.1 0 (J w) 9) x y = if w = 9 then x else y := fun x y => q 9 x y (by omega) (by omega)
        by_cases k0 : w = 0
        · rw [n0, if_pos k0, if_pos k0]
          exact ⟨m, by rw [cI, cP, bX_e, a0], BK.rf⟩
        · rw [n0, if_neg k0, if_neg k0]
          by_cases k1 : w = 1
          · rw [n1, if_pos k1, if_pos k1]
            exact ⟨m, by rw [cI, cP, bX_e, a1], BK.rf⟩
          · rw [n1, if_neg k1, if_neg k1]
            by_cases k2 : w = 2
            · rw [n2, if_pos k2, if_pos k2]
              exact ⟨m, by rw [cI, cP, bX_e, a2], BK.rf⟩
            · rw [n2, if_neg k2, if_neg k2]
              by_cases k3 : w = 3
              · rw [n3, if_pos k3, if_pos k3]
                exact ⟨m, by rw [cI, cP, bX_e, a3], BK.rf⟩
              · rw [n3, if_neg k3, if_neg k3]
                by_cases k4 : w = 4
                · rw [n4, if_pos k4, if_pos k4]
                  refine ⟨m, ?_, BK.rf⟩
                  rw [hsh, bX_e, e4, bI_e, nz_bi, ← ek]
                  rcases bitP_in sh p with z | z
                  · rw [if_neg (by omega), z]
                    rfl
                  · rw [if_pos z, z]
                    rfl
                · rw [n4, if_neg k4, if_neg k4]
                  by_cases k5 : w = 5
                  · rw [n5, if_pos k5, if_pos k5]
                    exact ⟨m, by rw [e5, bI_e], BK.rf⟩
                  · rw [n5, if_neg k5, if_neg k5]
                    by_cases k6 : w = 6
                    · rw [n6, if_pos k6, if_pos k6]
                      obtain ⟨m', q1, q2⟩ := S_153 (d := d) hI hV ht (p := p) (l := 0) hp (by omega)
                      exact ⟨m', by rw [show cB Q0 (d + 6) 153 [.ref 177, .int (J p), .int 0] m = _ from q1, bI_e], BK.of q2⟩
                    · rw [n6, if_neg k6, if_neg k6]
                      by_cases k7 : w = 7
                      · rw [n7, if_pos k7, if_pos k7]
                        obtain ⟨m', q1, q2⟩ := S_153 (d := d) hI hV ht (p := p) (l := 1) hp (by omega)
                        exact ⟨m', by rw [show cB Q0 (d + 6) 153 [.ref 177, .int (J p), .int 1] m = _ from q1, bI_e], BK.of q2⟩
                      · rw [n7, if_neg k7, if_neg k7]
                        by_cases k8 : w = 8
                        · rw [n8, if_pos k8, if_pos k8]
                          obtain ⟨m', q1, q2⟩ := S_160 (d := d + 2) hI hV h32 (p := p) hp g1 g2
                          exact ⟨m', by rw [q1, bI_e], q2⟩
                        · rw [n8, if_neg k8, if_neg k8]
                          by_cases k9 : w = 9
                          · rw [n9, if_pos k9, if_pos k9]
                            obtain ⟨m', q1, q2⟩ := S_161 (d := d + 1) hI hV ht (p := p) hp
                            exact ⟨m', by rw [q1, bI_e], BK.of q2⟩
                          · rw [n9, if_neg k9, if_neg k9]
                            exact ⟨m, rfl, BK.rf⟩
  · rw [if_neg c1, if_pos c1]
    exact ⟨m, rfl, BK.rf⟩
end
