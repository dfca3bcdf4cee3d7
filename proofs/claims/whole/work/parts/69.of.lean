/-! SHADE and OF, on both sides -/
def shadeA (A : Shp) (c : Cls) (p dr l : Int) : Int := if ¬ (0 ≤ p ∧ p ≤ A.1 0 0 - 1) then -10001 else if ¬ (0 ≤ dr ∧ dr ≤ 7) then -10001 else if ¬ (0 ≤ l ∧ l ≤ 1) then -10001 else toneA A c p dr l
def ofB (A : Shp) (rain : Int) (c : Cls) (p w : Int) : Int := if w = 0 then A.2.1 p 0 0 else if w = 1 then A.2.1 p 0 1 else if w = 2 then A.2.1 p 0 2 else if w = 3 then A.2.1 p 0 3 else if w = 4 then A.2.1 p 0 4 else if w = 5 then hairs (A.2.1 p) else if w = 6 then offA A c p 0 (-1) else if w = 7 then offA A c p 1 (-1) else if w = 8 then baldA A rain p else if w = 9 then nearA A c p else -10001
def ofA (A : Shp) (rain : Int) (c : Cls) (p w : Int) : Int := if ¬ (0 ≤ p ∧ p ≤ A.1 0 0 - 1) then -10001 else if 10 ≤ w ∧ w ≤ 17 then (if A.2.1 p 2 (w - 10) = -1 then -5 else A.2.1 p 2 (w - 10)) else if 20 ≤ w ∧ w ≤ 27 then A.2.1 p 3 (w - 20) else ofB A rain c p w
section
variable {m : SM} {d : Nat} {n : Int} {T : Int × Cls} {A : Shp}
theorem S_86J {z : Int} (h : z = 0 ∨ z = 1) : cB Q0 (d + 1) 86 [.int (J z)] m = some (some (.int (J z)), m) := by
  rcases h with rfl | rfl
  · exact S_86 (m := m) (d := d) (0 = (1 : Nat))
  · exact S_86 (m := m) (d := d) (0 = (0 : Nat))
theorem S_52 (hI : ShI A) (hV : View 1 n T A m) {p dr l : Int} (h1 : -2147483648 ≤ p ∧ p ≤ 2147483647) (h2 : -2147483648 ≤ dr ∧ dr ≤ 2147483647) (h3 : -2147483648 ≤ l ∧ l ≤ 2147483647) : ∃ m', cB Q0 (d + 4) 52 [.ref 0, .int (J p), .int (J dr), .int (J l)] m = some (some (.int (J (shadeA A T.2 p dr l))), m') ∧ Fr scK m m' := by
  have i0 := hI.1.1
  have e1 := S_87 (d := d + 1) hV.1.1.1 i0.1 i0.2 h1.1 h1.2
  have e2 := S_88 (m := m) (d := d + 1) h2.1 h2.2
  have e3 := S_89 (m := m) (d := d + 1) h3.1 h3.2
  have w1 : ((1 : Int) = 0) = False := by simp
  rw [cB_eq]
  show ∃ m', rB Q0 52 (cB Q0 (d + 3)) 0 [some (.ref 0), some (.int (J p)), some (.int (J dr)), some (.int (J l))] m = _ ∧ _
  rw [T_52_0]
  unfold shadeA
  by_cases c1 : 0 ≤ p ∧ p ≤ A.1 0 0 - 1
  · rw [if_neg (fun z => z c1)]
    by_cases c2 : 0 ≤ dr ∧ dr ≤ 7
    · rw [if_neg (fun z => z c2)]
      by_cases c3 : 0 ≤ l ∧ l ≤ 1
      · rw [if_neg (fun z => z c3)]
        obtain ⟨m', q1, q2⟩ := S_93 (d := d) (Or.inl rfl) hV.1 hI hV.2 (p := p) (dr := dr) (l := l) ⟨c1.1, by omega⟩ c2 c3
        refine ⟨m', ?_, scK_of q2 fun k hk => by omega⟩
        simp only [lits]
        simp (disch := omega) only [kk, lits, q0_J, q1_J, q2_J, cI_J, cT_J, cB_J, cZ_J, cS_J, c1_J, cA_J, J_clamp, u2_at, reduceIte, e1, e2, e3, bi, if_pos c1, if_pos c2, if_pos c3, w1, if_false, q1]
      · rw [if_pos c3]
        refine ⟨m, ?_, Fr.rf⟩
        simp only [lits]
        simp (disch := omega) only [kk, lits, q0_J, q1_J, q2_J, cI_J, cT_J, cB_J, cZ_J, cS_J, c1_J, cA_J, J_clamp, u2_at, reduceIte, e1, e2, e3, bi, if_pos c1, if_pos c2, if_neg c3, w1, if_false]
    · rw [if_pos c2]
      refine ⟨m, ?_, Fr.rf⟩
      simp only [lits]
      simp (disch := omega) only [kk, lits, q0_J, q1_J, q2_J, cI_J, cT_J, cB_J, cZ_J, cS_J, c1_J, cA_J, J_clamp, u2_at, reduceIte, e1, e2, e3, bi, if_pos c1, if_neg c2, w1, if_false]
  · rw [if_pos c1]
    refine ⟨m, ?_, Fr.rf⟩
    simp only [lits]
    simp (disch := omega) only [kk, lits, q0_J, q1_J, q2_J, cI_J, cT_J, cB_J, cZ_J, cS_J, c1_J, cA_J, J_clamp, u2_at, reduceIte, e1, bi, if_neg c1]
theorem S_51 (hI : ShI A) (hV : View 1 n T A m) (g1 : A.1 0 1 ≤ 9999) (g2 : A.1 0 2 ≤ 9999) {p w : Int} (h1 : -2147483648 ≤ p ∧ p ≤ 2147483647) (h2 : -2147483648 ≤ w ∧ w ≤ 2147483647) : ∃ m', cB Q0 (d + 6) 51 [.ref 0, .int (J p), .int (J w)] m = some (some (.int (J (ofA A T.1 T.2 p w))), m') ∧ Fr scK m m' := by
  have i0 := hI.1.1
  have e1 := S_87 (d := d + 3) hV.1.1.1 i0.1 i0.2 h1.1 h1.2
  have e2 := S_85 (m := m) (d := d + 4) h2.1 h2.2 (show -2147483648 ≤ (10 : Int) by omega) (by omega) (show -2147483648 ≤ (17 : Int) by omega) (by omega)
  have e3 := S_85 (m := m) (d := d + 4) h2.1 h2.2 (show -2147483648 ≤ (20 : Int) by omega) (by omega) (show -2147483648 ≤ (27 : Int) by omega) (by omega)
  have w1 : ((1 : Int) = 0) = False := by simp
  rw [cB_eq]
  show ∃ m', rB Q0 51 (cB Q0 (d + 5)) 0 [some (.ref 0), some (.int (J p)), some (.int (J w))] m = _ ∧ _
  rw [T_51_0, e1, bI_e, nz_bi]
  unfold ofA
  by_cases c1 : 0 ≤ p ∧ p ≤ A.1 0 0 - 1
  · rw [if_pos c1, if_neg (fun z => z c1)]
    have hp : 0 ≤ p ∧ p < A.1 0 0 := ⟨c1.1, by omega⟩
    have g : GRt 5 p.toNat = some (hd 1 p) := hd_g (s := 1) (Or.inl rfl) c1.1 (by omega)
    have hF := hd_F (s := 1) (Or.inl rfl) c1.1 (show p < 6 by omega)
    have hHI := hI.2.2.1 p hp.1 hp.2
    have hHR := hV.1.2.2.1 p hp.1 hp.2
    have e5 := S_8 hF hHR hHI (d + 4)
    obtain ⟨⟨f1, f2, f3, f4⟩, f5, f6, f7⟩ := hF
    obtain ⟨⟨a0, a1, a2, a3, a4⟩, r1, r2, r3⟩ := hHR
    have e4 := S_86J (m := m) (d := d + 4) hHI.1.2.2.2.2
    rw [cA_J (t := 4) (n := 6) (by omega) (by omega) c1.1 (show p < (6 : Nat) by omega) (by omega), J_clamp c1.1 (by omega), g, bO_e]
    rw [show cB Q0 (d + 5) 85 [.int (J w), .int 10, .int 17] m = _ from e2, bI_e, nz_bi]
    by_cases c2 : 10 ≤ w ∧ w ≤ 17
    · rw [if_pos c2, if_pos c2]
      have hr := r2 (w - 10) (by omega) (by omega)
      have hb := hHI.2.2 (w - 10) (by omega) (by omega)
      refine ⟨m, ?_, Fr.rf⟩
      simp only [lits]
      simp (disch := omega) only [kk, lits, q0_J, q1_J, q2_J, cI_J, cT_J, cB_J, cZ_J, cS_J, c1_J, cA_J, J_clamp, u2_at, reduceIte, f1, f3, f6, cO_J, hr]
      split <;> rfl
    · rw [if_neg c2, if_neg c2]
      rw [show cB Q0 (d + 5) 85 [.int (J w), .int 20, .int 27] m = _ from e3, bI_e, nz_bi]
      by_cases c3 : 20 ≤ w ∧ w ≤ 27
      · rw [if_pos c3, if_pos c3]
        have hr := r3 (w - 20) (by omega) (by omega)
        refine ⟨m, ?_, Fr.rf⟩
        simp only [lits]
        simp (disch := omega) only [kk, lits, q0_J, q1_J, q2_J, cI_J, cT_J, cB_J, cZ_J, cS_J, c1_J, cA_J, J_clamp, u2_at, reduceIte, f1, f4, f7, cO_J, hr]
      · rw [if_neg c3, if_neg c3]
        unfold ofB
        have q : ∀ {α : Type} (k : Int) (x y : α), -100 ≤ k → k ≤ 100 → bT (Q0.1 0 (J w) (J k)) x y = if w = k then x else y := fun k x y g0 g1 => q0_J h2.1 h2.2 (by omega) (by omega) x y
        have n0 : ∀ {α : Type} (x y : α), bT (Q0.1 0 (J w) 0) x y = if w = 0 then x else y := fun x y => q 0 x y (by omega) (by omega)
        have n1 : ∀ {α : Type} (x y : α), bT (Q0.1 0 (J w) 1) x y = if w = 1 then x else y := fun x y => q 1 x y (by omega) (by omega)
        have n2 : ∀ {α : Type} (x y : α), bT (Q0.1 0 (J w) 2) x y = if w = 2 then x else y := fun x y => q 2 x y (by omega) (by omega)
        have n3 : ∀ {α : Type} (x y : α), bT (Q0.1 0 (J w) 3) x y = if w = 3 then x else y := fun x y => q 3 x y (by omega) (by omega)
        have n4 : ∀ {α : Type} (x y : α), bT (Q0.1 0 (J w) 4) x y = if w = 4 then x else y := fun x y => q 4 x y (by omega) (by omega)
        have n5 : ∀ {α : Type} (x y : α), bT (Q0.1 0 (J w) 5) x y = if w = 5 then x else y := fun x y => q 5 x y (by omega) (by omega)
        have n6 : ∀ {α : Type} (x y : α), bT (Q0.1 0 (J w) 6) x y = if w = 6 then x else y := fun x y => q 6 x y (by omega) (by omega)
        have n7 : ∀ {α : Type} (x y : α), bT (Q0.1 0 (J w) 7) x y = if w = 7 then x else y := fun x y => q 7 x y (by omega) (by omega)
        have n8 : ∀ {α : Type} (x y : α), bT (Q0.1 0 (J w) 8) x y = if w = 8 then x else y := fun x y => q 8 x y (by omega) (by omega)
        have n9 : ∀ {α : Type} (x y : α), bT (Q0.1 0 (J w) 9) x y = if w = 9 then x else y := fun x y => q 9 x y (by omega) (by omega)
        by_cases k0 : w = 0
        · rw [n0, if_pos k0, if_pos k0]
          exact ⟨m, by rw [f1, cO_J, bX_e, a0], Fr.rf⟩
        · rw [n0, if_neg k0, if_neg k0]
          by_cases k1 : w = 1
          · rw [n1, if_pos k1, if_pos k1]
            exact ⟨m, by rw [f1, cO_J, bX_e, a1], Fr.rf⟩
          · rw [n1, if_neg k1, if_neg k1]
            by_cases k2 : w = 2
            · rw [n2, if_pos k2, if_pos k2]
              exact ⟨m, by rw [f1, cO_J, bX_e, a2], Fr.rf⟩
            · rw [n2, if_neg k2, if_neg k2]
              by_cases k3 : w = 3
              · rw [n3, if_pos k3, if_pos k3]
                exact ⟨m, by rw [f1, cO_J, bX_e, a3], Fr.rf⟩
              · rw [n3, if_neg k3, if_neg k3]
                by_cases k4 : w = 4
                · rw [n4, if_pos k4, if_pos k4]
                  exact ⟨m, by rw [f1, cO_J, bX_e, a4, e4, bI_e], Fr.rf⟩
                · rw [n4, if_neg k4, if_neg k4]
                  by_cases k5 : w = 5
                  · rw [n5, if_pos k5, if_pos k5]
                    exact ⟨m, by rw [f1, cO_J, e5, bI_e], Fr.rf⟩
                  · rw [n5, if_neg k5, if_neg k5]
                    by_cases k6 : w = 6
                    · rw [n6, if_pos k6, if_pos k6]
                      obtain ⟨m', q1, q2⟩ := S_95 (d := d) (Or.inl rfl) hI hV (p := p) (l := 0) hp (by omega)
                      exact ⟨m', by rw [show cB Q0 (d + 5) 95 [.ref 0, .ref 1, .int (J p), .int 0] m = _ from q1, bI_e], scK_of q2 fun k hk => by unfold kT at hk; omega⟩
                    · rw [n6, if_neg k6, if_neg k6]
                      by_cases k7 : w = 7
                      · rw [n7, if_pos k7, if_pos k7]
                        obtain ⟨m', q1, q2⟩ := S_95 (d := d) (Or.inl rfl) hI hV (p := p) (l := 1) hp (by omega)
                        exact ⟨m', by rw [show cB Q0 (d + 5) 95 [.ref 0, .ref 1, .int (J p), .int 1] m = _ from q1, bI_e], scK_of q2 fun k hk => by unfold kT at hk; omega⟩
                      · rw [n7, if_neg k7, if_neg k7]
                        by_cases k8 : w = 8
                        · rw [n8, if_pos k8, if_pos k8]
                          obtain ⟨m', q1, q2⟩ := S_98 (d := d) hI hV (p := p) hp g1 g2
                          exact ⟨m', by rw [q1, bI_e], scK_of q2 fun k hk => by unfold sK at hk; omega⟩
                        · rw [n8, if_neg k8, if_neg k8]
                          by_cases k9 : w = 9
                          · rw [n9, if_pos k9, if_pos k9]
                            obtain ⟨m', q1, q2⟩ := S_96 (d := d + 1) hI hV (p := p) hp
                            exact ⟨m', by rw [q1, bI_e], scK_of q2 fun k hk => by unfold kT at hk; omega⟩
                          · rw [n9, if_neg k9, if_neg k9]
                            exact ⟨m, rfl, Fr.rf⟩
  · rw [if_neg c1, if_pos c1]
    exact ⟨m, rfl, Fr.rf⟩
end
