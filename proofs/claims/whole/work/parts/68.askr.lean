/-! MEAN of the class; CAN, ODDS, MEAN of the reference -/
section
variable {m : SM} {d : Nat} {n : Int} {T : Int × Cls} {A : Shp}
theorem S_69 (hI : ShI A) (hV : View 1 n T A m) {l w : Int} (h2 : -2147483648 ≤ l ∧ l ≤ 2147483647) (h3 : -2147483648 ≤ w ∧ w ≤ 2147483647) : ∃ m', cB Q0 (d + 8) 69 [.ref 0, .int (J l), .int (J w)] m = some (some (.long (meanA A T.2 l w)), m') ∧ Fr scK m m' := by
  have i0 := hI.1.1
  have e2 := S_89 (m := m) (d := d + 5) h2.1 h2.2
  have e3 := S_85 (m := m) (d := d + 6) h3.1 h3.2 (show -2147483648 ≤ (0 : Int) by omega) (by omega) (show -2147483648 ≤ (1 : Int) by omega) (by omega)
  have w1 : ((1 : Int) = 0) = False := by simp
  have hc := hV.1.1.1
  rw [cB_eq]
  show ∃ m', rB Q0 69 (cB Q0 (d + 7)) 0 [some (.ref 0), some (.int (J l)), some (.int (J w))] m = _ ∧ _
  rw [T_69_0]
  unfold meanA
  by_cases c2 : 0 ≤ l ∧ l ≤ 1
  · rw [if_neg (fun z => z c2)]
    by_cases c3 : 0 ≤ w ∧ w ≤ 1
    · rw [if_neg (fun z => z c3)]
      by_cases c4 : A.1 0 0 = 0
      · rw [if_pos c4]
        refine ⟨m, ?_, Fr.rf⟩
        simp only [lits]
        simp (disch := omega) only [kk, lits, q0_J, q1_J, q2_J, cI_J, cT_J, cB_J, cZ_J, cS_J, c1_J, cA_J, J_clamp, u2_at, reduceIte, e2, e3, bi, if_pos c2, if_pos c3, w1, if_false, hc]
        rw [if_pos c4]
      · rw [if_neg c4]
        have L : ∀ (N : Nat) (q s : Int) (m : SM), View 1 n T A m → 0 ≤ q → q + N = A.1 0 0 → 0 ≤ s → s ≤ 900000 * q → ∃ m', rB Q0 69 (cB Q0 (d + 7)) 35 [some (.ref 0), some (.int (J l)), some (.int (J w)), some (.int (J s)), some (.int (J q))] m = some (some (.long (lowZ (s + sumF (fun p => offA A T.2 p l (-1)) q N) (A.1 0 0) w)), m') ∧ Fr kT m m' := by
          intro N
          induction N with
          | zero =>
            intro q s m hV g0 g1 g2 g3
            have hc := hV.1.1.1
            have e6 := S_106 (m := m) (d := d + 5) (a := s) (b := A.1 0 0) (k := w) g2 (by omega) (by omega) (by omega) h3
            refine ⟨m, ?_, Fr.rf⟩
            rw [T_69_35]
            simp (disch := omega) only [kk, lits, q0_J, q1_J, q2_J, cI_J, cT_J, cB_J, cZ_J, cS_J, c1_J, cA_J, J_clamp, u2_at, reduceIte, hc, e6]
            rw [if_pos (show A.1 0 0 ≤ q by omega)]
            simp [sumF]
          | succ N ih =>
            intro q s m hV g0 g1 g2 g3
            have hc := hV.1.1.1
            obtain ⟨m1, q1, q2⟩ := S_95 (d := d + 2) (Or.inl rfl) hI hV (p := q) (l := l) ⟨g0, by omega⟩ c2
            have ob := offA_bd hI hV.2.2.2 (p := q) (l := l) (w := -1) ⟨g0, by omega⟩
            obtain ⟨m2, q3, q4⟩ := ih (q + 1) (s + offA A T.2 q l (-1)) m1 (hV.frT (Or.inl rfl) hI q2) (by omega) (by omega) (by omega) (by omega)
            refine ⟨m2, ?_, q2.tr q4⟩
            have es : sumF (fun p => offA A T.2 p l (-1)) q (N + 1) = offA A T.2 q l (-1) + sumF (fun p => offA A T.2 p l (-1)) (q + 1) N := rfl
            rw [T_69_35, es, ← Int.add_assoc]
            simp (disch := omega) only [kk, lits, q0_J, q1_J, q2_J, cI_J, cT_J, cB_J, cZ_J, cS_J, c1_J, cA_J, J_clamp, u2_at, reduceIte, hc, q1]
            rw [if_neg (show ¬ A.1 0 0 ≤ q by omega)]
            exact q3
        obtain ⟨m', k1, k2⟩ := L (A.1 0 0).toNat 0 0 m hV (by omega) (by omega) (by omega) (by omega)
        rw [Int.zero_add] at k1
        refine ⟨m', ?_, scK_of k2 fun k hk => by unfold kT at hk; omega⟩
        simp only [lits]
        simp (disch := omega) only [kk, lits, q0_J, q1_J, q2_J, cI_J, cT_J, cB_J, cZ_J, cS_J, c1_J, cA_J, J_clamp, u2_at, reduceIte, e2, e3, bi, if_pos c2, if_pos c3, w1, if_false, hc]
        rw [if_neg c4]
        exact k1
    · rw [if_pos c3]
      refine ⟨m, ?_, Fr.rf⟩
      simp only [lits]
      simp (disch := omega) only [kk, lits, q0_J, q1_J, q2_J, cI_J, cT_J, cB_J, cZ_J, cS_J, c1_J, cA_J, J_clamp, u2_at, reduceIte, e2, e3, bi, if_pos c2, if_neg c3, w1, if_false]
  · rw [if_pos c2]
    refine ⟨m, ?_, Fr.rf⟩
    simp only [lits]
    simp (disch := omega) only [kk, lits, q0_J, q1_J, q2_J, cI_J, cT_J, cB_J, cZ_J, cS_J, c1_J, cA_J, J_clamp, u2_at, reduceIte, e2, e3, bi, if_neg c2, w1, if_false]
end
section
variable {m : SM} {d : Nat} {A : Shp} {sh h : Int} {L : Cla}
theorem S_175 (hI : ShI A) (hV : ViewN sh h L A m) (hW : RwN A m) (ht : ThI (rainL 0 L, clsL L)) {p k w : Int} (h1 : -2147483648 ≤ p ∧ p ≤ 2147483647) (h2 : -2147483648 ≤ k ∧ k ≤ 2147483647) (h3 : -2147483648 ≤ w ∧ w ≤ 2147483647) : ∃ m', cB Q0 (d + 9) 175 [.ref 177, .int (J p), .int (J k), .int (J w)] m = some (some (.int (J (canA A (clsL L) p k w))), m') ∧ FrR piK noI m m' := by
  have i0 := hI.1.1
  have e1 := S_114 (d := d + 6) hV.1.1.1 i0.1 i0.2 h1.1 h1.2
  have e2 := S_109 (m := m) (d := d + 7) h2.1 h2.2 (show -2147483648 ≤ (0 : Int) by omega) (by omega) (show -2147483648 ≤ (1 : Int) by omega) (by omega)
  have e3 := S_109 (m := m) (d := d + 7) h3.1 h3.2 (show -2147483648 ≤ (0 : Int) by omega) (by omega) (show -2147483648 ≤ (1 : Int) by omega) (by omega)
  have w1 : ((1 : Int) = 0) = False := by simp
  rw [cB_eq]
  show ∃ m', rB Q0 175 (cB Q0 (d + 8)) 0 [some (.ref 177), some (.int (J p)), some (.int (J k)), some (.int (J w))] m = _ ∧ _
  rw [T_175_0]
  unfold canA
  by_cases c1 : 0 ≤ p ∧ p ≤ A.1 0 0 - 1
  · rw [if_neg (fun z => z c1)]
    by_cases c2 : 0 ≤ k ∧ k ≤ 1
    · rw [if_neg (fun z => z c2)]
      by_cases c3 : 0 ≤ w ∧ w ≤ 1
      · rw [if_neg (fun z => z c3)]
        by_cases c4 : k = 0
        · obtain ⟨m', q1, q2⟩ := S_173 (d := d) hI hV hW ht (p := p) (w := w) ⟨c1.1, by omega⟩ h3
          refine ⟨m', ?_, q2⟩
          simp only [lits]
          simp (disch := omega) only [kk, lits, q0_J, q1_J, q2_J, cI_J, cT_J, cB_J, cZ_J, cS_J, c1_J, cA_J, J_clamp, u2_at, reduceIte, e1, e2, e3, bi, if_pos c1, if_pos c2, if_pos c3, w1, if_false, q1]
          rw [if_pos c4, if_pos c4]
        · obtain ⟨m', q1, q2⟩ := S_174 (d := d) hI hV hW ht (p := p) (w := w) ⟨c1.1, by omega⟩ h3
          refine ⟨m', ?_, q2⟩
          simp only [lits]
          simp (disch := omega) only [kk, lits, q0_J, q1_J, q2_J, cI_J, cT_J, cB_J, cZ_J, cS_J, c1_J, cA_J, J_clamp, u2_at, reduceIte, e1, e2, e3, bi, if_pos c1, if_pos c2, if_pos c3, w1, if_false, q1]
          rw [if_neg c4, if_neg c4]
      · rw [if_pos c3]
        refine ⟨m, ?_, FrR.rf⟩
        simp only [lits]
        simp (disch := omega) only [kk, lits, q0_J, q1_J, q2_J, cI_J, cT_J, cB_J, cZ_J, cS_J, c1_J, cA_J, J_clamp, u2_at, reduceIte, e1, e2, e3, bi, if_pos c1, if_pos c2, if_neg c3, w1, if_false]
    · rw [if_pos c2]
      refine ⟨m, ?_, FrR.rf⟩
      simp only [lits]
      simp (disch := omega) only [kk, lits, q0_J, q1_J, q2_J, cI_J, cT_J, cB_J, cZ_J, cS_J, c1_J, cA_J, J_clamp, u2_at, reduceIte, e1, e2, e3, bi, if_pos c1, if_neg c2, w1, if_false]
  · rw [if_pos c1]
    refine ⟨m, ?_, FrR.rf⟩
    simp only [lits]
    simp (disch := omega) only [kk, lits, q0_J, q1_J, q2_J, cI_J, cT_J, cB_J, cZ_J, cS_J, c1_J, cA_J, J_clamp, u2_at, reduceIte, e1, bi, if_neg c1]
theorem S_178 (hI : ShI A) (hV : ViewN sh h L A m) (ht : ThI (rainL 0 L, clsL L)) {p l w : Int} (h1 : -2147483648 ≤ p ∧ p ≤ 2147483647) (h2 : -2147483648 ≤ l ∧ l ≤ 2147483647) (h3 : -2147483648 ≤ w ∧ w ≤ 2147483647) : ∃ m', cB Q0 (d + 9) 178 [.ref 177, .int (J p), .int (J l), .int (J w)] m = some (some (.long (oddsA A (clsL L) p l w)), m') ∧ FrR piK noI m m' := by
  have i0 := hI.1.1
  have e1 := S_114 (d := d + 6) hV.1.1.1 i0.1 i0.2 h1.1 h1.2
  have e2 := S_109 (m := m) (d := d + 7) h2.1 h2.2 (show -2147483648 ≤ (0 : Int) by omega) (by omega) (show -2147483648 ≤ (1 : Int) by omega) (by omega)
  have e3 := S_109 (m := m) (d := d + 7) h3.1 h3.2 (show -2147483648 ≤ (0 : Int) by omega) (by omega) (show -2147483648 ≤ (1 : Int) by omega) (by omega)
  have w1 : ((1 : Int) = 0) = False := by simp
  rw [cB_eq]
  show ∃ m', rB Q0 178 (cB Q0 (d + 8)) 0 [some (.ref 177), some (.int (J p)), some (.int (J l)), some (.int (J w))] m = _ ∧ _
  rw [T_178_0]
  unfold oddsA
  by_cases c1 : 0 ≤ p ∧ p ≤ A.1 0 0 - 1
  · rw [if_neg (fun z => z c1)]
    by_cases c2 : 0 ≤ l ∧ l ≤ 1
    · rw [if_neg (fun z => z c2)]
      by_cases c3 : 0 ≤ w ∧ w ≤ 1
      · rw [if_neg (fun z => z c3)]
        have hp : 0 ≤ p ∧ p < A.1 0 0 := ⟨c1.1, by omega⟩
        obtain ⟨m1, q1, q2⟩ := S_153 (d := d + 2) hI hV ht (p := p) (l := l) hp c2
        have ob : ∀ j, 0 ≤ offA A (clsL L) p l j ∧ offA A (clsL L) p l j ≤ 900000 := fun j => offA_bd (T := (rainL 0 L, clsL L)) hI ht (l := l) (w := j) hp
        have W : ∀ (N : Nat) (j s : Int) (m : SM), ViewN sh h L A m → 0 ≤ j → j + N = 8 → 0 ≤ s → s ≤ j → ∃ m', rB Q0 178 (cB Q0 (d + 8)) 46 [some (.ref 177), some (.int (J p)), some (.int (J l)), some (.int (J w)), some (.int (J (offA A (clsL L) p l (-1)))), some (.int (J s)), some (.int (J j))] m = some (some (.long (lowZ (oddsF A (clsL L) p l N j s) 8 w)), m') ∧ FrR piK noI m m' := by
          intro N
          induction N with
          | zero =>
            intro j s m hV g0 g1 g2 g3
            have e6 := S_177 (m := m) (d := d + 6) (a := s) (b := 8) (k := w) g2 (by omega) (by omega) (by omega) h3
            refine ⟨m, ?_, FrR.rf⟩
            rw [T_178_46]
            simp only [lits]
            simp (disch := omega) only [kk, lits, q0_J, q1_J, q2_J, cI_J, cT_J, cB_J, cZ_J, cS_J, c1_J, cA_J, J_clamp, u2_at, reduceIte, e6]
            rw [if_pos (by omega)]
            rfl
          | succ N ih =>
            intro j s m hV g0 g1 g2 g3
            obtain ⟨m2, e6, e7⟩ := S_152 (d := d + 3) hI hV ht (p := p) (l := l) (w := j) hp c2 (by omega)
            have o1 := ob (-1)
            have o2 := ob j
            by_cases c5 : offA A (clsL L) p l (-1) ≤ offA A (clsL L) p l j
            · obtain ⟨m3, k1, k2⟩ := ih (j + 1) s m2 (hV.frP e7) (by omega) (by omega) g2 (by omega)
              refine ⟨m3, ?_, e7.tr k2⟩
              rw [T_178_46, oddsF_s]
              simp (disch := omega) only [kk, lits, q0_J, q1_J, q2_J, cI_J, cT_J, cB_J, cZ_J, cS_J, c1_J, cA_J, J_clamp, u2_at, reduceIte, e6, Int.add_zero]
              rw [if_neg (show ¬ 8 ≤ j by omega), if_pos c5, if_pos c5]
              exact k1
            · obtain ⟨m3, k1, k2⟩ := ih (j + 1) (s + 1) m2 (hV.frP e7) (by omega) (by omega) (by omega) (by omega)
              refine ⟨m3, ?_, e7.tr k2⟩
              rw [T_178_46, oddsF_s]
              simp (disch := omega) only [kk, lits, q0_J, q1_J, q2_J, cI_J, cT_J, cB_J, cZ_J, cS_J, c1_J, cA_J, J_clamp, u2_at, reduceIte, e6]
              rw [if_neg (show ¬ 8 ≤ j by omega), if_neg c5, if_neg c5]
              exact k1
        obtain ⟨m2, k1, k2⟩ := W 8 0 0 m1 (hV.frP q2) (by omega) (by omega) (by omega) (by omega)
        refine ⟨m2, ?_, q2.tr k2⟩
        simp only [lits]
        simp (disch := omega) only [kk, lits, q0_J, q1_J, q2_J, cI_J, cT_J, cB_J, cZ_J, cS_J, c1_J, cA_J, J_clamp, u2_at, reduceIte, e1, e2, e3, bi, if_pos c1, if_pos c2, if_pos c3, w1, if_false, q1]
        exact k1
      · rw [if_pos c3]
        refine ⟨m, ?_, FrR.rf⟩
        simp only [lits]
        simp (disch := omega) only [kk, lits, q0_J, q1_J, q2_J, cI_J, cT_J, cB_J, cZ_J, cS_J, c1_J, cA_J, J_clamp, u2_at, reduceIte, e1, e2, e3, bi, if_pos c1, if_pos c2, if_neg c3, w1, if_false]
    · rw [if_pos c2]
      refine ⟨m, ?_, FrR.rf⟩
      simp only [lits]
      simp (disch := omega) only [kk, lits, q0_J, q1_J, q2_J, cI_J, cT_J, cB_J, cZ_J, cS_J, c1_J, cA_J, J_clamp, u2_at, reduceIte, e1, e2, e3, bi, if_pos c1, if_neg c2, w1, if_false]
  · rw [if_pos c1]
    refine ⟨m, ?_, FrR.rf⟩
    simp only [lits]
    simp (disch := omega) only [kk, lits, q0_J, q1_J, q2_J, cI_J, cT_J, cB_J, cZ_J, cS_J, c1_J, cA_J, J_clamp, u2_at, reduceIte, e1, bi, if_neg c1]
theorem S_179 (hI : ShI A) (hV : ViewN sh h L A m) (ht : ThI (rainL 0 L, clsL L)) {l w : Int} (h2 : -2147483648 ≤ l ∧ l ≤ 2147483647) (h3 : -2147483648 ≤ w ∧ w ≤ 2147483647) : ∃ m', cB Q0 (d + 9) 179 [.ref 177, .int (J l), .int (J w)] m = some (some (.long (meanA A (clsL L) l w)), m') ∧ FrR piK noI m m' := by
  have i0 := hI.1.1
  have e2 := S_109 (m := m) (d := d + 7) h2.1 h2.2 (show -2147483648 ≤ (0 : Int) by omega) (by omega) (show -2147483648 ≤ (1 : Int) by omega) (by omega)
  have e3 := S_109 (m := m) (d := d + 7) h3.1 h3.2 (show -2147483648 ≤ (0 : Int) by omega) (by omega) (show -2147483648 ≤ (1 : Int) by omega) (by omega)
  have w1 : ((1 : Int) = 0) = False := by simp
  have hc := hV.1.1.1
  rw [cB_eq]
  show ∃ m', rB Q0 179 (cB Q0 (d + 8)) 0 [some (.ref 177), some (.int (J l)), some (.int (J w))] m = _ ∧ _
  rw [T_179_0]
  unfold meanA
  by_cases c2 : 0 ≤ l ∧ l ≤ 1
  · rw [if_neg (fun z => z c2)]
    by_cases c3 : 0 ≤ w ∧ w ≤ 1
    · rw [if_neg (fun z => z c3)]
      by_cases c4 : A.1 0 0 = 0
      · rw [if_pos c4]
        refine ⟨m, ?_, FrR.rf⟩
        simp only [lits]
        simp (disch := omega) only [kk, lits, q0_J, q1_J, q2_J, cI_J, cT_J, cB_J, cZ_J, cS_J, c1_J, cA_J, J_clamp, u2_at, reduceIte, e2, e3, bi, if_pos c2, if_pos c3, w1, if_false, hc]
        rw [if_pos c4]
      · rw [if_neg c4]
        have W : ∀ (N : Nat) (q s : Int) (m : SM), ViewN sh h L A m → 0 ≤ q → q + N = A.1 0 0 → 0 ≤ s → s ≤ 900000 * q → ∃ m', rB Q0 179 (cB Q0 (d + 8)) 36 [some (.ref 177), some (.int (J l)), some (.int (J w)), some (.int (J s)), some (.int (J q))] m = some (some (.long (lowZ (s + sumF (fun p => offA A (clsL L) p l (-1)) q N) (A.1 0 0) w)), m') ∧ FrR piK noI m m' := by
          intro N
          induction N with
          | zero =>
            intro q s m hV g0 g1 g2 g3
            have hc := hV.1.1.1
            have e6 := S_177 (m := m) (d := d + 6) (a := s) (b := A.1 0 0) (k := w) g2 (by omega) (by omega) (by omega) h3
            refine ⟨m, ?_, FrR.rf⟩
            rw [T_179_36]
            simp (disch := omega) only [kk, lits, q0_J, q1_J, q2_J, cI_J, cT_J, cB_J, cZ_J, cS_J, c1_J, cA_J, J_clamp, u2_at, reduceIte, hc, e6]
            rw [if_pos (show A.1 0 0 ≤ q by omega)]
            simp [sumF]
          | succ N ih =>
            intro q s m hV g0 g1 g2 g3
            have hc := hV.1.1.1
            obtain ⟨m1, q1, q2⟩ := S_153 (d := d + 2) hI hV ht (p := q) (l := l) ⟨g0, by omega⟩ c2
            have ob : 0 ≤ offA A (clsL L) q l (-1) ∧ offA A (clsL L) q l (-1) ≤ 900000 := offA_bd (T := (rainL 0 L, clsL L)) hI ht (p := q) (l := l) (w := -1) ⟨g0, by omega⟩
            obtain ⟨m2, q3, q4⟩ := ih (q + 1) (s + offA A (clsL L) q l (-1)) m1 (hV.frP q2) (by omega) (by omega) (by omega) (by omega)
            refine ⟨m2, ?_, q2.tr q4⟩
            have es : sumF (fun p => offA A (clsL L) p l (-1)) q (N + 1) = offA A (clsL L) q l (-1) + sumF (fun p => offA A (clsL L) p l (-1)) (q + 1) N := rfl
            rw [T_179_36, es, ← Int.add_assoc]
            simp (disch := omega) only [kk, lits, q0_J, q1_J, q2_J, cI_J, cT_J, cB_J, cZ_J, cS_J, c1_J, cA_J, J_clamp, u2_at, reduceIte, hc, q1]
            rw [if_neg (show ¬ A.1 0 0 ≤ q by omega)]
            exact q3
        obtain ⟨m', k1, k2⟩ := W (A.1 0 0).toNat 0 0 m hV (by omega) (by omega) (by omega) (by omega)
        rw [Int.zero_add] at k1
        refine ⟨m', ?_, k2⟩
        simp only [lits]
        simp (disch := omega) only [kk, lits, q0_J, q1_J, q2_J, cI_J, cT_J, cB_J, cZ_J, cS_J, c1_J, cA_J, J_clamp, u2_at, reduceIte, e2, e3, bi, if_pos c2, if_pos c3, w1, if_false, hc]
        rw [if_neg c4]
        exact k1
    · rw [if_pos c3]
      refine ⟨m, ?_, FrR.rf⟩
      simp only [lits]
      simp (disch := omega) only [kk, lits, q0_J, q1_J, q2_J, cI_J, cT_J, cB_J, cZ_J, cS_J, c1_J, cA_J, J_clamp, u2_at, reduceIte, e2, e3, bi, if_pos c2, if_neg c3, w1, if_false]
  · rw [if_pos c2]
    refine ⟨m, ?_, FrR.rf⟩
    simp only [lits]
    simp (disch := omega) only [kk, lits, q0_J, q1_J, q2_J, cI_J, cT_J, cB_J, cZ_J, cS_J, c1_J, cA_J, J_clamp, u2_at, reduceIte, e2, e3, bi, if_neg c2, w1, if_false]
end
