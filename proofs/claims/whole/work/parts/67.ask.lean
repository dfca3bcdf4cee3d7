/-! QUESTIONS with fractions, and CAN -/
def scK : Nat → Prop := fun k => (83 ≤ k ∧ k ≤ 123) ∨ (134 ≤ k ∧ k ≤ 140)
theorem BK.of2 {m m' : SM} {K : Nat → Prop} (h : FrR K noI m m') (hK : ∀ k, K k → k = 197 ∨ k = 198 ∨ (199 ≤ k ∧ k ≤ 202)) : BK m m' := ⟨fun k z1 z2 z3 z4 z5 => h.1 k (fun z => by have := hK k z; omega) z1, fun i _ => h.2.1 i (fun z => z), fun i _ _ => by rw [h.1 187 (fun z => by have := hK 187 z; omega) (by omega)], h.2.2⟩
theorem scK_of {m m' : SM} {K : Nat → Prop} (h : Fr K m m') (hK : ∀ k, K k → (83 ≤ k ∧ k ≤ 123) ∨ (134 ≤ k ∧ k ≤ 140)) : Fr scK m m' := h.mono hK
def canA (A : Shp) (c : Cls) (p k w : Int) : Int := if ¬ (0 ≤ p ∧ p ≤ A.1 0 0 - 1) then -1 else if ¬ (0 ≤ k ∧ k ≤ 1) then -1 else if ¬ (0 ≤ w ∧ w ≤ 1) then -1 else if k = 0 then possA A c p 2 w else possA A c p 1 w
def oddsF (A : Shp) (c : Cls) (p l : Int) : Nat → Int → Int → Int
  | 0, _, s => s
  | N + 1, j, s => oddsF A c p l N (j + 1) (if offA A c p l (-1) ≤ offA A c p l j then s else s + 1)
theorem oddsF_s {A : Shp} {c : Cls} {p l : Int} {N : Nat} {j s : Int} : oddsF A c p l (N + 1) j s = oddsF A c p l N (j + 1) (if offA A c p l (-1) ≤ offA A c p l j then s else s + 1) := rfl
def oddsA (A : Shp) (c : Cls) (p l w : Int) : Int64 := if ¬ (0 ≤ p ∧ p ≤ A.1 0 0 - 1) then -9223372036854775808 else if ¬ (0 ≤ l ∧ l ≤ 1) then -9223372036854775808 else if ¬ (0 ≤ w ∧ w ≤ 1) then -9223372036854775808 else lowZ (oddsF A c p l 8 0 0) 8 w
def meanA (A : Shp) (c : Cls) (l w : Int) : Int64 := if ¬ (0 ≤ l ∧ l ≤ 1) then -9223372036854775808 else if ¬ (0 ≤ w ∧ w ≤ 1) then -9223372036854775808 else if A.1 0 0 = 0 then -9223372036854775808 else lowZ (sumF (fun p => offA A c p l (-1)) 0 (A.1 0 0).toNat) (A.1 0 0) w
section
variable {m : SM} {d : Nat} {n : Int} {T : Int × Cls} {A : Shp}
theorem S_67 (hI : ShI A) (hV : View 1 n T A m) {p k w : Int} (h1 : -2147483648 ≤ p ∧ p ≤ 2147483647) (h2 : -2147483648 ≤ k ∧ k ≤ 2147483647) (h3 : -2147483648 ≤ w ∧ w ≤ 2147483647) : ∃ m', cB Q0 (d + 8) 67 [.ref 0, .int (J p), .int (J k), .int (J w)] m = some (some (.int (J (canA A T.2 p k w))), m') ∧ Fr scK m m' := by
  have i0 := hI.1.1
  have e1 := S_87 (d := d + 5) hV.1.1.1 i0.1 i0.2 h1.1 h1.2
  have e2 := S_85 (m := m) (d := d + 6) h2.1 h2.2 (show -2147483648 ≤ (0 : Int) by omega) (by omega) (show -2147483648 ≤ (1 : Int) by omega) (by omega)
  have e3 := S_85 (m := m) (d := d + 6) h3.1 h3.2 (show -2147483648 ≤ (0 : Int) by omega) (by omega) (show -2147483648 ≤ (1 : Int) by omega) (by omega)
  have w1 : ((1 : Int) = 0) = False := by simp
  rw [cB_eq]
  show ∃ m', rB Q0 67 (cB Q0 (d + 7)) 0 [some (.ref 0), some (.int (J p)), some (.int (J k)), some (.int (J w))] m = _ ∧ _
  rw [T_67_0]
  unfold canA
  by_cases c1 : 0 ≤ p ∧ p ≤ A.1 0 0 - 1
  · rw [if_neg (fun z => z c1)]
    by_cases c2 : 0 ≤ k ∧ k ≤ 1
    · rw [if_neg (fun z => z c2)]
      by_cases c3 : 0 ≤ w ∧ w ≤ 1
      · rw [if_neg (fun z => z c3)]
        by_cases c4 : k = 0
        · obtain ⟨m', q1, q2⟩ := S_103 (d := d + 2) hI hV (p := p) (w := w) ⟨c1.1, by omega⟩ h3
          refine ⟨m', ?_, scK_of q2 fun k hk => by unfold waK at hk; omega⟩
          simp only [lits]
          simp (disch := omega) only [kk, lits, q0_J, q1_J, q2_J, cI_J, cT_J, cB_J, cZ_J, cS_J, c1_J, cA_J, J_clamp, u2_at, reduceIte, e1, e2, e3, bi, if_pos c1, if_pos c2, if_pos c3, w1, if_false, q1]
          rw [if_pos c4, if_pos c4]
        · obtain ⟨m', q1, q2⟩ := S_105 (d := d) hI hV (p := p) (w := w) ⟨c1.1, by omega⟩ h3
          refine ⟨m', ?_, scK_of q2 fun k hk => by unfold poK at hk; omega⟩
          simp only [lits]
          simp (disch := omega) only [kk, lits, q0_J, q1_J, q2_J, cI_J, cT_J, cB_J, cZ_J, cS_J, c1_J, cA_J, J_clamp, u2_at, reduceIte, e1, e2, e3, bi, if_pos c1, if_pos c2, if_pos c3, w1, if_false, q1]
          rw [if_neg c4, if_neg c4]
      · rw [if_pos c3]
        refine ⟨m, ?_, Fr.rf⟩
        simp only [lits]
        simp (disch := omega) only [kk, lits, q0_J, q1_J, q2_J, cI_J, cT_J, cB_J, cZ_J, cS_J, c1_J, cA_J, J_clamp, u2_at, reduceIte, e1, e2, e3, bi, if_pos c1, if_pos c2, if_neg c3, w1, if_false]
    · rw [if_pos c2]
      refine ⟨m, ?_, Fr.rf⟩
      simp only [lits]
      simp (disch := omega) only [kk, lits, q0_J, q1_J, q2_J, cI_J, cT_J, cB_J, cZ_J, cS_J, c1_J, cA_J, J_clamp, u2_at, reduceIte, e1, e2, e3, bi, if_pos c1, if_neg c2, w1, if_false]
  · rw [if_pos c1]
    refine ⟨m, ?_, Fr.rf⟩
    simp only [lits]
    simp (disch := omega) only [kk, lits, q0_J, q1_J, q2_J, cI_J, cT_J, cB_J, cZ_J, cS_J, c1_J, cA_J, J_clamp, u2_at, reduceIte, e1, bi, if_neg c1]
theorem oddsF_in {A : Shp} {c : Cls} {p l : Int} : ∀ (N : Nat) (j s : Int), 0 ≤ s → 0 ≤ oddsF A c p l N j s ∧ oddsF A c p l N j s ≤ s + N
  | 0, _, s, h => ⟨h, by show s ≤ _; omega⟩
  | N + 1, j, s, h => by
    rw [oddsF_s]
    by_cases c1 : offA A c p l (-1) ≤ offA A c p l j
    · rw [if_pos c1]
      have := oddsF_in (A := A) (c := c) (p := p) (l := l) N (j + 1) s h
      omega
    · rw [if_neg c1]
      have := oddsF_in (A := A) (c := c) (p := p) (l := l) N (j + 1) (s + 1) (by omega)
      omega
theorem S_68 (hI : ShI A) (hV : View 1 n T A m) {p l w : Int} (h1 : -2147483648 ≤ p ∧ p ≤ 2147483647) (h2 : -2147483648 ≤ l ∧ l ≤ 2147483647) (h3 : -2147483648 ≤ w ∧ w ≤ 2147483647) : ∃ m', cB Q0 (d + 8) 68 [.ref 0, .int (J p), .int (J l), .int (J w)] m = some (some (.long (oddsA A T.2 p l w)), m') ∧ Fr scK m m' := by
  have i0 := hI.1.1
  have e1 := S_87 (d := d + 5) hV.1.1.1 i0.1 i0.2 h1.1 h1.2
  have e2 := S_89 (m := m) (d := d + 5) h2.1 h2.2
  have e3 := S_85 (m := m) (d := d + 6) h3.1 h3.2 (show -2147483648 ≤ (0 : Int) by omega) (by omega) (show -2147483648 ≤ (1 : Int) by omega) (by omega)
  have w1 : ((1 : Int) = 0) = False := by simp
  rw [cB_eq]
  show ∃ m', rB Q0 68 (cB Q0 (d + 7)) 0 [some (.ref 0), some (.int (J p)), some (.int (J l)), some (.int (J w))] m = _ ∧ _
  rw [T_68_0]
  unfold oddsA
  by_cases c1 : 0 ≤ p ∧ p ≤ A.1 0 0 - 1
  · rw [if_neg (fun z => z c1)]
    by_cases c2 : 0 ≤ l ∧ l ≤ 1
    · rw [if_neg (fun z => z c2)]
      by_cases c3 : 0 ≤ w ∧ w ≤ 1
      · rw [if_neg (fun z => z c3)]
        have hp : 0 ≤ p ∧ p < A.1 0 0 := ⟨c1.1, by omega⟩
        obtain ⟨m1, q1, q2, q3⟩ := S_94 (d := d + 3) (Or.inl rfl) hI hV hp c2
        have hV1 := hV.frT (Or.inl rfl) hI q3
        have g : GRt 5 p.toNat = some (hd 1 p) := hd_g (s := 1) (Or.inl rfl) c1.1 (by omega)
        have hF := hd_F (s := 1) (Or.inl rfl) c1.1 (show p < 6 by omega)
        have hHI := hI.2.2.1 p hp.1 hp.2
        have hb := toneA_bd8 (l := l) hI hV.2.2.2 hp
        have e4 := fun j hj => S_14 (d := d + 5) hF (hV1.1.2.2.1 p hp.1 hp.2) hHI q2 hb (w := j) hj
        have ob := fun j => offA_bd hI hV.2.2.2 (l := l) (w := j) hp
        have e5 := e4 (-1) (by omega)
        have L : ∀ (N : Nat) (j s : Int), 0 ≤ j → j + N = 8 → 0 ≤ s → s ≤ j → rB Q0 68 (cB Q0 (d + 7)) 67 [some (.ref 0), none, none, some (.int (J w)), some (.ref (hd 1 p)), some (.int (J (offA A T.2 p l (-1)))), some (.int (J s)), some (.int (J j))] m1 = some (some (.long (lowZ (oddsF A T.2 p l N j s) 8 w)), m1) := by
          intro N
          induction N with
          | zero =>
            intro j s g0 g1 g2 g3
            have e6 := S_106 (m := m1) (d := d + 5) (a := s) (b := 8) (k := w) g2 (by omega) (by omega) (by omega) h3
            rw [T_68_67]
            simp only [lits]
            simp (disch := omega) only [kk, lits, q0_J, q1_J, q2_J, cI_J, cT_J, cB_J, cZ_J, cS_J, c1_J, cA_J, J_clamp, u2_at, reduceIte, e6]
            rw [if_pos (by omega)]
            rfl
          | succ N ih =>
            intro j s g0 g1 g2 g3
            have e6 := e4 j (by omega)
            have o1 := ob (-1)
            have o2 := ob j
            change cB Q0 (d + 5 + 2) 14 _ m1 = some (some (.int (J (offA A T.2 p l j))), m1) at e6
            rw [T_68_67, oddsF_s]
            simp (disch := omega) only [kk, lits, q0_J, q1_J, q2_J, cI_J, cT_J, cB_J, cZ_J, cS_J, c1_J, cA_J, J_clamp, u2_at, reduceIte, hF.1.1, cO_J, e6]
            rw [if_neg (show ¬ 8 ≤ j by omega)]
            by_cases c5 : offA A T.2 p l (-1) ≤ offA A T.2 p l j
            · rw [if_pos c5, if_pos c5]
              exact ih (j + 1) s (by omega) (by omega) g2 (by omega)
            · rw [if_neg c5, if_neg c5]
              exact ih (j + 1) (s + 1) (by omega) (by omega) (by omega) (by omega)
        refine ⟨m1, ?_, scK_of q3 fun k hk => by unfold kT at hk; omega⟩
        simp only [lits]
        simp (disch := omega) only [kk, lits, q0_J, q1_J, q2_J, cI_J, cT_J, cB_J, cZ_J, cS_J, c1_J, cA_J, J_clamp, u2_at, reduceIte, e1, e2, e3, bi, if_pos c1, if_pos c2, if_pos c3, w1, if_false, q1, g, hF.1.1, cO_J, e5]
        exact L 8 0 0 (by omega) (by omega) (by omega) (by omega)
      · rw [if_pos c3]
        refine ⟨m, ?_, Fr.rf⟩
        simp only [lits]
        simp (disch := omega) only [kk, lits, q0_J, q1_J, q2_J, cI_J, cT_J, cB_J, cZ_J, cS_J, c1_J, cA_J, J_clamp, u2_at, reduceIte, e1, e2, e3, bi, if_pos c1, if_pos c2, if_neg c3, w1, if_false]
    · rw [if_pos c2]
      refine ⟨m, ?_, Fr.rf⟩
      simp only [lits]
      simp (disch := omega) only [kk, lits, q0_J, q1_J, q2_J, cI_J, cT_J, cB_J, cZ_J, cS_J, c1_J, cA_J, J_clamp, u2_at, reduceIte, e1, e2, e3, bi, if_pos c1, if_neg c2, w1, if_false]
  · rw [if_pos c1]
    refine ⟨m, ?_, Fr.rf⟩
    simp only [lits]
    simp (disch := omega) only [kk, lits, q0_J, q1_J, q2_J, cI_J, cT_J, cB_J, cZ_J, cS_J, c1_J, cA_J, J_clamp, u2_at, reduceIte, e1, bi, if_neg c1]
end
