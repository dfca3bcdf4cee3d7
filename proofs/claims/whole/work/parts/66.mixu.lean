/-! THE REFERENCE: mixed, asked -/
section
variable {m : SM} {d : Nat} {A : Shp} {sh h : Int} {L : Cla}
theorem ViewN.frM (hV : ViewN sh h L A m) {m' : SM} (hF : FrR mnK noI m m') : ViewN sh h L A m' :=
  ⟨hV.1.fr hF (fun k g1 g2 => by unfold mnK at g2; omega) (fun _ _ z => z), hV.2.fr hF (fun k g1 g2 g3 => by unfold mnK at g3; omega) (fun z => z)⟩
theorem L_166p (cf : Nat → List Value → SM → Rs SM) {p n k : Int} : ∀ (N i : Nat), (i : Int) + N = n → n ≤ 4 → rB Q0 166 cf 81 [some (.ref 177), some (.int (J p)), none, some (.int (J n)), some (.int (J k)), some (.int (J ((8 ^ i : Nat) : Int))), some (.int (J i))] m = rB Q0 166 cf 107 [some (.ref 177), some (.int (J p)), none, some (.int (J n)), some (.int (J k)), some (.int (J ((8 ^ n.toNat : Nat) : Int))), some (.int (J (-5))), some (.int (J 0))] m := by
  intro N
  induction N with
  | zero =>
    intro i h1 h2
    rw [T_166_81, show n.toNat = i by omega]
    simp (disch := omega) only [kk, lits, q0_J, q1_J, q2_J, cI_J, cT_J, cB_J, cZ_J, cS_J, c1_J, cA_J, J_clamp, u2_at, reduceIte]
    rw [if_pos (show n ≤ (i : Int) by omega)]
  | succ N ih =>
    intro i h1 h2
    have e := ih (i + 1) (by omega) h2
    rw [T_166_81]
    have e8 : J ((8 ^ i : Nat) : Int) * J 8 = J ((8 ^ (i + 1) : Nat) : Int) := by
      rw [J_mul, Nat.pow_succ]
      rfl
    have e9 : J (i : Int) + J 1 = J ((i + 1 : Nat) : Int) := J_add _ _
    simp only [lits, e8, e9]
    rw [q2_J (by omega) (by omega) (by omega) (by omega), if_neg (show ¬ n ≤ (i : Int) by omega)]
    exact e
theorem S_166 (hI : ShI A) (hV : ViewN sh h L A m) (ht : ThI (rainL 0 L, clsL L)) {p l n k : Int} (h1 : -2147483648 ≤ p ∧ p ≤ 2147483647) (h2 : -2147483648 ≤ l ∧ l ≤ 2147483647) (h3 : -2147483648 ≤ n ∧ n ≤ 2147483647) (h4 : -2147483648 ≤ k ∧ k ≤ 2147483647) : ∃ m', cB Q0 (d + 5) 166 [.ref 177, .int (J p), .int (J l), .int (J n), .int (J k)] m = some (some (.int (J (mixA A (clsL L) p l n k))), m') ∧ FrR mnK noI m m' := by
  have i0 := hI.1.1
  have e1 := S_114 (d := d + 2) hV.1.1.1 i0.1 i0.2 h1.1 h1.2
  have e2 := S_109 (m := m) (d := d + 3) h2.1 h2.2 (show -2147483648 ≤ (0 : Int) by omega) (by omega) (show -2147483648 ≤ (1 : Int) by omega) (by omega)
  have e3 := S_109 (m := m) (d := d + 3) h4.1 h4.2 (show -2147483648 ≤ (-1 : Int) by omega) (by omega) (show -2147483648 ≤ (3 : Int) by omega) (by omega)
  have e4 := S_109 (m := m) (d := d + 3) h3.1 h3.2 (show -2147483648 ≤ (1 : Int) by omega) (by omega) (show -2147483648 ≤ (4 : Int) by omega) (by omega)
  have hC : cB Q0 (d + 5) 166 [.ref 177, .int (J p), .int (J l), .int (J n), .int (J k)] m = rB Q0 166 (cB Q0 (d + 4)) 0 [some (.ref 177), some (.int (J p)), some (.int (J l)), some (.int (J n)), some (.int (J k))] m := by
    rw [cB_eq]
    rfl
  have w1 : ((1 : Int) = 0) = False := by simp
  rw [hC, T_166_0]
  unfold mixA
  by_cases c1 : 0 ≤ p ∧ p ≤ A.1 0 0 - 1
  · rw [if_neg (fun z => z c1)]
    by_cases c2 : 0 ≤ l ∧ l ≤ 1
    · rw [if_neg (fun z => z c2)]
      by_cases c3 : -1 ≤ k ∧ k ≤ 3
      · rw [if_neg (fun z => z c3)]
        by_cases c4 : 1 ≤ n ∧ n ≤ 4
        · rw [if_neg (fun z => z c4)]
          have hp : 0 ≤ p ∧ p < A.1 0 0 := ⟨c1.1, by omega⟩
          have hHI := hI.2.2.1 p hp.1 hp.2
          have W : ∀ (N : Nat) (q : Int) (m : SM), 0 ≤ q → q + N = 8 → ViewN sh h L A m → (∀ j : Int, 0 ≤ j → j < q → m.1 201 j.toNat = J (toneA A (clsL L) p j l)) → ∃ m', rB Q0 166 (cB Q0 (d + 4)) 47 [some (.ref 177), some (.int (J p)), some (.int (J l)), some (.int (J n)), some (.int (J k)), some (.int (J q))] m = some (some (.int (J (mixR n k (mixG (A.1 3) (fun dr => toneA A (clsL L) p dr l) (n * A.2.1 p 0 2) n.toNat)))), m') ∧ FrR mnK noI m m' := by
            intro N
            induction N with
            | zero =>
              intro q m g1 g2 hV hT
              obtain rfl : q = 8 := by omega
              obtain ⟨m', k1, k2⟩ := L_166 (d := d + 3) (n := n.toNat) (st := A.1 3) (t := fun dr => toneA A (clsL L) p dr l) (p := p) (k := k) (u := A.2.1 p 0 2) (w := n * A.2.1 p 0 2) (by omega) (by omega) ⟨hp.1, by omega⟩ c3 hHI.1.2.2.1 (by rw [show ((n.toNat : Nat) : Int) = n by omega]) (toneA_bd8 (T := (rainL 0 L, clsL L)) hI ht hp) (hI.2.1 3 (by omega) (by omega)) (8 ^ n.toNat) 0 (-5, []) m (by omega) (hV.1.2.1 3 (by omega) (by omega)) hT (hV.1.2.2.1 p hp.1 hp.2).1.2.2.1 (Or.inl rfl)
              rw [← List.range_eq_range', mix_eq (by omega), show ((n.toNat : Nat) : Int) = n by omega] at k1
              refine ⟨m', ?_, k2⟩
              rw [T_166_47]
              simp (disch := omega) only [kk, lits, q0_J, q1_J, q2_J, cI_J, cT_J, cB_J, cZ_J, cS_J, c1_J, cA_J, J_clamp, u2_at, reduceIte]
              rw [if_pos (Int.le_refl _)]
              exact (L_166p (m := m) (cB Q0 (d + 4)) (p := p) (n := n) (k := k) n.toNat 0 (by omega) c4.2).trans k1
            | succ N ih =>
              intro q m g1 g2 hV hT
              obtain ⟨m1, q1, q2⟩ := S_149 (d := d) hI hV (p := p) (dr := q) (l := l) hp ⟨g1, by omega⟩ c2
              have hF : FrR mnK noI m1 (up2 m1.1 201 q.toNat (J (toneA A (clsL L) p q l)), m1.2) := FrR.put (K := mnK) (KI := noI) (k := 201) (Or.inr (Or.inr (Or.inr rfl))) (by omega) _ _
              have hF0 : FrR mnK noI m m1 := q2.mono (fun k hk => Or.inl hk) (fun _ z => z)
              obtain ⟨m2, q3, q4⟩ := ih (q + 1) _ (by omega) (by omega) (hV.frM (hF0.tr hF)) (fun j g3 g4 => by
                show up2 m1.1 201 q.toNat (J (toneA A (clsL L) p q l)) 201 j.toNat = _
                rw [u2_at]
                by_cases c : j = q
                · rw [if_pos (by omega), c]
                · rw [if_neg (by omega), q2.1 201 (by unfold piK; omega) (by omega)]
                  exact hT j g3 (by omega))
              refine ⟨m2, ?_, (hF0.tr hF).tr q4⟩
              rw [T_166_47]
              simp (disch := omega) only [kk, lits, q0_J, q1_J, q2_J, cI_J, cT_J, cB_J, cZ_J, cS_J, c1_J, cA_J, J_clamp, u2_at, reduceIte, q1]
              rw [if_neg (show ¬ 8 ≤ q by omega)]
              exact q3
          obtain ⟨m', k1, k2⟩ := W 8 0 m (by omega) (by omega) hV (fun j g1 g2 => by omega)
          refine ⟨m', ?_, k2⟩
          simp only [lits]
          simp (disch := omega) only [kk, lits, q0_J, q1_J, q2_J, cI_J, cT_J, cB_J, cZ_J, cS_J, c1_J, cA_J, J_clamp, u2_at, reduceIte, e1, e2, e3, e4, bi, if_pos c1, if_pos c2, if_pos c3, if_pos c4, w1, if_false]
          exact k1
        · rw [if_pos c4]
          refine ⟨m, ?_, FrR.rf⟩
          simp only [lits]
          simp (disch := omega) only [kk, lits, q0_J, q1_J, q2_J, cI_J, cT_J, cB_J, cZ_J, cS_J, c1_J, cA_J, J_clamp, u2_at, reduceIte, e1, e2, e3, e4, bi, if_pos c1, if_pos c2, if_pos c3, if_neg c4, w1, if_false]
      · rw [if_pos c3]
        refine ⟨m, ?_, FrR.rf⟩
        simp only [lits]
        simp (disch := omega) only [kk, lits, q0_J, q1_J, q2_J, cI_J, cT_J, cB_J, cZ_J, cS_J, c1_J, cA_J, J_clamp, u2_at, reduceIte, e1, e2, e3, e4, bi, if_pos c1, if_pos c2, if_neg c3, w1, if_false]
    · rw [if_pos c2]
      refine ⟨m, ?_, FrR.rf⟩
      simp only [lits]
      simp (disch := omega) only [kk, lits, q0_J, q1_J, q2_J, cI_J, cT_J, cB_J, cZ_J, cS_J, c1_J, cA_J, J_clamp, u2_at, reduceIte, e1, e2, bi, if_pos c1, if_neg c2, w1, if_false]
  · rw [if_pos c1]
    refine ⟨m, ?_, FrR.rf⟩
    simp only [lits]
    simp (disch := omega) only [kk, lits, q0_J, q1_J, q2_J, cI_J, cT_J, cB_J, cZ_J, cS_J, c1_J, cA_J, J_clamp, u2_at, reduceIte, e1, bi, if_neg c1]
end
