/-! SHELVE and ROW, asked of the reference -/
section
variable {m : SM} {d : Nat} {A : Shp} {sh : Int}
theorem S_124 (hR : m.1 177 1 = J sh) (hs : 0 ≤ sh ∧ sh < 64) {p b : Int} (hp : 0 ≤ p ∧ p < 6) (hb : b = 0 ∨ b = 1) : cB Q0 (d + 1) 124 [.ref 177, .int (J p), .int (J b)] m = some (none, (up2 m.1 177 1 (J (if b = 0 then clrP sh p else setP sh p)), m.2)) := by
  obtain ⟨-, b1, b2⟩ := pbits_at (x := sh) (p := p) hs.1 hs.2 hp.1 hp.2
  rw [cB_eq]
  show rB Q0 124 (cB Q0 d) 0 [some (.ref 177), some (.int (J p)), some (.int (J b))] m = _
  rw [T_124_0]
  simp only [lits]
  rcases hb with rfl | rfl
  · simp (disch := omega) only [kk, lits, q0_J, q1_J, q2_J, cI_J, cT_J, cB_J, cZ_J, cS_J, c1_J, cA_J, J_clamp, u2_at, reduceIte, hR, b1, if_true]
  · have w1 : ((1 : Int) = 0) = False := by simp
    simp (disch := omega) only [kk, lits, q0_J, q1_J, q2_J, cI_J, cT_J, cB_J, cZ_J, cS_J, c1_J, cA_J, J_clamp, u2_at, reduceIte, hR, b2, w1, if_false]
theorem S_125 (hI : ShI A) (hR : ShN sh A m) {p b : Int} (h1 : -2147483648 ≤ p ∧ p ≤ 2147483647) (h2 : b = 0 ∨ b = 1) : ∃ m' sh', cB Q0 (d + 3) 125 [.ref 177, .int (J p), .int (J b)] m = some (some (.int (J (sheA A p))), m') ∧ ShN sh' (sheS A p b) m' ∧ FrR stK stI m m' := by
  have i0 := hI.1.1
  have a0 := hR.1.1
  have e1 := S_114 (d := d) a0 i0.1 i0.2 h1.1 h1.2
  rw [cB_eq]
  show ∃ m' sh', rB Q0 125 (cB Q0 (d + 2)) 0 [some (.ref 177), some (.int (J p)), some (.int (J b))] m = _ ∧ _
  rw [T_125_0, e1, bI_e, nz_bi]
  unfold sheA sheS
  by_cases c1 : 0 ≤ p ∧ p ≤ A.1 0 0 - 1
  · rw [if_pos c1, if_pos c1, if_pos c1]
    obtain ⟨⟨-, a1, a2, a3⟩, r1, r2, r3⟩ := hR
    have hi := (hI.2.2.1 p c1.1 (by omega)).1.2.2.2.2
    have hbp := r3.2 p c1.1 (by omega)
    have e110 := S_110 (m := m) (d := d + 1) r3.1.1 r3.1.2 c1.1 (show p < 6 by omega)
    have e124 := S_124 (d := d + 1) a1 r3.1 ⟨c1.1, show p < 6 by omega⟩ h2
    have hpq := fun q h4 h5 => pbits_q (x := sh) (p := p) (q := q) r3.1.1 r3.1.2 c1.1 (by omega) h4 h5
    have hin := (hpq 0 (by omega) (by omega)).2.2
    have hsh : (0 ≤ (if b = 0 then clrP sh p else setP sh p) ∧ (if b = 0 then clrP sh p else setP sh p) < 64) ∧ ∀ q, 0 ≤ q → q < 6 → bitP (if b = 0 then clrP sh p else setP sh p) q = if p = q then b else bitP sh q := by
      rcases h2 with rfl | rfl
      · rw [if_pos rfl]
        exact ⟨⟨hin.1, hin.2.1⟩, fun q g0 g1 => (hpq q g0 g1).1⟩
      · rw [if_neg (by omega)]
        exact ⟨⟨hin.2.2.1, hin.2.2.2⟩, fun q g0 g1 => (hpq q g0 g1).2.1⟩
    generalize (if b = 0 then clrP sh p else setP sh p) = sh' at *
    have hF : FrR (fun _ => False) (fun i => i = 1) m (up2 m.1 177 1 (J sh'), m.2) := FrR.put7 (KI := fun i => i = 1) rfl _
    refine ⟨(up2 m.1 177 1 (J sh'), m.2), sh', ?_, ⟨⟨?_, ?_, ?_, ?_⟩, fun k g0 g1 j g2 g3 => ?_, fun q g0 g1 => ?_, hsh.1, fun q g0 g1 => ?_⟩, hF.mono (fun _ h => h.elim) (fun i hi => by unfold stI; omega)⟩
    · rw [bX_e, a1, e110, bI_e, nz_bi]
      by_cases c2 : bitP sh p = 1
      · rw [if_pos c2, e124, bV_e, ← hbp, c2]; rfl
      · rw [if_neg c2, e124, bV_e, ← hbp, show bitP sh p = 0 by omega]; rfl
    · rw [hF.2.1 0 (by omega)]; exact a0
    · show up2 m.1 177 1 (J sh') 177 1 = _
      rw [u2_at, if_pos rfl]
    · rw [hF.2.1 2 (by omega)]; exact a2
    · rw [hF.2.1 3 (by omega)]; exact a3
    · rw [hF.1 (177 + k) (fun z => z) (by omega)]; exact r1 k g0 g1 j g2 g3
    · show HeadN q (if q = p then upH (A.2.1 p) 0 4 b else A.2.1 q) _
      have hq := (r2 q g0 g1).fr hF (fun k _ _ z => z)
      by_cases w : q = p
      · subst w
        rw [if_pos rfl]
        exact hq.eq (fun j z0 z1 => by unfold upH; rw [if_neg (by omega)]) (fun j z0 z1 => by unfold upH; rw [if_neg (by omega)]) (fun j z0 z1 _ => by unfold upH; rw [if_neg (by omega)]) (fun j z0 z1 => by unfold upH; rw [if_neg (by omega)])
      · rw [if_neg w]
        exact hq
    · show _ = (if q = p then upH (A.2.1 p) 0 4 b else A.2.1 q) 0 4
      have g1 : q < A.1 0 0 := g1
      rw [hsh.2 q g0 (by omega)]
      by_cases w : q = p
      · rw [if_pos w, if_pos w.symm]; simp [upH]
      · rw [if_neg w, if_neg (fun z => w z.symm)]; exact r3.2 q g0 g1
  · rw [if_neg c1, if_neg c1, if_neg c1]
    exact ⟨m, sh, rfl, hR, FrR.rf⟩
theorem S_126 (hI : ShI A) (hR : ShN sh A m) {p r x : Int} (h1 : -2147483648 ≤ p ∧ p ≤ 2147483647) (h2 : -2147483648 ≤ r ∧ r ≤ 2147483647) (h3 : -2147483648 ≤ x ∧ x ≤ 2147483647) : ∃ m', cB Q0 (d + 3) 126 [.ref 177, .int (J p), .int (J r), .int (J x)] m = some (some (.int (J (rowA A p r x))), m') ∧ ShN sh (rowS A p r x) m' ∧ FrR stK stI m m' := by
  have i0 := hI.1.1
  have a0 := hR.1.1
  have e1 := S_114 (d := d) a0 i0.1 i0.2 h1.1 h1.2
  have e2 := S_109 (m := m) (d := d + 1) h2.1 h2.2 (show -2147483648 ≤ (0 : Int) by omega) (by omega) (show -2147483648 ≤ (3 : Int) by omega) (by omega)
  have e3 := S_109 (m := m) (d := d + 1) h3.1 h3.2 (show -2147483648 ≤ (0 : Int) by omega) (by omega) (show -2147483648 ≤ (9 : Int) by omega) (by omega)
  rw [cB_eq]
  show ∃ m', rB Q0 126 (cB Q0 (d + 2)) 0 [some (.ref 177), some (.int (J p)), some (.int (J r)), some (.int (J x))] m = _ ∧ _
  rw [T_126_0, e1, bI_e, nz_bi]
  unfold rowA rowS
  by_cases c1 : 0 ≤ p ∧ p ≤ A.1 0 0 - 1
  · rw [if_pos c1, if_pos c1, if_pos c1, show cB Q0 (d + 2) 109 [.ref 177, .int (J r), .int 0, .int 3] m = _ from e2, bI_e, nz_bi]
    have hH := hR.2.2.1 p c1.1 (by omega)
    have hi := (hI.2.2.1 p c1.1 (by omega)).1.1
    obtain ⟨⟨b0, -⟩, b1, -⟩ := id hH
    have n6 : ∀ {α : Type} (x y : α), bT (Q0.1 0 (J (A.2.1 p 0 0)) 6) x y = if A.2.1 p 0 0 = 6 then x else y := fun x y => q0_J (b := 6) (by omega) (by omega) (by omega) (by omega) x y
    by_cases c2 : 0 ≤ r ∧ r ≤ 3
    · rw [if_pos c2, if_pos c2, if_pos c2, show cB Q0 (d + 2) 109 [.ref 177, .int (J x), .int 0, .int 9] m = _ from e3, bI_e, nz_bi]
      by_cases c3 : 0 ≤ x ∧ x ≤ 9
      · rw [if_pos c3, if_pos c3, if_pos c3, cI_J (n := 6) c1.1 (show p < 6 by omega) (by omega), J_clamp c1.1 (by omega), bX_e, b0, n6]
        by_cases c4 : A.2.1 p 0 0 = 6
        · rw [if_pos c4, if_pos c4, if_pos c4]
          have e8 : (4 * J p + J r : Int32) = J (4 * p + r) := by rw [show (4 : Int32) = J 4 from rfl, J_mul, J_add]
          refine ⟨(up2 m.1 185 (4 * p + r).toNat (J x), m.2), ?_, hR.hp ?_ (fun k g0 g1 => ?_) (fun q g0 g1 => ?_) ?_, FrR.put (K := stK) (KI := stI) (k := 185) (by unfold stK; omega) (by omega) _ _⟩
          · simp only [e8]
            rw [cI_J (n := 24) (by omega) (show 4 * p + r < 24 by omega) (by omega), bX_e, c1_J (n := 24) (by omega) (show 4 * p + r < 24 by omega) (by omega), bX_e, J_clamp (by omega) (by omega), b1 r c2.1 (by omega)]
          · exact u2_ne (f := m.1) (k := 185) (j := 177) (4 * p + r).toNat (J x) (by omega)
          · exact u2_ne (f := m.1) (k := 185) (j := k) (4 * p + r).toNat (J x) (by omega)
          · have hh := (hR.2.2.1 q g0 g1).pr g0 c1.1 (q := p) ⟨c2.1, show r < 4 by omega⟩ x
            by_cases qp : q = p
            · subst qp
              rw [if_pos rfl] at hh ⊢
              exact hh
            · rw [if_neg qp] at hh ⊢
              exact hh
          · simp [upH]
        · rw [if_neg c4, if_neg c4, if_neg c4]
          exact ⟨m, rfl, hR, FrR.rf⟩
      · rw [if_neg c3, if_neg c3, if_neg c3]
        exact ⟨m, rfl, hR, FrR.rf⟩
    · rw [if_neg c2, if_neg c2, if_neg c2]
      exact ⟨m, rfl, hR, FrR.rf⟩
  · rw [if_neg c1, if_neg c1, if_neg c1]
    exact ⟨m, rfl, hR, FrR.rf⟩
end
