/-! IN TIME, asked of the class -/
def ndK : Nat → Prop := fun k => k = 140
section
variable {m : SM} {d : Nat} {A : Shp}
theorem L_64b (hR : ShR 1 A m) (hI : ShI A) {nd : Int → Int} (hn : ∀ j, 0 ≤ j → j < A.1 0 0 → m.1 140 j.toNat = J (nd j)) (hb : ∀ j, 0 ≤ nd j ∧ nd j ≤ 16) : ∀ (N : Nat) (b best : Int), 0 ≤ b → b + N = p2 (A.1 0 0) → 0 ≤ best → best < 64 → rB Q0 64 (cB Q0 (d + 3)) 65 [some (.ref 0), none, some (.int (J best)), some (.int (J b))] m = some (some (.int (J (bestF (fun b => areF (A.1 0 0) (dueF A) nd b (A.1 0 0).toNat 0) N b best))), m) := by
  have i0 := hI.1.1
  have hp := p2_at i0.1 i0.2
  have hq := p2_in i0.1 i0.2
  intro N
  induction N with
  | zero =>
    intro b best h0 h1 h2 h3
    rw [T_64_65]
    simp only [hR.1.1, bX_e]
    simp only [lits, hp]
    simp (disch := omega) only [kk, lits, q0_J, q1_J, q2_J, cI_J, cT_J, cB_J, cZ_J, cS_J, c1_J, cA_J, J_clamp, u2_at, reduceIte]
    rw [if_pos (by omega)]
    rfl
  | succ N ih =>
    intro b best h0 h1 h2 h3
    have e1 := S_209 (m := m) (d := d + 2) h0 (show b < 64 by omega)
    have e2 := S_209 (m := m) (d := d + 2) h2 h3
    have e3 := S_100 (d := d + 1) hR hI hn hb h0 (show b < 64 by omega)
    have z1 := pop_in b
    have z2 := pop_in best
    rw [T_64_65]
    simp only [hR.1.1, bX_e]
    simp only [lits, hp]
    simp (disch := omega) only [kk, lits, q0_J, q1_J, q2_J, cI_J, cT_J, cB_J, cZ_J, cS_J, c1_J, cA_J, J_clamp, u2_at, reduceIte, e1, e2, e3, ih (b + 1) best (by omega) (by omega) h2 h3, ih (b + 1) b (by omega) (by omega) h0 (by omega)]
    rw [if_neg (by omega), bestF_s]
    by_cases c1 : pop b ≤ pop best
    · rw [if_pos c1, if_pos c1]
    · rw [if_neg c1, if_neg c1]
      by_cases c2 : areF (A.1 0 0) (dueF A) nd b (A.1 0 0).toNat 0 = true
      · simp only [c2, bi, if_true] <;> rfl
      · simp only [c2, bi, if_false] <;> rfl
theorem L_64a (hI : ShI A) {pace : Int} (h1 : 1 ≤ pace) (h2 : pace ≤ 9) : ∀ (N : Nat) (q : Int) (m : SM), ShR 1 A m → 0 ≤ q → q + N = A.1 0 0 → (∀ j, 0 ≤ j → j < q → m.1 140 j.toNat = J (needF A pace j)) → ∃ m', rB Q0 64 (cB Q0 (d + 3)) 15 [some (.ref 0), some (.int (J pace)), some (.int (J q))] m = some (some (.int (J (inF A pace))), m') ∧ Fr ndK m m' := by
  have i0 := hI.1.1
  have hq := p2_in i0.1 i0.2
  intro N
  induction N with
  | zero =>
    intro q m hR h3 h4 hn
    obtain rfl : q = A.1 0 0 := by omega
    refine ⟨m, ?_, Fr.rf⟩
    have e := L_64b (d := d) hR hI hn (needF_in A h1 h2) (p2 (A.1 0 0) - 1).toNat 1 0 (by omega) (by omega) (by omega) (by omega)
    rw [T_64_15]
    simp (disch := omega) only [kk, lits, q0_J, q1_J, q2_J, cI_J, cT_J, cB_J, cZ_J, cS_J, c1_J, cA_J, J_clamp, u2_at, reduceIte, hR.1.1, e]
    rw [if_pos (Int.le_refl _)]
    rfl
  | succ N ih =>
    intro q m hR h3 h4 hn
    have g : GRt 5 q.toNat = some (hd 1 q) := hd_g (s := 1) (Or.inl rfl) h3 (by omega)
    have hF := hd_F (s := 1) (Or.inl rfl) h3 (show q < 6 by omega)
    have hh := hairs_in (A.2.1 q)
    have e1 := S_8 hF (hR.2.2.1 q h3 (by omega)) (hI.2.2.1 q h3 (by omega)) (d + 2)
    have hdv : J (8 - hairs (A.2.1 q) + pace - 1) / J pace = J (needF A pace q) := J_div (by omega) (by omega) (by omega) (by omega)
    have hF1 : Fr ndK m (up2 m.1 140 q.toNat (J (needF A pace q)), m.2) := Fr.put (K := ndK) rfl _ _
    obtain ⟨m', q1, q2⟩ := ih (q + 1) _ (hR.fr i0.2 hF1 fun k g1 g2 => by unfold ndK; omega) (by omega) (by omega) fun j g1 g2 => by
      show up2 m.1 140 q.toNat (J (needF A pace q)) 140 j.toNat = _
      rw [u2_at]
      by_cases c : j = q
      · rw [if_pos (by omega), c]
      · rw [if_neg (by omega), hn j g1 (by omega)]
    refine ⟨m', ?_, hF1.tr q2⟩
    rw [T_64_15]
    simp (disch := omega) only [kk, lits, q0_J, q1_J, q2_J, cI_J, cT_J, cB_J, cZ_J, cS_J, c1_J, cA_J, J_clamp, u2_at, reduceIte, hR.1.1, g, hF.1.1, cO_J, e1, hdv, q1]
    rw [if_neg (by omega), if_neg (by omega)]
theorem S_64 (hR : ShR 1 A m) (hI : ShI A) {pace : Int} (h1 : -2147483648 ≤ pace) (h2 : pace ≤ 2147483647) : ∃ m', cB Q0 (d + 4) 64 [.ref 0, .int (J pace)] m = some (some (.int (J (if 1 ≤ pace ∧ pace ≤ 9 then inF A pace else -2))), m') ∧ Fr ndK m m' := by
  have i0 := hI.1.1
  have e1 := S_85 (m := m) (d := d + 2) h1 h2 (show -2147483648 ≤ (1 : Int) by omega) (by omega) (show -2147483648 ≤ (9 : Int) by omega) (by omega)
  by_cases c : 1 ≤ pace ∧ pace ≤ 9
  · obtain ⟨m', q1, q2⟩ := L_64a (d := d) hI c.1 c.2 (A.1 0 0).toNat 0 m hR (by omega) (by omega) (fun j g1 g2 => by omega)
    refine ⟨m', ?_, q2⟩
    rw [cB_eq]
    show rB Q0 64 (cB Q0 (d + 3)) 0 [some (.ref 0), some (.int (J pace))] m = _
    rw [T_64_0]
    simp only [lits]
    simp only [e1, bI_e, bi, if_pos c]
    simp (disch := omega) only [kk, lits, q0_J, q1_J, q2_J, cI_J, cT_J, cB_J, cZ_J, cS_J, c1_J, cA_J, J_clamp, u2_at, reduceIte, q1]
    rw [if_neg (by omega)]
  · refine ⟨m, ?_, Fr.rf⟩
    rw [cB_eq]
    show rB Q0 64 (cB Q0 (d + 3)) 0 [some (.ref 0), some (.int (J pace))] m = _
    rw [T_64_0]
    simp only [lits]
    simp only [e1, bI_e, bi, if_neg c]
    simp (disch := omega) only [kk, lits, q0_J, q1_J, q2_J, cI_J, cT_J, cB_J, cZ_J, cS_J, c1_J, cA_J, J_clamp, u2_at, reduceIte]
end
