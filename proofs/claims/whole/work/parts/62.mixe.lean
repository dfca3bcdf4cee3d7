/-! MIXED, asked of the class: all lines -/
theorem AccR.fr {n : Nat} {a : Int × List Nat} {m m' : SM} {K : Nat → Prop} (h : AccR n a m) (hF : Fr K m m') (h1 : ¬ K 134) (h2 : ¬ K 136) : AccR n a m' := by
  unfold AccR
  rw [hF.1 134 h1, hF.1 136 h2]
  exact h
section
variable {m : SM} {d n : Nat} {D : List Nat} {st t : Int → Int}
theorem L_16 (hn : n ≤ 4) (ht : ∀ j : Int, 0 ≤ j → j < 8 → -100000 ≤ t j ∧ t j ≤ 100000) (hsb : ∀ j : Int, 0 ≤ j → j < 8 → 0 ≤ st j ∧ st j ≤ 99) {w : Int} (hw : 0 ≤ w ∧ w ≤ 400) : ∀ (F : Nat) (D : List Nat) (a : Int × List Nat) (m : SM) (i : Int), i + F = 330 → 0 ≤ i → DI n D → RowX n D (m.1 135) → TonR t m → (∀ j : Int, 0 ≤ j → j < 8 → m.1 4 j.toNat = J (st j)) → AccR n a m → ∃ m', rB Q0 16 (cB Q0 (d + 2)) 34 [some (.ref 134), some (.int (J n)), some (.int (J w)), some (.ref 138), some (.ref 4), some (.int (J 1)), some (.int (J i))] m = some (none, m') ∧ AccR n ((seqG n F D).foldl (mixS st t w n) a) m' ∧ Fr mxK m m' := by
  intro F
  induction F with
  | zero =>
    intro D a m i h1 h2 hD hR hT hs hA
    refine ⟨m, ?_, hA, Fr.rf⟩
    rw [T_16_34]
    simp (disch := omega) only [kk, lits, q0_J, q1_J, q2_J, cI_J, cT_J, cB_J, cZ_J, cS_J, c1_J, cA_J, J_clamp, u2_at, reduceIte]
    rw [if_pos (by omega)]
  | succ F ih =>
    intro D a m i h1 h2 hD hR hT hs hA
    have e1 := S_17 (m := m) (d := d + 1) hn hD hR hs hsb
    obtain ⟨m1, e2, e3, e4⟩ : ∃ m1 : SM, (rB Q0 16 (cB Q0 (d + 2)) 34 [some (.ref 134), some (.int (J n)), some (.int (J w)), some (.ref 138), some (.ref 4), some (.int (J 1)), some (.int (J i))] m = bI (cB Q0 (d + 2) 19 [.ref 134, .int (J n)] m1) fun x4 m3 => rB Q0 16 (cB Q0 (d + 2)) 34 [some (.ref 134), some (.int (J n)), some (.int (J w)), some (.ref 138), some (.ref 4), some (.int x4), some (.int (J (i + 1)))] m3) ∧ AccR n (mixS st t w n a D) m1 ∧ Fr weK m m1 := by
      by_cases c : hasL D st n 0 = true
      · obtain ⟨m1, q1, q2, q3⟩ := S_18 (d := d) hn hD hR hT ht hw hA
        refine ⟨m1, ?_, by unfold mixS; rw [if_pos c]; exact q2, q3⟩
        rw [T_16_34]
        simp only [lits]
        simp (disch := omega) only [kk, lits, q0_J, q1_J, q2_J, cI_J, cT_J, cB_J, cZ_J, cS_J, c1_J, cA_J, J_clamp, u2_at, reduceIte, e1, bi, if_pos c, q1]
        rw [if_neg (by omega), if_neg (by omega), if_neg (by omega)]
      · refine ⟨m, ?_, by unfold mixS; rw [if_neg c]; exact hA, Fr.rf⟩
        rw [T_16_34]
        simp only [lits]
        simp (disch := omega) only [kk, lits, q0_J, q1_J, q2_J, cI_J, cT_J, cB_J, cZ_J, cS_J, c1_J, cA_J, J_clamp, u2_at, reduceIte, e1, bi, if_neg c]
        rw [if_neg (by omega), if_neg (by omega)]
    have hR1 : RowX n D (m1.1 135) := by rw [e4.1 135 (by unfold weK; omega)]; exact hR
    obtain ⟨g1, g2⟩ := S_19 (d := d + 1) (m := m1) hn hD hR1
    have hFm : Fr mxK m m1 := e4.mono fun k hk => by unfold weK at hk; unfold mxK; omega
    rw [seqG_s, List.foldl_cons]
    cases hg : goK n n D with
    | none =>
      refine ⟨m1, ?_, e3, hFm⟩
      rw [e2, g1 hg, bI_e, T_16_34]
      simp (disch := omega) only [kk, lits, q0_J, q1_J, q2_J, cI_J, cT_J, cB_J, cZ_J, cS_J, c1_J, cA_J, J_clamp, u2_at, reduceIte]
      split <;> rfl
    | some D2 =>
      obtain ⟨m2, k1, k2, k3, k4⟩ := g2 D2 hg
      obtain ⟨m3, k5, k6, k7⟩ := ih D2 (mixS st t w n a D) m2 (i + 1) (by omega) (by omega) k3 k2 (fun j h0 h1 => by rw [k4.1 138 (by unfold goKs; omega), e4.1 138 (by unfold weK; omega)]; exact hT j h0 h1) (fun j h0 h1 => by rw [k4.1 4 (by unfold goKs; omega), e4.1 4 (by unfold weK; omega)]; exact hs j h0 h1) (e3.fr k4 (by unfold goKs; omega) (by unfold goKs; omega))
      refine ⟨m3, ?_, k6, (hFm.tr (k4.mono fun k hk => Or.inr (Or.inl hk))).tr k7⟩
      rw [e2, k1, bI_e]
      exact k5
theorem S_16 (hn : n ≤ 4) (hT : TonR t m) (ht : ∀ j : Int, 0 ≤ j → j < 8 → -100000 ≤ t j ∧ t j ≤ 100000) (hs : ∀ j : Int, 0 ≤ j → j < 8 → m.1 4 j.toNat = J (st j)) (hsb : ∀ j : Int, 0 ≤ j → j < 8 → 0 ≤ st j ∧ st j ≤ 99) {w : Int} (hw : 0 ≤ w ∧ w ≤ 400) : ∃ m', cB Q0 (d + 3) 16 [.ref 134, .int (J n), .int (J w), .ref 138, .ref 4] m = some (none, m') ∧ AccR n (mixG st t w n) m' ∧ Fr mxK m m' := by
  have W : ∀ (N i : Nat) (m : SM), i + N = 4 → TonR t m → (∀ j : Int, 0 ≤ j → j < 8 → m.1 4 j.toNat = J (st j)) → m.1 134 3 = J 0 → (∀ j, j < i → m.1 135 j = J 0) → ∃ m', rB Q0 16 (cB Q0 (d + 2)) 8 [some (.ref 134), some (.int (J n)), some (.int (J w)), some (.ref 138), some (.ref 4), some (.int (J i))] m = some (none, m') ∧ AccR n (mixG st t w n) m' ∧ Fr mxK m m' := by
    intro N
    induction N with
    | zero =>
      intro i m h1 hT hs h3 hz
      have hd0 : ∀ j, j < n → dG (dgs n 0) j = 0 := fun j hj => by
        unfold dgs
        rw [dG_map hj]
        simp
      obtain ⟨m', k1, k2, k3⟩ := L_16 (d := d) hn ht hsb hw 330 (dgs n 0) (-5, []) m 0 (by omega) (by omega) (fun j hj => by rw [hd0 j hj]; omega) (fun j hj => by rw [hd0 j hj, hz j (by omega)]; rfl) hT hs (Or.inl ⟨rfl, h3⟩)
      refine ⟨m', ?_, k2, k3⟩
      rw [T_16_8]
      simp (disch := omega) only [kk, lits, q0_J, q1_J, q2_J, cI_J, cT_J, cB_J, cZ_J, cS_J, c1_J, cA_J, J_clamp, u2_at, reduceIte]
      rw [if_pos (by omega)]
      exact k1
    | succ N ih =>
      intro i m h1 hT hs h3 hz
      have hF : Fr mxK m (up2 m.1 135 i (J 0), m.2) := Fr.put (K := mxK) (k := 135) (Or.inr (Or.inl rfl)) _ _
      obtain ⟨m', k1, k2, k3⟩ := ih (i + 1) (up2 m.1 135 i (J 0), m.2) (by omega) (fun j h0 h1 => by rw [hF.1 138 (by unfold mxK; omega)]; exact hT j h0 h1) (fun j h0 h1 => by rw [hF.1 4 (by unfold mxK; omega)]; exact hs j h0 h1) (by
        show up2 m.1 135 i (J 0) 134 3 = _
        rw [u2_ne _ _ (by omega)]; exact h3) (fun j hj => by
        show up2 m.1 135 i (J 0) 135 j = _
        rw [u2_at]
        by_cases c : j = i
        · rw [if_pos c]
        · rw [if_neg c, hz j (by omega)])
      refine ⟨m', ?_, k2, hF.tr k3⟩
      rw [T_16_8]
      simp (disch := omega) only [kk, lits, q0_J, q1_J, q2_J, cI_J, cT_J, cB_J, cZ_J, cS_J, c1_J, cA_J, J_clamp, u2_at, reduceIte, Int.toNat_natCast]
      rw [if_neg (by omega)]
      exact k1
  have hF : Fr mxK m (up2 m.1 134 3 (J 0), m.2) := Fr.put (K := mxK) (k := 134) (Or.inl rfl) _ _
  obtain ⟨m', k1, k2, k3⟩ := W 4 0 (up2 m.1 134 3 (J 0), m.2) (by omega) (fun j h0 h1 => by rw [hF.1 138 (by unfold mxK; omega)]; exact hT j h0 h1) (fun j h0 h1 => by rw [hF.1 4 (by unfold mxK; omega)]; exact hs j h0 h1) (by
    show up2 m.1 134 3 (J 0) 134 3 = _
    rw [u2_at, if_pos rfl]) (fun j hj => absurd hj (by omega))
  refine ⟨m', ?_, k2, hF.tr k3⟩
  rw [cB_eq]
  show rB Q0 16 (cB Q0 (d + 2)) 0 [some (.ref 134), some (.int (J n)), some (.int (J w)), some (.ref 138), some (.ref 4)] m = _
  rw [T_16_0]
  simp (disch := omega) only [kk, lits, q0_J, q1_J, q2_J, cI_J, cT_J, cB_J, cZ_J, cS_J, c1_J, cA_J, J_clamp, u2_at, reduceIte, nr_J0]
  exact k1
end
section
variable {m : SM} {d : Nat} {n0 : Int} {T : Int × Cls} {A : Shp}
def miK : Nat → Prop := fun k => k = 134 ∨ k = 135 ∨ k = 136 ∨ k = 137 ∨ k = 138
theorem S_63 (hI : ShI A) (hV : View 1 n0 T A m) {p l n k : Int} (h1 : -2147483648 ≤ p ∧ p ≤ 2147483647) (h2 : -2147483648 ≤ l ∧ l ≤ 2147483647) (h3 : -2147483648 ≤ n ∧ n ≤ 2147483647) (h4 : -2147483648 ≤ k ∧ k ≤ 2147483647) : ∃ m', cB Q0 (d + 5) 63 [.ref 0, .int (J p), .int (J l), .int (J n), .int (J k)] m = some (some (.int (J (mixA A T.2 p l n k))), m') ∧ Fr miK m m' := by
  have i0 := hI.1.1
  have e1 := S_87 (d := d + 2) hV.1.1.1 i0.1 i0.2 h1.1 h1.2
  have e2 := S_89 (m := m) (d := d + 2) h2.1 h2.2
  have e3 := S_85 (m := m) (d := d + 3) h4.1 h4.2 (show -2147483648 ≤ (-1 : Int) by omega) (by omega) (show -2147483648 ≤ (3 : Int) by omega) (by omega)
  have e4 := S_85 (m := m) (d := d + 3) h3.1 h3.2 (show -2147483648 ≤ (1 : Int) by omega) (by omega) (show -2147483648 ≤ (4 : Int) by omega) (by omega)
  have hC : cB Q0 (d + 5) 63 [.ref 0, .int (J p), .int (J l), .int (J n), .int (J k)] m = rB Q0 63 (cB Q0 (d + 4)) 0 [some (.ref 0), some (.int (J p)), some (.int (J l)), some (.int (J n)), some (.int (J k))] m := by
    rw [cB_eq]
    rfl
  have w1 : ((1 : Int) = 0) = False := by simp
  rw [hC, T_63_0]
  unfold mixA
  by_cases c1 : 0 ≤ p ∧ p ≤ A.1 0 0 - 1
  · rw [if_neg (fun z => z c1)]
    by_cases c2 : 0 ≤ l ∧ l ≤ 1
    · rw [if_neg (fun z => z c2)]
      by_cases c3 : -1 ≤ k ∧ k ≤ 3
      · rw [if_neg (fun z => z c3)]
        by_cases c4 : 1 ≤ n ∧ n ≤ 4
        · rw [if_neg (fun z => z c4)]
          obtain ⟨m1, q1, q2, q3⟩ := S_94 (d := d) (Or.inl rfl) hI hV (p := p) (l := l) ⟨c1.1, by omega⟩ c2
          have hV1 := hV.frT (Or.inl rfl) hI q3
          have hHI := hI.2.2.1 p c1.1 (by omega)
          have hh := hHI.1.2.2.1
          have hw : 0 ≤ n * A.2.1 p 0 2 ∧ n * A.2.1 p 0 2 ≤ 400 := by
            rcases (show n = 1 ∨ n = 2 ∨ n = 3 ∨ n = 4 by omega) with rfl | rfl | rfl | rfl <;> omega
          have hs4 := hV1.1.2.1 3 (by omega) (by omega)
          have hsb := hI.2.1 3 (by omega) (by omega)
          obtain ⟨m2, r1, r2, r3⟩ := S_16 (d := d + 1) (n := n.toNat) (by omega) q2 (toneA_bd8 hI hV.2.2.2 ⟨c1.1, by omega⟩) hs4 hsb hw
          rw [show ((n.toNat : Nat) : Int) = n by omega] at r1
          have g : GRt 5 p.toNat = some (hd 1 p) := hd_g (s := 1) (Or.inl rfl) c1.1 (by omega)
          have hF := (hd_F (s := 1) (Or.inl rfl) c1.1 (show p < 6 by omega)).1.1
          have hd2 : m1.1 (hd 1 p) 2 = J (A.2.1 p 0 2) := (hV1.1.2.2.1 p c1.1 (by omega)).1.2.2.1
          refine ⟨m2, ?_, (q3.mono fun k hk => by unfold kT at hk; unfold miK; omega).tr (r3.mono fun k hk => by unfold mxK at hk; unfold miK; omega)⟩
          simp only [lits]
          simp (disch := omega) only [kk, lits, q0_J, q1_J, q2_J, cI_J, cT_J, cB_J, cZ_J, cS_J, c1_J, cA_J, J_clamp, u2_at, reduceIte, e1, e2, e3, e4, bi, if_pos c1, if_pos c2, if_pos c3, if_pos c4, q1, g, hF, cO_J, hd2, r1, w1, if_false]
          generalize mixG (A.1 3) (fun dr => toneA A T.2 p dr l) (n * A.2.1 p 0 2) n.toNat = a at r2 ⊢
          rcases r2 with ⟨z1, z2⟩ | ⟨z1, z2, z3, z4⟩
          · rw [show mixR n k a = -5 by unfold mixR; rw [if_pos (by omega)]]
            simp (disch := omega) only [kk, lits, q0_J, q1_J, q2_J, cI_J, cT_J, cB_J, cZ_J, cS_J, c1_J, cA_J, J_clamp, u2_at, reduceIte, z2]
          · by_cases y1 : k < 0
            · rw [show mixR n k a = a.1 by unfold mixR; rw [if_neg (show ¬ a.1 < 0 by omega), if_pos y1]]
              simp (disch := omega) only [kk, lits, q0_J, q1_J, q2_J, cI_J, cT_J, cB_J, cZ_J, cS_J, c1_J, cA_J, J_clamp, u2_at, reduceIte, z2, z3, w1, if_false]
              rw [if_pos (show k < n by omega), if_neg (show ¬ 0 ≤ k by omega)]
            · by_cases y2 : n ≤ k
              · rw [show mixR n k a = -5 by unfold mixR; rw [if_neg (show ¬ a.1 < 0 by omega), if_neg y1, if_pos y2]]
                simp (disch := omega) only [kk, lits, q0_J, q1_J, q2_J, cI_J, cT_J, cB_J, cZ_J, cS_J, c1_J, cA_J, J_clamp, u2_at, reduceIte, z2, z3, w1, if_false]
                rw [if_neg (show ¬ k < n by omega)]
              · rw [show mixR n k a = (dG a.2 k.toNat : Nat) by unfold mixR; rw [if_neg (show ¬ a.1 < 0 by omega), if_neg y1, if_neg y2]]
                have z5 := z4 k.toNat (by omega)
                simp (disch := omega) only [kk, lits, q0_J, q1_J, q2_J, cI_J, cT_J, cB_J, cZ_J, cS_J, c1_J, cA_J, J_clamp, u2_at, reduceIte, z2, z3, w1, if_false]
                rw [if_pos (show k < n by omega), if_pos (show 0 ≤ k by omega), z5]
        · rw [if_pos c4]
          refine ⟨m, ?_, Fr.rf⟩
          simp only [lits]
          simp (disch := omega) only [kk, lits, q0_J, q1_J, q2_J, cI_J, cT_J, cB_J, cZ_J, cS_J, c1_J, cA_J, J_clamp, u2_at, reduceIte, e1, e2, e3, e4, bi, if_pos c1, if_pos c2, if_pos c3, if_neg c4, w1, if_false]
      · rw [if_pos c3]
        refine ⟨m, ?_, Fr.rf⟩
        simp only [lits]
        simp (disch := omega) only [kk, lits, q0_J, q1_J, q2_J, cI_J, cT_J, cB_J, cZ_J, cS_J, c1_J, cA_J, J_clamp, u2_at, reduceIte, e1, e2, e3, e4, bi, if_pos c1, if_pos c2, if_neg c3, w1, if_false]
    · rw [if_pos c2]
      refine ⟨m, ?_, Fr.rf⟩
      simp only [lits]
      simp (disch := omega) only [kk, lits, q0_J, q1_J, q2_J, cI_J, cT_J, cB_J, cZ_J, cS_J, c1_J, cA_J, J_clamp, u2_at, reduceIte, e1, e2, bi, if_pos c1, if_neg c2, w1, if_false]
  · rw [if_pos c1]
    refine ⟨m, ?_, Fr.rf⟩
    simp only [lits]
    simp (disch := omega) only [kk, lits, q0_J, q1_J, q2_J, cI_J, cT_J, cB_J, cZ_J, cS_J, c1_J, cA_J, J_clamp, u2_at, reduceIte, e1, bi, if_neg c1]
end
