/-! THE SETTERS, asked of the reference: the methods -/
section
variable {m : SM} {d : Nat} {A : Shp} {sh : Int}
theorem S_120 (hI : ShI A) (hR : ShN sh A m) {k v e : Int} (h1 : -2147483648 ≤ k ∧ k ≤ 2147483647) (h2 : -2147483648 ≤ v ∧ v ≤ 2147483647) (h3 : -2147483648 ≤ e ∧ e ≤ 2147483647) : ∃ m' sh', cB Q0 (d + 3) 120 [.ref 177, .int (J k), .int (J v), .int (J e)] m = some (some (.int (J (headA A k v e))), m') ∧ ShN sh' (headS A k v e) m' ∧ FrR stK stI m m' := by
  have i0 := hI.1.1
  have a0 := hR.1.1
  have e1 := S_109 (m := m) (d := d + 1) h1.1 h1.2 (show -2147483648 ≤ (0 : Int) by omega) (by omega) (show -2147483648 ≤ (6 : Int) by omega) (by omega)
  have e2 := S_109 (m := m) (d := d + 1) h2.1 h2.2 (show -2147483648 ≤ (0 : Int) by omega) (by omega) (show -2147483648 ≤ (9 : Int) by omega) (by omega)
  have e3 := S_117 (m := m) (d := d) h3.1 h3.2
  have n6 : ∀ {α : Type} (x y : α), bT (Q0.1 0 (J (A.1 0 0)) 6) x y = if A.1 0 0 = 6 then x else y := fun x y => q0_J (b := 6) (by omega) (by omega) (by omega) (by omega) x y
  rw [cB_eq]
  show ∃ m' sh', rB Q0 120 (cB Q0 (d + 2)) 0 [some (.ref 177), some (.int (J k)), some (.int (J v)), some (.int (J e))] m = _ ∧ _
  rw [T_120_0]
  unfold headA headS
  rw [show cB Q0 (d + 2) 109 [.ref 177, .int (J k), .int 0, .int 6] m = _ from e1, bI_e, nz_bi]
  by_cases c1 : 0 ≤ k ∧ k ≤ 6
  · rw [if_pos c1, if_pos c1, if_pos c1, show cB Q0 (d + 2) 109 [.ref 177, .int (J v), .int 0, .int 9] m = _ from e2, bI_e, nz_bi]
    by_cases c2 : 0 ≤ v ∧ v ≤ 9
    · rw [if_pos c2, if_pos c2, if_pos c2, e3, bI_e, nz_bi]
      by_cases c3 : 0 ≤ e ∧ e ≤ 99
      · rw [if_pos c3, if_pos c3, if_pos c3, bX_e, a0, n6]
        by_cases c4 : A.1 0 0 < 6
        · rw [if_neg (show ¬ A.1 0 0 = 6 by omega), if_pos c4, if_pos c4]
          obtain ⟨⟨-, a1, a2, a3⟩, r1, r2, r3⟩ := hR
          have hb := (pbits_at (x := sh) (p := A.1 0 0) r3.1.1 r3.1.2 i0.1 c4).2.1
          generalize hN : A.1 0 0 = N at *
          generalize hM1 : ((up2 (up2 (up2 (up2 (up2 m.1 181 N.toNat (J k)) 182 N.toNat (J v)) 183 N.toNat (J e)) 184 N.toNat (J 30)) 177 1 (J (clrP sh N)), m.2) : SM) = M1
          have f1 : FrR stK stI m M1 := by
            rw [← hM1]
            refine ⟨fun k hk h7 => ?_, fun i hi => ?_, rfl⟩
            · unfold stK at hk
              simp (disch := omega) only [u2_ne]
            · unfold stI at hi
              simp (disch := omega) only [u2_at, u2_ne]
              rw [if_neg (by omega)]
          have b0 : M1.1 177 0 = J N := by
            rw [← hM1]; simp (disch := omega) only [u2_at, u2_ne]; exact a0
          have b1 : M1.1 177 1 = J (clrP sh N) := by
            rw [← hM1]; simp (disch := omega) only [u2_at, if_true]
          obtain ⟨M2, q1, q2, q3, q4⟩ := S_119 (m := M1) (d := d + 1) (p := N) ⟨i0.1, c4⟩
          have f2 : FrR stK stI M1 M2 := q4.mono (fun k hk => by unfold tiK at hk; unfold stK; omega) fun _ h => h.elim
          obtain ⟨M3, w1, w2, w3, w4, w5⟩ := L_120 (p := N) (cf := cB Q0 (d + 2)) ⟨i0.1, c4⟩ 4 0 M2 (by omega) (by omega) (by rw [q4.2.1 0 (fun z => z)]; exact b0) (fun j g0 g1 => by omega)
          have f3 : FrR stK stI M2 M3 := w5.mono (fun k hk => by unfold stK; omega) (fun i hi => by unfold stI; omega)
          have k3 : ∀ k, k ≠ 185 → k ≠ 187 → k ≠ 177 → M3.1 k = M1.1 k := fun k z1 z2 z3 => by rw [w5.1 k z1 z3, q4.1 k z2 z3]
          have x181 : M1.1 181 = up2 m.1 181 N.toNat (J k) 181 := by rw [← hM1]; simp (disch := omega) only [u2_ne]
          have x182 : M1.1 182 = up2 m.1 182 N.toNat (J v) 182 := by rw [← hM1]; funext i; simp (disch := omega) only [u2_ne, u2_at]
          have x183 : M1.1 183 = up2 m.1 183 N.toNat (J e) 183 := by rw [← hM1]; funext i; simp (disch := omega) only [u2_ne, u2_at]
          have x184 : M1.1 184 = up2 m.1 184 N.toNat (J 30) 184 := by rw [← hM1]; funext i; simp (disch := omega) only [u2_ne, u2_at]
          have xk : ∀ k, k ≠ 177 → ¬ (181 ≤ k ∧ k ≤ 184) → M1.1 k = m.1 k := fun k z1 z2 => by rw [← hM1]; simp (disch := omega) only [u2_ne]
          have hpq := fun q h4 h5 => pbits_q (x := sh) (p := N) (q := q) r3.1.1 r3.1.2 i0.1 c4 h4 h5
          have hcl := (hpq 0 (by omega) (by omega)).2.2
          have hc : (upS (upHd A N (newH k v e)) 0 (N + 1)).1 0 0 = N + 1 := by simp [upS, upH]
          refine ⟨M3, clrP sh N, ?_, ⟨⟨?_, ?_, ?_, ?_⟩, fun k g0 g1 j g2 g3 => ?_, fun p g0 g1 => ?_, ⟨hcl.1, hcl.2.1⟩, fun p g0 g1 => ?_⟩, (f1.tr f2).tr f3⟩
          · simp only [lits]
            simp (disch := omega) only [kk, lits, q0_J, q1_J, q2_J, cI_J, cT_J, cB_J, cZ_J, cS_J, c1_J, cA_J, J_clamp, u2_at, reduceIte, a0, a1, u2_ne, hb]
            rw [hM1, if_neg (show ¬ (0 : Nat) = 1 by omega), q1, bV_e]
            exact w1
          · rw [hc]; exact w2
          · rw [w5.2.1 1 (by omega), q4.2.1 1 (fun z => z)]; exact b1
          · rw [w5.2.1 2 (by omega), q4.2.1 2 (fun z => z), f1.2.1 2 (by unfold stI; omega), a2]; simp [upS, upHd, upH]
          · rw [w5.2.1 3 (by omega), q4.2.1 3 (fun z => z), f1.2.1 3 (by unfold stI; omega), a3]; simp [upS, upHd, upH]
          · rw [k3 (177 + k) (by omega) (by omega) (by omega), xk _ (by omega) (by omega), r1 k g0 g1 j g2 g3]
            show _ = J (upH A.1 0 0 (N + 1) k j)
            unfold upH
            rw [if_neg (by omega)]
          · rw [hc] at g1
            show HeadN p (if p = N then newH k v e else A.2.1 p) M3
            by_cases q : p = N
            · subst q
              rw [if_pos rfl]
              refine ⟨⟨?_, ?_, ?_, ?_⟩, fun j z0 z1 => ?_, fun j z0 z1 z2 => ?_, fun j z0 z1 => ?_⟩
              · rw [k3 181 (by omega) (by omega) (by omega), x181, u2_at, if_pos rfl]; rfl
              · rw [k3 182 (by omega) (by omega) (by omega), x182, u2_at, if_pos rfl]; rfl
              · rw [k3 183 (by omega) (by omega) (by omega), x183, u2_at, if_pos rfl]; rfl
              · rw [k3 184 (by omega) (by omega) (by omega), x184, u2_at, if_pos rfl]; rfl
              · rw [w3 j z0 z1]; rfl
              · exact absurd rfl z2
              · rw [w5.1 187 (by omega) (by omega), q2 j z0 z1]; rfl
            · rw [if_neg q]
              obtain ⟨⟨y0, y1, y2, y3⟩, y4, y5, y6⟩ := r2 p g0 (by omega)
              have hne : ¬ p.toNat = N.toNat := by omega
              refine ⟨⟨?_, ?_, ?_, ?_⟩, fun j z0 z1 => ?_, fun j z0 z1 z2 => ?_, fun j z0 z1 => ?_⟩
              · rw [k3 181 (by omega) (by omega) (by omega), x181, u2_at, if_neg hne]; exact y0
              · rw [k3 182 (by omega) (by omega) (by omega), x182, u2_at, if_neg hne]; exact y1
              · rw [k3 183 (by omega) (by omega) (by omega), x183, u2_at, if_neg hne]; exact y2
              · rw [k3 184 (by omega) (by omega) (by omega), x184, u2_at, if_neg hne]; exact y3
              · rw [w4 (4 * p + j) (by omega) (by omega), q4.1 185 (by unfold tiK; omega) (by omega), xk _ (by omega) (by omega)]; exact y4 j z0 z1
              · rw [k3 186 (by omega) (by omega) (by omega), xk _ (by omega) (by omega)]; exact y5 j z0 z1 z2
              · rw [w5.1 187 (by omega) (by omega), q3 (8 * p + j) (by omega) (by omega), xk _ (by omega) (by omega)]; exact y6 j z0 z1
          · rw [hc] at g1
            show _ = (if p = N then newH k v e else A.2.1 p) 0 4
            rw [(hpq p g0 (by omega)).1]
            by_cases q : p = N
            · rw [if_pos q.symm, if_pos q]; rfl
            · rw [if_neg (fun z => q z.symm), if_neg q]; exact r3.2 p g0 (by omega)
        · rw [if_pos (show A.1 0 0 = 6 by omega), if_neg c4, if_neg c4]
          exact ⟨m, sh, rfl, hR, FrR.rf⟩
      · rw [if_neg c3, if_neg c3, if_neg c3]
        exact ⟨m, sh, rfl, hR, FrR.rf⟩
    · rw [if_neg c2, if_neg c2, if_neg c2]
      exact ⟨m, sh, rfl, hR, FrR.rf⟩
  · rw [if_neg c1, if_neg c1, if_neg c1]
    exact ⟨m, sh, rfl, hR, FrR.rf⟩
theorem S_121 (hI : ShI A) (hR : ShN sh A m) {p w x : Int} (h1 : -2147483648 ≤ p ∧ p ≤ 2147483647) (h2 : -2147483648 ≤ w ∧ w ≤ 2147483647) (h3 : -2147483648 ≤ x ∧ x ≤ 2147483647) : ∃ m', cB Q0 (d + 3) 121 [.ref 177, .int (J p), .int (J w), .int (J x)] m = some (some (.int (J (setA A p w x))), m') ∧ ShN sh (setS A p w x) m' ∧ FrR stK stI m m' := by
  have i0 := hI.1.1
  have a0 := hR.1.1
  have e1 := S_114 (d := d) a0 i0.1 i0.2 h1.1 h1.2
  have e2 := S_109 (m := m) (d := d + 1) h2.1 h2.2 (show -2147483648 ≤ (0 : Int) by omega) (by omega) (show -2147483648 ≤ (1 : Int) by omega) (by omega)
  have e3 := S_109 (m := m) (d := d + 1) h3.1 h3.2 (show -2147483648 ≤ (0 : Int) by omega) (by omega) (show -2147483648 ≤ (99 : Int) by omega) (by omega)
  have e4 := S_109 (m := m) (d := d + 1) h3.1 h3.2 (show -2147483648 ≤ (0 : Int) by omega) (by omega) (show -2147483648 ≤ (30 : Int) by omega) (by omega)
  have n0 : ∀ {α : Type} (x y : α), bT (Q0.1 0 (J w) 0) x y = if w = 0 then x else y := fun x y => q0_J (b := 0) (by omega) (by omega) (by omega) (by omega) x y
  rw [cB_eq]
  show ∃ m', rB Q0 121 (cB Q0 (d + 2)) 0 [some (.ref 177), some (.int (J p)), some (.int (J w)), some (.int (J x))] m = _ ∧ _
  rw [T_121_0, e1, bI_e, nz_bi]
  unfold setA setS
  by_cases c1 : 0 ≤ p ∧ p ≤ A.1 0 0 - 1
  · rw [if_pos c1, if_pos c1, if_pos c1, show cB Q0 (d + 2) 109 [.ref 177, .int (J w), .int 0, .int 1] m = _ from e2, bI_e, nz_bi]
    obtain ⟨⟨-, -, b2, b3⟩, -⟩ := hR.2.2.1 p c1.1 (by omega)
    by_cases c2 : 0 ≤ w ∧ w ≤ 1
    · rw [if_pos c2, if_pos c2, if_pos c2, n0]
      by_cases c3 : w = 0
      · rw [if_pos c3, if_pos c3, if_pos c3, show cB Q0 (d + 2) 109 [.ref 177, .int (J x), .int 0, .int 99] m = _ from e3, bI_e, nz_bi]
        by_cases c4 : 0 ≤ x ∧ x ≤ 99
        · rw [if_pos c4, if_pos c4, if_pos c4]
          refine ⟨(up2 m.1 183 p.toNat (J x), m.2), ?_, hR.hp ?_ (fun k g0 g1 => ?_) (fun q g0 g1 => ?_) ?_, FrR.put (K := stK) (KI := stI) (k := 183) (by unfold stK; omega) (by omega) _ _⟩
          · rw [n0, if_pos c3, cI_J (n := 6) c1.1 (show p < 6 by omega) (by omega), bX_e, n0, if_pos c3, c1_J (n := 6) c1.1 (show p < 6 by omega) (by omega), bX_e, J_clamp c1.1 (by omega), b2]
          · exact u2_ne (f := m.1) (k := 183) (j := 177) p.toNat (J x) (by omega)
          · exact u2_ne (f := m.1) (k := 183) (j := k) p.toNat (J x) (by omega)
          · by_cases qp : q = p
            · subst qp
              have hh := (hR.2.2.1 q g0 g1).p0 (w := 2) (j := 2) rfl (by omega) g0 g0 (q := q) x
              rw [if_pos rfl] at hh ⊢
              exact hh
            · have hh := (hR.2.2.1 q g0 g1).p0 (w := 2) (j := 2) rfl (by omega) g0 c1.1 (q := p) x
              rw [if_neg qp] at hh ⊢
              exact hh
          · simp [upH]
        · rw [if_neg c4, if_neg c4, if_neg c4]
          exact ⟨m, rfl, hR, FrR.rf⟩
      · rw [if_neg c3, if_neg c3, if_neg c3, show cB Q0 (d + 2) 109 [.ref 177, .int (J x), .int 0, .int 30] m = _ from e4, bI_e, nz_bi]
        by_cases c4 : 0 ≤ x ∧ x ≤ 30
        · rw [if_pos c4, if_pos c4, if_pos c4]
          refine ⟨(up2 m.1 184 p.toNat (J x), m.2), ?_, hR.hp ?_ (fun k g0 g1 => ?_) (fun q g0 g1 => ?_) ?_, FrR.put (K := stK) (KI := stI) (k := 184) (by unfold stK; omega) (by omega) _ _⟩
          · rw [n0, if_neg c3, cI_J (n := 6) c1.1 (show p < 6 by omega) (by omega), bX_e, n0, if_neg c3, c1_J (n := 6) c1.1 (show p < 6 by omega) (by omega), bX_e, J_clamp c1.1 (by omega), b3]
          · exact u2_ne (f := m.1) (k := 184) (j := 177) p.toNat (J x) (by omega)
          · exact u2_ne (f := m.1) (k := 184) (j := k) p.toNat (J x) (by omega)
          · by_cases qp : q = p
            · subst qp
              have hh := (hR.2.2.1 q g0 g1).p0 (w := 3) (j := 3) rfl (by omega) g0 g0 (q := q) x
              rw [if_pos rfl] at hh ⊢
              exact hh
            · have hh := (hR.2.2.1 q g0 g1).p0 (w := 3) (j := 3) rfl (by omega) g0 c1.1 (q := p) x
              rw [if_neg qp] at hh ⊢
              exact hh
          · simp [upH]
        · rw [if_neg c4, if_neg c4, if_neg c4]
          exact ⟨m, rfl, hR, FrR.rf⟩
    · rw [if_neg c2, if_neg c2, if_neg c2]
      exact ⟨m, rfl, hR, FrR.rf⟩
  · rw [if_neg c1, if_neg c1, if_neg c1]
    exact ⟨m, rfl, hR, FrR.rf⟩
theorem S_122 (hI : ShI A) (hR : ShN sh A m) {r w x : Int} (h1 : -2147483648 ≤ r ∧ r ≤ 2147483647) (h2 : -2147483648 ≤ w ∧ w ≤ 2147483647) (h3 : -2147483648 ≤ x ∧ x ≤ 2147483647) : ∃ m', cB Q0 (d + 3) 122 [.ref 177, .int (J r), .int (J w), .int (J x)] m = some (some (.int (J (drwA A r w x))), m') ∧ ShN sh (drwS A r w x) m' ∧ FrR stK stI m m' := by
  have e1 := S_115 (m := m) (d := d) h1.1 h1.2
  have e2 := S_109 (m := m) (d := d + 1) h2.1 h2.2 (show -2147483648 ≤ (0 : Int) by omega) (by omega) (show -2147483648 ≤ (2 : Int) by omega) (by omega)
  have e3 := S_117 (m := m) (d := d) h3.1 h3.2
  have n0 : ∀ {α : Type} (x y : α), bT (Q0.1 0 (J w) 0) x y = if w = 0 then x else y := fun x y => q0_J (b := 0) (by omega) (by omega) (by omega) (by omega) x y
  have n1 : ∀ {α : Type} (x y : α), bT (Q0.1 0 (J w) 1) x y = if w = 1 then x else y := fun x y => q0_J (b := 1) (by omega) (by omega) (by omega) (by omega) x y
  have n2 : ∀ {α : Type} (x y : α), bT (Q0.1 0 (J w) 2) x y = if w = 2 then x else y := fun x y => q0_J (b := 2) (by omega) (by omega) (by omega) (by omega) x y
  rw [cB_eq]
  show ∃ m', rB Q0 122 (cB Q0 (d + 2)) 0 [some (.ref 177), some (.int (J r)), some (.int (J w)), some (.int (J x))] m = _ ∧ _
  rw [T_122_0, e1, bI_e, nz_bi]
  unfold drwA drwS
  by_cases c1 : 0 ≤ r ∧ r ≤ 7
  · rw [if_pos c1, if_pos c1, if_pos c1, show cB Q0 (d + 2) 109 [.ref 177, .int (J w), .int 0, .int 2] m = _ from e2, bI_e, nz_bi]
    by_cases c2 : 0 ≤ w ∧ w ≤ 2
    · rw [if_pos c2, if_pos c2, if_pos c2, e3, bI_e, nz_bi]
      by_cases c3 : 0 ≤ x ∧ x ≤ 99
      · have key : ∀ k : Nat, 0 < k → k ≤ 3 → ShN sh (upD A k r x) (up2 m.1 (177 + k) r.toNat (J x), m.2) ∧ FrR stK stI m (up2 m.1 (177 + k) r.toNat (J x), m.2) := fun k g0 g1 => ⟨hR.dr ⟨g0, g1⟩ c1.1 x, FrR.put (K := stK) (KI := stI) (k := 177 + k) (by unfold stK; omega) (by omega) _ _⟩
        have s1 : m.1 178 r.toNat = J (A.1 1 r) := hR.2.1 1 (by omega) (by omega) r c1.1 (by omega)
        have s2 : m.1 179 r.toNat = J (A.1 2 r) := hR.2.1 2 (by omega) (by omega) r c1.1 (by omega)
        have s3 : m.1 180 r.toNat = J (A.1 3 r) := hR.2.1 3 (by omega) (by omega) r c1.1 (by omega)
        have q1 : ∀ {α : Type} (x y : α), bT (okI Q0 (.inr (0, 8)) (J r)) x y = x := fun x y => cI_J (n := 8) c1.1 (show r < 8 by omega) (by omega) x y
        have q2 : ∀ {α : Type} (x y : α), bT (ok1 Q0 0 (.inr (0, 8)) (J r)) x y = x := fun x y => c1_J (n := 8) c1.1 (show r < 8 by omega) (by omega) x y
        have q3 : (J r).toNatClampNeg = r.toNat := J_clamp c1.1 (by omega)
        rw [if_pos c3, if_pos c3, if_pos c3, n0]
        by_cases c4 : w = 0
        · have d1 : ¬ w = 1 := by omega
          have d2 : ¬ w = 2 := by omega
          rw [if_pos c4, if_pos c4, if_pos c4]
          refine ⟨_, ?_, key 1 (by omega) (by omega)⟩
          rw [q1, bX_e, n0, if_pos c4, q2, bX_e, n1, if_neg d1, n2, if_neg d2, q3, s1]
        · rw [if_neg c4, if_neg c4, if_neg c4, n1]
          by_cases c5 : w = 1
          · have d2 : ¬ w = 2 := by omega
            rw [if_pos c5, if_pos c5, if_pos c5]
            refine ⟨_, ?_, key 2 (by omega) (by omega)⟩
            rw [q1, bX_e, n0, if_neg c4, n1, if_pos c5, q2, bX_e, n2, if_neg d2, q3, s2]
          · have d2 : w = 2 := by omega
            rw [if_neg c5, if_neg c5, if_neg c5]
            refine ⟨_, ?_, key 3 (by omega) (by omega)⟩
            rw [q1, bX_e, n0, if_neg c4, n1, if_neg c5, n2, if_pos d2, q2, bX_e, q3, s3]
      · rw [if_neg c3, if_neg c3, if_neg c3]
        exact ⟨m, rfl, hR, FrR.rf⟩
    · rw [if_neg c2, if_neg c2, if_neg c2]
      exact ⟨m, rfl, hR, FrR.rf⟩
  · rw [if_neg c1, if_neg c1, if_neg c1]
    exact ⟨m, rfl, hR, FrR.rf⟩
theorem S_123 (hI : ShI A) (hR : ShN sh A m) {p c r t : Int} (h1 : -2147483648 ≤ p ∧ p ≤ 2147483647) (h2 : -2147483648 ≤ c ∧ c ≤ 2147483647) (h3 : -2147483648 ≤ r ∧ r ≤ 2147483647) (h4 : -2147483648 ≤ t ∧ t ≤ 2147483647) : ∃ m', cB Q0 (d + 3) 123 [.ref 177, .int (J p), .int (J c), .int (J r), .int (J t)] m = some (some (.int (J (knoA A p c r t))), m') ∧ ShN sh (knoS A p c r t) m' ∧ FrR stK stI m m' := by
  have i0 := hI.1.1
  have a0 := hR.1.1
  have e1 := S_114 (d := d) a0 i0.1 i0.2 h1.1 h1.2
  have e2 := S_116 (m := m) (d := d) h2.1 h2.2
  have e3 := S_115 (m := m) (d := d) h3.1 h3.2
  have e4 := S_109 (m := m) (d := d + 1) h4.1 h4.2 (show -2147483648 ≤ (1 : Int) by omega) (by omega) (show -2147483648 ≤ (9 : Int) by omega) (by omega)
  rw [cB_eq]
  show ∃ m', rB Q0 123 (cB Q0 (d + 2)) 0 [some (.ref 177), some (.int (J p)), some (.int (J c)), some (.int (J r)), some (.int (J t))] m = _ ∧ _
  rw [T_123_0, e1, bI_e, nz_bi]
  unfold knoA knoS
  by_cases c1 : 0 ≤ p ∧ p ≤ A.1 0 0 - 1
  · rw [if_pos c1, if_pos c1, if_pos c1, e2, bI_e, nz_bi]
    have hH := hR.2.2.1 p c1.1 (by omega)
    have hi := hI.2.2.1 p c1.1 (by omega)
    by_cases c2 : 0 ≤ c ∧ c ≤ 7
    · rw [if_pos c2, if_pos c2, if_pos c2, e3, bI_e, nz_bi]
      by_cases c3 : 0 ≤ r ∧ r ≤ 7
      · rw [if_pos c3, if_pos c3, if_pos c3, show cB Q0 (d + 2) 109 [.ref 177, .int (J t), .int 1, .int 9] m = _ from e4, bI_e, nz_bi]
        by_cases c4 : 1 ≤ t ∧ t ≤ 9
        · rw [if_pos c4, if_pos c4, if_pos c4]
          have b3 := hH.2.2.2 c c2.1 (by omega)
          have j2 := hi.2.2 c c2.1 (by omega)
          have s3 : m.1 180 r.toNat = J (A.1 3 r) := hR.2.1 3 (by omega) (by omega) r c3.1 (by omega)
          have j3 := hI.2.1 3 (by omega) (by omega) r c3.1 (by omega)
          have e8 : (8 * J p + J c : Int32) = J (8 * p + c) := by rw [show (8 : Int32) = J 8 from rfl, J_mul, J_add]
          have nm : ∀ {α : Type} (x y : α), bT (Q0.1 2 (J (A.2.1 p 3 c)) 0) x y = if A.2.1 p 3 c ≤ 0 then x else y := fun x y => q2_J (b := 0) (by omega) (by omega) (by omega) (by omega) x y
          have n0 : ∀ {α : Type} (x y : α), bT (Q0.1 0 (J (A.1 3 r)) 0) x y = if A.1 3 r = 0 then x else y := fun x y => q0_J (b := 0) (by omega) (by omega) (by omega) (by omega) x y
          have u1 : ∀ {α : Type} (x y : α), bT (okI Q0 (.inr (0, 48)) (J (8 * p + c))) x y = x := fun x y => cI_J (n := 48) (by omega) (show 8 * p + c < 48 by omega) (by omega) x y
          have u2 : ∀ {α : Type} (x y : α), bT (ok1 Q0 0 (.inr (0, 48)) (J (8 * p + c))) x y = x := fun x y => c1_J (n := 48) (by omega) (show 8 * p + c < 48 by omega) (by omega) x y
          have u3 : (J (8 * p + c)).toNatClampNeg = (8 * p + c).toNat := J_clamp (by omega) (by omega)
          have u4 : ∀ {α : Type} (x y : α), bT (okI Q0 (.inr (0, 8)) (J r)) x y = x := fun x y => cI_J (n := 8) c3.1 (show r < 8 by omega) (by omega) x y
          have u5 : ∀ {α : Type} (x y : α), bT (ok1 Q0 0 (.inr (0, 8)) (J r)) x y = x := fun x y => c1_J (n := 8) c3.1 (show r < 8 by omega) (by omega) x y
          have u6 : (J r).toNatClampNeg = r.toNat := J_clamp c3.1 (by omega)
          simp only [e8]
          rw [u1, bX_e, u3, b3, nm]
          by_cases c5 : A.2.1 p 2 c = -1
          · rw [if_pos (show A.2.1 p 3 c ≤ 0 by omega), if_pos c5, if_pos c5, u4, bX_e, u6, s3, n0]
            by_cases c6 : 0 < A.1 3 r
            · rw [if_neg (show ¬ A.1 3 r = 0 by omega), if_pos c6, if_pos c6]
              have hR1 := hR.dr (k := 3) (j := r) ⟨by omega, by omega⟩ c3.1 (A.1 3 r - 1)
              have f1 : FrR stK stI m (up2 m.1 180 r.toNat (J (A.1 3 r - 1)), m.2) := FrR.put (K := stK) (KI := stI) (k := 180) (by unfold stK; omega) (by omega) _ _
              have f2 := f1.tr (FrR.put (K := stK) (KI := stI) (k := 186) (by unfold stK; omega) (by omega) (8 * p + c).toNat (J r))
              have f3 := f2.tr (FrR.put (K := stK) (KI := stI) (k := 187) (by unfold stK; omega) (by omega) (8 * p + c).toNat (J t))
              refine ⟨(up2 (up2 (up2 m.1 180 r.toNat (J (A.1 3 r - 1))) 186 (8 * p + c).toNat (J r)) 187 (8 * p + c).toNat (J t), m.2), ?_, ?_, f3⟩
              · rw [u4, bX_e, u5, bX_e, u2, bX_e, u2, bX_e, u4, bX_e]
                show some (some (Value.int (up2 (up2 (up2 m.1 180 r.toNat (J (A.1 3 r) - J 1)) 186 (8 * p + c).toNat (J r)) 187 (8 * p + c).toNat (J t) 180 r.toNat)), (up2 (up2 (up2 m.1 180 r.toNat (J (A.1 3 r) - J 1)) 186 (8 * p + c).toNat (J r)) 187 (8 * p + c).toNat (J t), m.2)) = _
                rw [u2_ne (j := 180) _ _ (by omega), u2_ne (j := 180) _ _ (by omega), u2_at, if_pos rfl, J_sub]
              · refine ShN.hp (A := upD A 3 r (A.1 3 r - 1)) (q := p) (H' := upH (upH (A.2.1 p) 2 c r) 3 c t) hR1 ?_ (fun k g0 g1 => ?_) (fun q g0 g1 => ?_) ?_
                · show up2 (up2 (up2 m.1 180 r.toNat (J (A.1 3 r - 1))) 186 (8 * p + c).toNat (J r)) 187 (8 * p + c).toNat (J t) 177 = up2 m.1 180 r.toNat (J (A.1 3 r - 1)) 177
                  rw [u2_ne (j := 177) _ _ (by omega), u2_ne (j := 177) _ _ (by omega)]
                · show up2 (up2 (up2 m.1 180 r.toNat (J (A.1 3 r - 1))) 186 (8 * p + c).toNat (J r)) 187 (8 * p + c).toNat (J t) k = up2 m.1 180 r.toNat (J (A.1 3 r - 1)) k
                  rw [u2_ne (j := k) _ _ (by omega), u2_ne (j := k) _ _ (by omega)]
                · have g2 : HeadN q (A.2.1 q) (up2 m.1 180 r.toNat (J (A.1 3 r - 1)), m.2) := hR1.2.2.1 q g0 g1
                  have g3 := (g2.ha g0 c1.1 (q := p) ⟨c2.1, by omega⟩ r).ti g0 c1.1 (q := p) (c := c) ⟨c2.1, by omega⟩ t
                  show HeadN q (if q = p then upH (upH (A.2.1 p) 2 c r) 3 c t else A.2.1 q) _
                  by_cases w : q = p
                  · subst w
                    rw [if_pos rfl, if_pos rfl] at g3
                    rw [if_pos rfl]
                    exact g3
                  · rw [if_neg w, if_neg w] at g3
                    rw [if_neg w]
                    exact g3
                · show upH (upH (A.2.1 p) 2 c r) 3 c t 0 4 = A.2.1 p 0 4
                  simp [upH]
            · rw [if_pos (show A.1 3 r = 0 by omega), if_neg c6, if_neg c6]
              exact ⟨m, rfl, hR, FrR.rf⟩
          · rw [if_neg (show ¬ A.2.1 p 3 c ≤ 0 by omega), if_neg c5, if_neg c5]
            exact ⟨m, rfl, hR, FrR.rf⟩
        · rw [if_neg c4, if_neg c4, if_neg c4]
          exact ⟨m, rfl, hR, FrR.rf⟩
      · rw [if_neg c3, if_neg c3, if_neg c3]
        exact ⟨m, rfl, hR, FrR.rf⟩
    · rw [if_neg c2, if_neg c2, if_neg c2]
      exact ⟨m, rfl, hR, FrR.rf⟩
  · rw [if_neg c1, if_neg c1, if_neg c1]
    exact ⟨m, rfl, hR, FrR.rf⟩
end
