/-! ENDS, asked of the reference -/
section
variable {m : SM} {d : Nat} {A : Shp} {sh h : Int} {L : Cla}
theorem S_181 (hI : ShI A) (hR : ShN sh A m) (hS : StgN h L m) (h32 : m.1 177 32 = J 2000000000) {w p : Int} (hw : 0 ≤ w ∧ w ≤ 3) (hp : w ≠ 0 → 0 ≤ p ∧ p < A.1 0 0) (g3 : A.1 0 1 + 1 ≤ 20000) (g4 : A.1 0 2 + 48 ≤ 1000000) : ∃ m' sh', cB Q0 (d + 4) 181 [.ref 177, .int (J w), .int (J (if w = 0 then 0 else p))] m = some (none, m') ∧ ShN sh' (goRow (rainL 0 L) A w p) m' ∧ FrR qK qI m m' := by
  have i0 := hI.1.1
  have i2 := hI.1.2.2.1
  have n0 : ∀ {α : Type} (x y : α), bT (Q0.1 0 (J w) 0) x y = if w = 0 then x else y := fun x y => q0_J (b := 0) (by omega) (by omega) (by omega) (by omega) x y
  have n1 : ∀ {α : Type} (x y : α), bT (Q0.1 0 (J w) 1) x y = if w = 1 then x else y := fun x y => q0_J (b := 1) (by omega) (by omega) (by omega) (by omega) x y
  have n2 : ∀ {α : Type} (x y : α), bT (Q0.1 0 (J w) 2) x y = if w = 2 then x else y := fun x y => q0_J (b := 2) (by omega) (by omega) (by omega) (by omega) x y
  have l1 : ∀ {α : Type} (x y : α), bT (Q0.1 2 (J w) 1) x y = if w ≤ 1 then x else y := fun x y => q2_J (b := 1) (by omega) (by omega) (by omega) (by omega) x y
  rw [cB_eq]
  show ∃ m' sh', rB Q0 181 (cB Q0 (d + 3)) 0 [some (.ref 177), some (.int (J w)), some (.int (J (if w = 0 then 0 else p)))] m = _ ∧ _
  rw [T_181_0, n0]
  unfold goRow
  by_cases c0 : w = 0
  · obtain ⟨m1, q1, q2, q3⟩ := S_155 (d := d) hR hI hS (most := 2000000000) (by omega) h32 (by omega)
    rw [if_pos c0, if_pos c0, if_pos c0, q1, bV_e, n1, if_neg (show ¬ w = 1 by omega), l1, if_pos (show w ≤ 1 by omega), nightSh_most i0.2 (M1 := 2147483647) (M2 := 2000000000) (by omega) (by omega)]
    exact ⟨m1, sh, rfl, q2, q3.mono (fun k hk => Or.inl hk) (fun i hi => by unfold tiI at hi; unfold qI; omega)⟩
  · have hp := hp c0
    have hH := hR.2.2.1 p hp.1 hp.2
    rw [if_neg c0, if_neg c0, if_neg c0, if_pos (show 0 ≤ p ∧ p ≤ A.1 0 0 - 1 by omega), n1]
    by_cases c1 : w = 1
    · obtain ⟨m1, q1, q2, q3, q4⟩ := S_119 (m := m) (d := d + 2) (p := p) ⟨hp.1, by omega⟩
      rw [if_pos c1, if_pos c1, q1, bV_e, l1, if_pos (show w ≤ 1 by omega)]
      have ne7 : ∀ k, k ≠ 187 → k ≠ 177 → m1.1 k = m.1 k := fun k z1 z2 => q4.1 k z1 z2
      have e7 : m1.1 177 = m.1 177 := funext fun i => q4.2.1 i (fun z => z)
      refine ⟨m1, sh, rfl, hR.hp e7 (fun k z1 z2 => ne7 k (by omega) (by omega)) (fun q g0 g1 => ?_) rfl, q4.mono (fun k hk => Or.inl hk) (fun i hi => hi.elim)⟩
      obtain ⟨y0, y1, y2, y3⟩ := hR.2.2.1 q g0 g1
      have hh : (m1.1 181 q.toNat = J (A.2.1 q 0 0) ∧ m1.1 182 q.toNat = J (A.2.1 q 0 1) ∧ m1.1 183 q.toNat = J (A.2.1 q 0 2) ∧ m1.1 184 q.toNat = J (A.2.1 q 0 3)) ∧ (∀ j : Int, 0 ≤ j → j < 4 → m1.1 185 (4 * q + j).toNat = J (A.2.1 q 1 j)) ∧ (∀ j : Int, 0 ≤ j → j < 8 → ¬ A.2.1 q 2 j = -1 → m1.1 186 (8 * q + j).toNat = J (A.2.1 q 2 j)) := by
        rw [ne7 181 (by omega) (by omega), ne7 182 (by omega) (by omega), ne7 183 (by omega) (by omega), ne7 184 (by omega) (by omega), ne7 185 (by omega) (by omega), ne7 186 (by omega) (by omega)]
        exact ⟨y0, y1, y2⟩
      by_cases e : q = p
      · subst e
        rw [if_pos rfl]
        refine ⟨hh.1, hh.2.1, fun j z0 z1 z2 => ?_, fun j z0 z1 => ?_⟩
        · exact absurd (show shearC (A.2.1 q) 0 2 j = -1 by unfold shearC; rw [if_pos ⟨rfl, z0⟩]) z2
        · rw [q2 j z0 z1]
          unfold shearC
          rw [if_neg (by omega), if_pos ⟨rfl, z0⟩]
      · rw [if_neg e]
        refine ⟨hh.1, hh.2.1, hh.2.2, fun j z0 z1 => ?_⟩
        rw [q3 (8 * q + j) (by omega) (by omega)]
        exact y3 j z0 z1
    · rw [if_neg c1, if_neg c1, l1, if_neg (show ¬ w ≤ 1 by omega), n2]
      obtain ⟨⟨a0, a1, a2, a3⟩, r1, r2, r3⟩ := hR
      have hpq := fun q h4 h5 => pbits_q (x := sh) (p := p) (q := q) r3.1.1 r3.1.2 hp.1 (by omega) h4 h5
      have hin := (hpq 0 (by omega) (by omega)).2.2
      have key : ∀ (b sh' : Int), (0 ≤ sh' ∧ sh' < 64) → (∀ q, 0 ≤ q → q < 6 → bitP sh' q = if p = q then b else bitP sh q) → ShN sh' (upHd A p (upH (A.2.1 p) 0 4 b)) (up2 m.1 177 1 (J sh'), m.2) ∧ FrR qK qI m (up2 m.1 177 1 (J sh'), m.2) := by
        intro b sh' hs hbt
        have hF : FrR (fun _ => False) (fun i => i = 1) m (up2 m.1 177 1 (J sh'), m.2) := FrR.put7 (KI := fun i => i = 1) rfl _
        refine ⟨⟨⟨?_, ?_, ?_, ?_⟩, fun k g0 g1 j g2 g3 => ?_, fun q g0 g1 => ?_, hs, fun q g0 g1 => ?_⟩, hF.mono (fun _ h => h.elim) (fun i hi => by unfold qI; omega)⟩
        · rw [hF.2.1 0 (by omega)]; exact a0
        · show up2 m.1 177 1 (J sh') 177 1 = _
          rw [u2_at, if_pos rfl]
        · rw [hF.2.1 2 (by omega)]; exact a2
        · rw [hF.2.1 3 (by omega)]; exact a3
        · rw [hF.1 (177 + k) (fun z => z) (by omega)]; exact r1 k g0 g1 j g2 g3
        · show HeadN q (if q = p then upH (A.2.1 p) 0 4 b else A.2.1 q) _
          have hq := (r2 q g0 g1).fr hF (fun k _ _ z => z)
          by_cases e : q = p
          · subst e
            rw [if_pos rfl]
            exact hq.eq (fun j z0 z1 => by unfold upH; rw [if_neg (by omega)]) (fun j z0 z1 => by unfold upH; rw [if_neg (by omega)]) (fun j z0 z1 _ => by unfold upH; rw [if_neg (by omega)]) (fun j z0 z1 => by unfold upH; rw [if_neg (by omega)])
          · rw [if_neg e]
            exact hq
        · show _ = (if q = p then upH (A.2.1 p) 0 4 b else A.2.1 q) 0 4
          have g1 : q < A.1 0 0 := g1
          rw [hbt q g0 (by omega)]
          by_cases e : q = p
          · rw [if_pos e, if_pos e.symm]; simp [upH]
          · rw [if_neg e, if_neg (fun z => e z.symm)]; exact r3.2 q g0 g1
      by_cases c2 : w = 2
      · have e124 := S_124 (d := d + 2) a1 r3.1 (p := p) (b := 1) ⟨hp.1, by omega⟩ (Or.inr rfl)
        rw [if_neg (show ¬ (1 : Int) = 0 by omega)] at e124
        obtain ⟨k1, k2⟩ := key 1 (setP sh p) ⟨hin.2.2.1, hin.2.2.2⟩ (fun q g0 g1 => (hpq q g0 g1).2.1)
        rw [if_pos c2, if_pos c2, show cB Q0 (d + 3) 124 [.ref 177, .int (J p), .int 1] m = _ from e124, bV_e]
        exact ⟨_, _, rfl, k1, k2⟩
      · have e124 := S_124 (d := d + 2) a1 r3.1 (p := p) (b := 0) ⟨hp.1, by omega⟩ (Or.inl rfl)
        rw [if_pos rfl] at e124
        obtain ⟨k1, k2⟩ := key 0 (clrP sh p) ⟨hin.1, hin.2.1⟩ (fun q g0 g1 => (hpq q g0 g1).1)
        rw [if_neg c2, if_neg c2, show cB Q0 (d + 3) 124 [.ref 177, .int (J p), .int 0] m = _ from e124, bV_e]
        exact ⟨_, _, rfl, k1, k2⟩
theorem goRow_I (hI : ShI A) {rain w p : Int} (g3 : A.1 0 1 + 1 ≤ 20000) (g4 : A.1 0 2 + 48 ≤ 1000000) : ShI (goRow rain A w p) := by
  have i2 := hI.1.2.2.1
  unfold goRow
  by_cases h0 : w = 0
  · rw [if_pos h0]
    exact nightSh_I hI (by omega) g3 g4
  · rw [if_neg h0]
    by_cases hp : 0 ≤ p ∧ p ≤ A.1 0 0 - 1
    · rw [if_pos hp]
      have hh := hI.2.2.1 p hp.1 (by omega)
      by_cases h1 : w = 1
      · rw [if_pos h1]
        exact upHd_I hI (shear_I hh)
      · rw [if_neg h1]
        exact upHd_I hI (shelf_I hh (by split <;> simp))
    · rw [if_neg hp]
      exact hI
theorem L_182 {m0 : SM} {sh0 f0 n0 : Int} (h1 : m0.1 177 1 = J sh0) (h2 : m0.1 177 2 = J f0) (h3 : m0.1 177 3 = J n0) (h9 : m0.1 177 32 = J 9999) {m1 : SM} (k1 : FrR svK svI m0 m1) (hk : Kept sh0 f0 n0 (m0.1 187) m1) (hI : ShI A) (hW : RwN A m1) {w : Int} (hw : 0 ≤ w ∧ w ≤ 1) : ∀ (k : Nat) (c : Int) (B : Shp) (sh : Int) (m : SM), 0 ≤ c → c + k = A.2.2 1 0 0 → FrR qK qI m1 m → m.1 177 32 = J 2000000000 → ShI B → B.1 0 0 = A.1 0 0 → ShN sh B m → StgN h L m → B.1 0 1 + k ≤ 20000 → B.1 0 2 + 48 * k ≤ 1000000 → ∃ m', rB Q0 182 (cB Q0 (d + 4)) 18 [some (.ref 177), some (.int (J w)), some (.int (J c))] m = some (some (.int (J (if w = 0 then (endF A (rainL 0 L) k c B).1 0 2 else allHairs (endF A (rainL 0 L) k c B)))), m') ∧ BK m0 m' := by
  have iq := hI.2.2.2.2.1
  intro k
  induction k with
  | zero =>
    intro c B sh m g0 g1 k2 h32 hIB hn hR hS g3 g4
    have r0 : m.1 177 45 = J (A.2.2 1 0 0) := by rw [k2.2.1 45 (by unfold qI; omega)]; exact hW.2.1.1
    have b2 := hR.1.2.2.1
    have e25 := S_154 (d := d + 2) hR hIB
    obtain ⟨m', q1, q2⟩ := back (d := d + 3) h1 h2 h3 h9 k1 hk k2
    refine ⟨m', ?_, q2⟩
    rw [T_182_18]
    simp only [lits]
    simp (disch := omega) only [kk, lits, q0_J, q1_J, q2_J, cI_J, cT_J, cB_J, cZ_J, cS_J, c1_J, cA_J, J_clamp, u2_at, reduceIte, r0, e25, b2, q1]
    rw [if_pos (show A.2.2 1 0 0 ≤ c by omega)]
    show _ = some (some (Value.int (J (if w = 0 then B.1 0 2 else allHairs B))), m')
    by_cases e : w = 0
    · rw [if_pos e, if_pos e]
    · rw [if_neg e, if_neg e]
  | succ k ih =>
    intro c B sh m g0 g1 k2 h32 hIB hn hR hS g3 g4
    have r0 : m.1 177 45 = J (A.2.2 1 0 0) := by rw [k2.2.1 45 (by unfold qI; omega)]; exact hW.2.1.1
    obtain ⟨r1, r2⟩ : m.1 206 c.toNat = J (A.2.2 1 1 c) ∧ m.1 207 c.toNat = J (if A.2.2 1 1 c = 0 then 0 else A.2.2 1 2 c) := by
      rw [k2.1 206 (by unfold qK; omega) (by omega), k2.1 207 (by unfold qK; omega) (by omega)]
      exact hW.2.1.2 c g0 (by omega)
    have ic := iq.2 c g0 (by omega)
    obtain ⟨m2, sh2, q1, q2, q3⟩ := S_181 (d := d) hIB hR hS h32 (w := A.2.2 1 1 c) (p := A.2.2 1 2 c) ic.1 (fun z => by rw [hn]; exact ic.2.2 z) (by omega) (by omega)
    obtain ⟨z0, z1, z2⟩ := goRow_c hIB (rain := rainL 0 L) (w := A.2.2 1 1 c) (p := A.2.2 1 2 c) (by omega)
    obtain ⟨m', q5, q6⟩ := ih (c + 1) _ sh2 m2 (by omega) (by omega) (k2.tr q3) (by rw [q3.2.1 32 (by unfold qI; omega)]; exact h32) (goRow_I hIB (by omega) (by omega)) (by rw [z0]; exact hn) q2 (hS.fr q3 (fun k z1 z2 z3 => by unfold qK at z3; omega) (by unfold qI; omega)) (by omega) (by omega)
    refine ⟨m', ?_, q6⟩
    rw [T_182_18]
    simp only [lits]
    simp (disch := omega) only [kk, lits, q0_J, q1_J, q2_J, cI_J, cT_J, cB_J, cZ_J, cS_J, c1_J, cA_J, J_clamp, u2_at, reduceIte, r0, r1, r2, q1]
    rw [if_neg (show ¬ A.2.2 1 0 0 ≤ c by omega), q5]
    rfl
theorem S_182 (hI : ShI A) (hV : ViewN sh h L A m) (hW : RwN A m) (h32 : m.1 177 32 = J 9999) (g1 : A.1 0 1 ≤ 9999) (g2 : A.1 0 2 ≤ 9999) {w : Int} (h1 : -2147483648 ≤ w ∧ w ≤ 2147483647) : ∃ m', cB Q0 (d + 5) 182 [.ref 177, .int (J w)] m = some (some (.int (J (endsA A (rainL 0 L) w))), m') ∧ BK m m' := by
  have i0 := hI.1.1
  have iq := hI.2.2.2.2.1.1
  have e1 := S_109 (m := m) (d := d + 3) h1.1 h1.2 (show -2147483648 ≤ (0 : Int) by omega) (by omega) (show -2147483648 ≤ (1 : Int) by omega) (by omega)
  obtain ⟨-, a1, a2, a3⟩ := hV.1.1
  rw [cB_eq]
  show ∃ m', rB Q0 182 (cB Q0 (d + 4)) 0 [some (.ref 177), some (.int (J w))] m = _ ∧ _
  rw [T_182_0, show cB Q0 (d + 4) 109 [.ref 177, .int (J w), .int 0, .int 1] m = _ from e1, bI_e, nz_bi]
  unfold endsA
  by_cases c1 : 0 ≤ w ∧ w ≤ 1
  · obtain ⟨m1, q1, q2, q3, q4⟩ := S_158 (m := m) (d := d + 3) a1 a2 a3
    have hR1 : ShN sh A m1 := hV.1.fr q4 (fun k hk => by unfold svK; omega) (fun i hi => by unfold svI; omega)
    have hS1 : StgN h L m1 := hV.2.fr q4 (fun k hk1 hk2 => by unfold svK; omega) (by unfold svI; omega)
    have hW1 : RwN A m1 := hW.fr q4 (fun k hk1 hk2 => by unfold svK; omega) (fun i z1 z2 => by unfold svI; omega) rfl
    obtain ⟨m', q5, q6⟩ := L_182 (d := d) a1 a2 a3 h32 q4 q2 hI hW1 c1 (A.2.2 1 0 0).toNat 0 A sh m1 (by omega) (by omega) FrR.rf q3 hI rfl hR1 hS1 (by omega) (by omega)
    rw [if_pos c1, if_pos c1, q1, bV_e]
    exact ⟨m', q5, q6⟩
  · rw [if_neg c1, if_neg c1]
    exact ⟨m, rfl, BK.rf⟩
end
