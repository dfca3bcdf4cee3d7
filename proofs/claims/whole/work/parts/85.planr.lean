/-! PLAN, ENDS, BOOK, LOOKED, asked of the reference -/
def plK : Nat → Prop := fun k => 206 ≤ k ∧ k ≤ 209
def plI : Nat → Prop := fun i => i = 45 ∨ i = 46
section
variable {m : SM} {d : Nat} {A : Shp} {sh h : Int} {L : Cla}
theorem S_180 (hI : ShI A) (hR : ShN sh A m) (hW : RwN A m) {w p : Int} (h1 : -2147483648 ≤ w ∧ w ≤ 2147483647) (h2 : -2147483648 ≤ p ∧ p ≤ 2147483647) : ∃ m', cB Q0 (d + 3) 180 [.ref 177, .int (J w), .int (J p)] m = some (some (.int (J (planA A w p))), m') ∧ RwN (planS A w p) m' ∧ FrR plK plI m m' := by
  have i0 := hI.1.1
  have iq := hI.2.2.2.2.1.1
  have r0 := hW.2.1.1
  have e1 := S_114 (d := d) hR.1.1 i0.1 i0.2 h2.1 h2.2
  have e3 := S_109 (m := m) (d := d + 1) h1.1 h1.2 (show -2147483648 ≤ (0 : Int) by omega) (by omega) (show -2147483648 ≤ (3 : Int) by omega) (by omega)
  have nm : ∀ {α : Type} (x y : α), bT (Q0.1 0 (J w) (-1)) x y = if w = -1 then x else y := fun x y => q0_J (b := -1) (by omega) (by omega) (by omega) (by omega) x y
  have n0 : ∀ {α : Type} (x y : α), bT (Q0.1 2 (J w) 0) x y = if w ≤ 0 then x else y := fun x y => q2_J (b := 0) (by omega) (by omega) (by omega) (by omega) x y
  have nt : ∀ {α : Type} (x y : α), bT (Q0.1 0 (J (A.2.2 1 0 0)) 10) x y = if A.2.2 1 0 0 = 10 then x else y := fun x y => q0_J (b := 10) (by omega) (by omega) (by omega) (by omega) x y
  have ff : ∀ x y : Int32, ∀ z, FrR plK plI m (up2 (up2 (up2 m.1 206 (A.2.2 1 0 0).toNat x) 207 (A.2.2 1 0 0).toNat y) 177 45 z, m.2) := fun x y z => ((FrR.put (K := plK) (KI := plI) (k := 206) (by unfold plK; omega) (by omega) _ _).tr (FrR.put (K := plK) (KI := plI) (k := 207) (by unfold plK; omega) (by omega) _ _)).tr (FrR.put7 (KI := plI) (i := 45) (by unfold plI; omega) _)
  have fw : ¬ 10 ≤ A.2.2 1 0 0 → ∀ y : Int, y = (if w = 0 then 0 else p) → RwN (upRw A 1 (addR (A.2.2 1) w p 0)) (up2 (up2 (up2 m.1 206 (A.2.2 1 0 0).toNat (J w)) 207 (A.2.2 1 0 0).toNat (J y)) 177 45 (J (A.2.2 1 0 0 + 1)), m.2) := fun c4 y hy => by
    have hf := ff (J w) (J y) (J (A.2.2 1 0 0 + 1))
    refine ⟨⟨?_, fun k g0 g1 j g2 g3 => ?_⟩, ⟨?_, fun j g2 g3 => ?_⟩, ⟨?_, fun j g2 g3 => ?_⟩⟩
    · rw [hf.2.1 41 (by unfold plI; omega)]; exact hW.1.1
    · rw [hf.1 (202 + k) (by unfold plK; omega) (by omega)]; exact hW.1.2 k g0 g1 j g2 g3
    · simp (disch := omega) only [u2_at]
      simp [upRw, addR]
    · have e0 : (upRw A 1 (addR (A.2.2 1) w p 0)).2.2 1 0 0 = A.2.2 1 0 0 + 1 := by simp [upRw, addR]
      rw [e0] at g3
      have e5 : ∀ k : Nat, 0 < k → (upRw A 1 (addR (A.2.2 1) w p 0)).2.2 1 k j = if j = A.2.2 1 0 0 then (if k = 1 then w else if k = 2 then p else 0) else A.2.2 1 k j := fun k hk => by
        show addR (A.2.2 1) w p 0 k j = _
        unfold addR
        rw [if_neg (by omega)]
      rw [e5 1 (by omega), e5 2 (by omega)]
      simp (disch := omega) only [u2_ne, u2_at]
      by_cases c : j = A.2.2 1 0 0
      · have c' : j.toNat = (A.2.2 1 0 0).toNat := by omega
        simp only [if_pos c, if_pos c', hy]
        exact ⟨by simp, by simp⟩
      · have c' : ¬ j.toNat = (A.2.2 1 0 0).toNat := by omega
        simp only [if_neg c, if_neg c']
        exact hW.2.1.2 j g2 (by omega)
    · show up2 (up2 (up2 m.1 206 (A.2.2 1 0 0).toNat (J w)) 207 (A.2.2 1 0 0).toNat (J y)) 177 45 (J (A.2.2 1 0 0 + 1)) 177 46 = _
      rw [u2_at, if_neg (show ¬ (46 : Nat) = 45 by omega), u2_ne _ _ (by omega), u2_ne _ _ (by omega)]; exact hW.2.2.1
    · have g3 : j < A.2.2 2 0 0 := g3
      show (up2 (up2 (up2 m.1 206 (A.2.2 1 0 0).toNat (J w)) 207 (A.2.2 1 0 0).toNat (J y)) 177 45 (J (A.2.2 1 0 0 + 1))) 208 j.toNat = J (A.2.2 2 1 j) ∧ (up2 (up2 (up2 m.1 206 (A.2.2 1 0 0).toNat (J w)) 207 (A.2.2 1 0 0).toNat (J y)) 177 45 (J (A.2.2 1 0 0 + 1))) 209 j.toNat = J (A.2.2 2 2 j)
      simp (disch := omega) only [u2_ne]
      exact hW.2.2.2 j g2 g3
  rw [cB_eq]
  show ∃ m', rB Q0 180 (cB Q0 (d + 2)) 0 [some (.ref 177), some (.int (J w)), some (.int (J p))] m = _ ∧ _
  rw [T_180_0, nm]
  unfold planA planS
  by_cases c0 : w = -1
  · rw [if_pos c0, if_pos c0, if_pos c0]
    have hf : FrR plK plI m (up2 m.1 177 45 (J 0), m.2) := FrR.put7 (KI := plI) (i := 45) (by unfold plI; omega) _
    refine ⟨(up2 m.1 177 45 (J 0), m.2), rfl, ⟨⟨?_, fun k g0 g1 j g2 g3 => ?_⟩, ⟨?_, fun j g2 g3 => ?_⟩, ⟨?_, fun j g2 g3 => ?_⟩⟩, hf⟩
    · rw [hf.2.1 41 (by unfold plI; omega)]; exact hW.1.1
    · rw [hf.1 (202 + k) (by unfold plK; omega) (by omega)]; exact hW.1.2 k g0 g1 j g2 g3
    · show up2 m.1 177 45 (J 0) 177 45 = J (upH (A.2.2 1) 0 0 0 0 0)
      rw [u2_at, if_pos rfl]
      rfl
    · have e0 : upH (A.2.2 1) 0 0 0 0 0 = 0 := if_pos ⟨rfl, rfl⟩
      have g4 : j < upH (A.2.2 1) 0 0 0 0 0 := g3
      omega
    · show up2 m.1 177 45 (J 0) 177 46 = _
      rw [u2_at, if_neg (show ¬ (46 : Nat) = 45 by omega)]; exact hW.2.2.1
    · show (up2 m.1 177 45 (J 0)) 208 j.toNat = J (A.2.2 2 1 j) ∧ (up2 m.1 177 45 (J 0)) 209 j.toNat = J (A.2.2 2 2 j)
      rw [u2_ne (j := 208) _ _ (by omega), u2_ne (j := 209) _ _ (by omega)]
      exact hW.2.2.2 j g2 g3
  · rw [if_neg c0, if_neg c0, if_neg c0, show cB Q0 (d + 2) 109 [.ref 177, .int (J w), .int 0, .int 3] m = _ from e3, bI_e, nz_bi]
    by_cases c1 : 0 ≤ w ∧ w ≤ 3
    · rw [if_pos c1, if_pos c1, if_pos c1, n0]
      by_cases c2 : w = 0
      · rw [if_pos (show w ≤ 0 by omega), if_pos c2, if_pos c2, bX_e, r0, nt]
        by_cases c4 : 10 ≤ A.2.2 1 0 0
        · rw [if_pos (show A.2.2 1 0 0 = 10 by omega), if_pos c4, if_pos c4]
          exact ⟨m, rfl, hW, FrR.rf⟩
        · rw [if_neg (show ¬ A.2.2 1 0 0 = 10 by omega), if_neg c4, if_neg c4]
          refine ⟨_, ?_, fw c4 0 (by rw [if_pos c2]), ff _ _ _⟩
          simp only [lits]
          simp (disch := omega) only [kk, lits, q0_J, q1_J, q2_J, cI_J, cT_J, cB_J, cZ_J, cS_J, c1_J, cA_J, J_clamp, u2_at, reduceIte, r0, u2_ne]
          rw [if_pos (show w ≤ 0 by omega)]
      · rw [if_neg (show ¬ w ≤ 0 by omega), if_neg c2, if_neg c2, e1, bI_e, nz_bi]
        by_cases c3 : 0 ≤ p ∧ p ≤ A.1 0 0 - 1
        · rw [if_pos c3, if_pos c3, if_pos c3, bX_e, r0, nt]
          by_cases c4 : 10 ≤ A.2.2 1 0 0
          · rw [if_pos (show A.2.2 1 0 0 = 10 by omega), if_pos c4, if_pos c4]
            exact ⟨m, rfl, hW, FrR.rf⟩
          · rw [if_neg (show ¬ A.2.2 1 0 0 = 10 by omega), if_neg c4, if_neg c4]
            refine ⟨_, ?_, fw c4 p (by rw [if_neg c2]), ff _ _ _⟩
            simp only [lits]
            simp (disch := omega) only [kk, lits, q0_J, q1_J, q2_J, cI_J, cT_J, cB_J, cZ_J, cS_J, c1_J, cA_J, J_clamp, u2_at, reduceIte, r0, u2_ne]
            rw [if_neg (show ¬ w ≤ 0 by omega)]
        · rw [if_neg c3, if_neg c3, if_neg c3]
          exact ⟨m, rfl, hW, FrR.rf⟩
    · rw [if_neg c1, if_neg c1, if_neg c1]
      exact ⟨m, rfl, hW, FrR.rf⟩
theorem S_183 (hI : ShI A) (hW : RwN A m) {r x : Int} (h1 : -2147483648 ≤ r ∧ r ≤ 2147483647) (h2 : -2147483648 ≤ x ∧ x ≤ 2147483647) : ∃ m', cB Q0 (d + 3) 183 [.ref 177, .int (J r), .int (J x)] m = some (some (.int (J (bookA A r x))), m') ∧ RwN (bookS A r x) m' ∧ FrR plK plI m m' := by
  have iq := hI.2.2.2.2.2.1
  have r0 := hW.2.2.1
  have e1 := S_115 (m := m) (d := d) h1.1 h1.2
  have e3 := S_117 (m := m) (d := d) h2.1 h2.2
  have nm : ∀ {α : Type} (x y : α), bT (Q0.1 0 (J r) (-1)) x y = if r = -1 then x else y := fun x y => q0_J (b := -1) (by omega) (by omega) (by omega) (by omega) x y
  have nt : ∀ {α : Type} (x y : α), bT (Q0.1 0 (J (A.2.2 2 0 0)) 8) x y = if A.2.2 2 0 0 = 8 then x else y := fun x y => q0_J (b := 8) (by omega) (by omega) (by omega) (by omega) x y
  rw [cB_eq]
  show ∃ m', rB Q0 183 (cB Q0 (d + 2)) 0 [some (.ref 177), some (.int (J r)), some (.int (J x))] m = _ ∧ _
  rw [T_183_0, nm]
  unfold bookA bookS
  by_cases c0 : r = -1
  · rw [if_pos c0, if_pos c0, if_pos c0]
    have hf : FrR plK plI m (up2 m.1 177 46 (J 0), m.2) := FrR.put7 (KI := plI) (i := 46) (by unfold plI; omega) _
    refine ⟨(up2 m.1 177 46 (J 0), m.2), rfl, ⟨⟨?_, fun k g0 g1 j g2 g3 => ?_⟩, ⟨?_, fun j g2 g3 => ?_⟩, ⟨?_, fun j g2 g3 => ?_⟩⟩, hf⟩
    · rw [hf.2.1 41 (by unfold plI; omega)]; exact hW.1.1
    · rw [hf.1 (202 + k) (by unfold plK; omega) (by omega)]; exact hW.1.2 k g0 g1 j g2 g3
    · show up2 m.1 177 46 (J 0) 177 45 = _
      rw [u2_at, if_neg (show ¬ (45 : Nat) = 46 by omega)]; exact hW.2.1.1
    · show (up2 m.1 177 46 (J 0)) 206 j.toNat = J (A.2.2 1 1 j) ∧ (up2 m.1 177 46 (J 0)) 207 j.toNat = J (if A.2.2 1 1 j = 0 then 0 else A.2.2 1 2 j)
      rw [u2_ne (j := 206) _ _ (by omega), u2_ne (j := 207) _ _ (by omega)]
      exact hW.2.1.2 j g2 g3
    · show up2 m.1 177 46 (J 0) 177 46 = J (upH (A.2.2 2) 0 0 0 0 0)
      rw [u2_at, if_pos rfl]
      rfl
    · have e0 : upH (A.2.2 2) 0 0 0 0 0 = 0 := if_pos ⟨rfl, rfl⟩
      have g4 : j < upH (A.2.2 2) 0 0 0 0 0 := g3
      omega
  · rw [if_neg c0, if_neg c0, if_neg c0, e1, bI_e, nz_bi]
    by_cases c1 : 0 ≤ r ∧ r ≤ 7
    · rw [if_pos c1, if_pos c1, if_pos c1, e3, bI_e, nz_bi]
      by_cases c2 : 0 ≤ x ∧ x ≤ 99
      · rw [if_pos c2, if_pos c2, if_pos c2, bX_e, r0, nt]
        by_cases c4 : 8 ≤ A.2.2 2 0 0
        · rw [if_pos (show A.2.2 2 0 0 = 8 by omega), if_pos c4, if_pos c4]
          exact ⟨m, rfl, hW, FrR.rf⟩
        · rw [if_neg (show ¬ A.2.2 2 0 0 = 8 by omega), if_neg c4, if_neg c4]
          have hf : FrR plK plI m (up2 (up2 (up2 m.1 208 (A.2.2 2 0 0).toNat (J r)) 209 (A.2.2 2 0 0).toNat (J x)) 177 46 (J (A.2.2 2 0 0 + 1)), m.2) := ((FrR.put (K := plK) (KI := plI) (k := 208) (by unfold plK; omega) (by omega) _ _).tr (FrR.put (K := plK) (KI := plI) (k := 209) (by unfold plK; omega) (by omega) _ _)).tr (FrR.put7 (KI := plI) (i := 46) (by unfold plI; omega) _)
          refine ⟨_, ?_, ⟨⟨?_, fun k g0 g1 j g2 g3 => ?_⟩, ⟨?_, fun j g2 g3 => ?_⟩, ⟨?_, fun j g2 g3 => ?_⟩⟩, hf⟩
          · simp only [lits]
            simp (disch := omega) only [kk, lits, q0_J, q1_J, q2_J, cI_J, cT_J, cB_J, cZ_J, cS_J, c1_J, cA_J, J_clamp, u2_at, reduceIte, r0, u2_ne]
          · rw [hf.2.1 41 (by unfold plI; omega)]; exact hW.1.1
          · rw [hf.1 (202 + k) (by unfold plK; omega) (by omega)]; exact hW.1.2 k g0 g1 j g2 g3
          · show up2 (up2 (up2 m.1 208 (A.2.2 2 0 0).toNat (J r)) 209 (A.2.2 2 0 0).toNat (J x)) 177 46 (J (A.2.2 2 0 0 + 1)) 177 45 = _
            rw [u2_at, if_neg (show ¬ (45 : Nat) = 46 by omega), u2_ne _ _ (by omega), u2_ne _ _ (by omega)]; exact hW.2.1.1
          · have g3 : j < A.2.2 1 0 0 := g3
            show (up2 (up2 (up2 m.1 208 (A.2.2 2 0 0).toNat (J r)) 209 (A.2.2 2 0 0).toNat (J x)) 177 46 (J (A.2.2 2 0 0 + 1))) 206 j.toNat = J (A.2.2 1 1 j) ∧ (up2 (up2 (up2 m.1 208 (A.2.2 2 0 0).toNat (J r)) 209 (A.2.2 2 0 0).toNat (J x)) 177 46 (J (A.2.2 2 0 0 + 1))) 207 j.toNat = J (if A.2.2 1 1 j = 0 then 0 else A.2.2 1 2 j)
            simp (disch := omega) only [u2_ne]
            exact hW.2.1.2 j g2 g3
          · simp (disch := omega) only [u2_at]
            simp [upRw, addR]
          · have e0 : (upRw A 2 (addR (A.2.2 2) r x 0)).2.2 2 0 0 = A.2.2 2 0 0 + 1 := by simp [upRw, addR]
            rw [e0] at g3
            have e5 : ∀ k : Nat, 0 < k → (upRw A 2 (addR (A.2.2 2) r x 0)).2.2 2 k j = if j = A.2.2 2 0 0 then (if k = 1 then r else if k = 2 then x else 0) else A.2.2 2 k j := fun k hk => by
              show addR (A.2.2 2) r x 0 k j = _
              unfold addR
              rw [if_neg (by omega)]
            rw [e5 1 (by omega), e5 2 (by omega)]
            simp (disch := omega) only [u2_ne, u2_at]
            by_cases c : j = A.2.2 2 0 0
            · have c' : j.toNat = (A.2.2 2 0 0).toNat := by omega
              simp only [if_pos c, if_pos c']
              exact ⟨by simp, by simp⟩
            · have c' : ¬ j.toNat = (A.2.2 2 0 0).toNat := by omega
              simp only [if_neg c, if_neg c']
              exact hW.2.2.2 j g2 (by omega)
      · rw [if_neg c2, if_neg c2, if_neg c2]
        exact ⟨m, rfl, hW, FrR.rf⟩
    · rw [if_neg c1, if_neg c1, if_neg c1]
      exact ⟨m, rfl, hW, FrR.rf⟩
theorem L_184 (hI : ShI A) (hR : ShN sh A m) (hW : RwN A m) {cf : Nat → List Value → SM → Rs SM} : ∀ (k : Nat) (c : Int), 0 ≤ c → c + k = A.2.2 2 0 0 → rB Q0 184 cf 2 [some (.ref 177), some (.int (J c))] m = some (some (.int (J (lookF A k c))), m) := by
  have iq := hI.2.2.2.2.2
  have r0 := hW.2.2.1
  intro k
  induction k with
  | zero =>
    intro c h0 h1
    rw [T_184_2]
    simp only [lits]
    simp (disch := omega) only [kk, lits, q0_J, q1_J, q2_J, cI_J, cT_J, cB_J, cZ_J, cS_J, c1_J, cA_J, J_clamp, u2_at, reduceIte, r0]
    rw [if_pos (show A.2.2 2 0 0 ≤ c by omega)]
    rfl
  | succ k ih =>
    intro c h0 h1
    obtain ⟨r1, r2⟩ := hW.2.2.2 c h0 (by omega)
    have ic := iq.2 c h0 (by omega)
    have s3 : m.1 180 (A.2.2 2 1 c).toNat = J (A.1 3 (A.2.2 2 1 c)) := hR.2.1 3 (by omega) (by omega) _ ic.1.1 (by omega)
    have j3 := hI.2.1 3 (by omega) (by omega) (A.2.2 2 1 c) ic.1.1 (by omega)
    rw [T_184_2]
    simp only [lits]
    simp (disch := omega) only [kk, lits, q0_J, q1_J, q2_J, cI_J, cT_J, cB_J, cZ_J, cS_J, c1_J, cA_J, J_clamp, u2_at, reduceIte, r0, r1, r2, s3]
    rw [if_neg (show ¬ A.2.2 2 0 0 ≤ c by omega)]
    show _ = some (some (Value.int (J (if A.1 3 (A.2.2 2 1 c) = A.2.2 2 2 c then lookF A k (c + 1) else c))), m)
    by_cases e : A.1 3 (A.2.2 2 1 c) = A.2.2 2 2 c
    · rw [if_pos e, if_pos e]
      exact ih (c + 1) (by omega) (by omega)
    · rw [if_neg e, if_neg e]
theorem S_184 (hI : ShI A) (hR : ShN sh A m) (hW : RwN A m) : cB Q0 (d + 1) 184 [.ref 177] m = some (some (.int (J (lookA A))), m) := by
  have iq := hI.2.2.2.2.2.1
  rw [cB_eq]
  show rB Q0 184 (cB Q0 d) 0 [some (.ref 177)] m = _
  rw [T_184_0]
  exact L_184 hI hR hW _ 0 (by omega) (by omega)
end
