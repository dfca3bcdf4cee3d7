/-! PLAN, ENDS, BOOK, LOOKED, asked of the class -/
def planA (A : Shp) (w p : Int) : Int := if w = -1 then 0 else if 0 ≤ w ∧ w ≤ 3 then (if w = 0 then (if 10 ≤ A.2.2 1 0 0 then -4 else A.2.2 1 0 0 + 1) else if 0 ≤ p ∧ p ≤ A.1 0 0 - 1 then (if 10 ≤ A.2.2 1 0 0 then -4 else A.2.2 1 0 0 + 1) else -1) else -1
def planS (A : Shp) (w p : Int) : Shp := if w = -1 then upRw A 1 (upH (A.2.2 1) 0 0 0) else if 0 ≤ w ∧ w ≤ 3 then (if w = 0 then (if 10 ≤ A.2.2 1 0 0 then A else upRw A 1 (addR (A.2.2 1) w p 0)) else if 0 ≤ p ∧ p ≤ A.1 0 0 - 1 then (if 10 ≤ A.2.2 1 0 0 then A else upRw A 1 (addR (A.2.2 1) w p 0)) else A) else A
def bookA (A : Shp) (r x : Int) : Int := if r = -1 then 0 else if 0 ≤ r ∧ r ≤ 7 then (if 0 ≤ x ∧ x ≤ 99 then (if 8 ≤ A.2.2 2 0 0 then -4 else A.2.2 2 0 0 + 1) else -2) else -1
def bookS (A : Shp) (r x : Int) : Shp := if r = -1 then upRw A 2 (upH (A.2.2 2) 0 0 0) else if 0 ≤ r ∧ r ≤ 7 then (if 0 ≤ x ∧ x ≤ 99 then (if 8 ≤ A.2.2 2 0 0 then A else upRw A 2 (addR (A.2.2 2) r x 0)) else A) else A
def lookF (A : Shp) : Nat → Int → Int
  | 0, _ => -5
  | n + 1, c => if A.1 3 (A.2.2 2 1 c) = A.2.2 2 2 c then lookF A n (c + 1) else c
def lookA (A : Shp) : Int := lookF A (A.2.2 2 0 0).toNat 0
def endF (A : Shp) (rain : Int) : Nat → Int → Shp → Shp
  | 0, _, B => B
  | n + 1, c, B => endF A rain n (c + 1) (goRow rain B (A.2.2 1 1 c) (A.2.2 1 2 c))
def endsA (A : Shp) (rain w : Int) : Int := if 0 ≤ w ∧ w ≤ 1 then (if w = 0 then (endF A rain (A.2.2 1 0 0).toNat 0 A).1 0 2 else allHairs (endF A rain (A.2.2 1 0 0).toNat 0 A)) else -1
theorem ShR.rw0 {s : Nat} {A : Shp} {m : SM} (h : ShR s A m) (hn : A.1 0 0 ≤ 6) {k : Nat} (hk : k < 3) : ShR s (upRw A k (upH (A.2.2 k) 0 0 0)) (up2 m.1 (s + 5 + 4 * k) 0 (J 0), m.2) := by
  refine h.rw hn hk (Fr.put (K := hK (s + 5 + 4 * k)) (k := s + 5 + 4 * k) (by unfold hK; omega) _ _) ⟨?_, fun k2 g0 g1 j g2 g3 => ?_⟩
  · show up2 m.1 (s + 5 + 4 * k) 0 (J 0) (s + 5 + 4 * k) 0 = J (upH (A.2.2 k) 0 0 0 0 0)
    rw [u2_at, if_pos rfl]
    rfl
  · have e0 : upH (A.2.2 k) 0 0 0 0 0 = 0 := if_pos ⟨rfl, rfl⟩
    rw [e0] at g3
    omega
section
variable {m : SM} {d : Nat} {n : Int} {T : Int × Cls} {A : Shp}
theorem S_70 (hI : ShI A) (hR : ShR 1 A m) {w p : Int} (h1 : -2147483648 ≤ w ∧ w ≤ 2147483647) (h2 : -2147483648 ≤ p ∧ p ≤ 2147483647) : ∃ m', cB Q0 (d + 3) 70 [.ref 0, .int (J w), .int (J p)] m = some (some (.int (J (planA A w p))), m') ∧ ShR 1 (planS A w p) m' ∧ Fr (hK 10) m m' := by
  have i0 := hI.1.1
  have iq := hI.2.2.2.2.1.1
  have hr : RowsR 10 (A.2.2 1) m := hR.2.2.2 1 (by omega)
  have hF : RowF 10 := (shF (s := 1) (Or.inl rfl)).2.2.2.1
  have e1 := S_87 (d := d) hR.1.1 i0.1 i0.2 h2.1 h2.2
  have e3 := S_85 (m := m) (d := d + 1) h1.1 h1.2 (show -2147483648 ≤ (0 : Int) by omega) (by omega) (show -2147483648 ≤ (3 : Int) by omega) (by omega)
  have nm : ∀ {α : Type} (x y : α), bT (Q0.1 0 (J w) (-1)) x y = if w = -1 then x else y := fun x y => q0_J (b := -1) (by omega) (by omega) (by omega) (by omega) x y
  have n0 : ∀ {α : Type} (x y : α), bT (Q0.1 0 (J w) 0) x y = if w = 0 then x else y := fun x y => q0_J (b := 0) (by omega) (by omega) (by omega) (by omega) x y
  have key : ∃ m', bI (cB Q0 (d + 2) 21 [.ref 10, .int 10, .int (J w), .int (J p), .int 0] m) (fun x5 m4 => some (some (Value.int x5), m4)) = some (some (.int (J (if 10 ≤ A.2.2 1 0 0 then -4 else A.2.2 1 0 0 + 1))), m') ∧ ShR 1 (if 10 ≤ A.2.2 1 0 0 then A else upRw A 1 (addR (A.2.2 1) w p 0)) m' ∧ Fr (hK 10) m m' := by
    by_cases c4 : 10 ≤ A.2.2 1 0 0
    · rw [if_pos c4, if_pos c4, show cB Q0 (d + 2) 21 [.ref 10, .int 10, .int (J w), .int (J p), .int 0] m = _ from S_21n (d := d + 1) (most := 10) (z := 0) hF hr (by omega) (by omega) c4, bI_e]
      exact ⟨m, rfl, hR, Fr.rf⟩
    · obtain ⟨m', q1, q2, q3⟩ := S_21 (d := d + 1) (most := 10) (x := w) (y := p) (z := 0) hF hr (by omega) (by omega) (by omega)
      rw [if_neg c4, if_neg c4, show cB Q0 (d + 2) 21 [.ref 10, .int 10, .int (J w), .int (J p), .int 0] m = _ from q1, bI_e]
      exact ⟨m', rfl, hR.rw i0.2 (k := 1) (by omega) q3 q2, q3⟩
  rw [cB_eq]
  show ∃ m', rB Q0 70 (cB Q0 (d + 2)) 0 [some (.ref 0), some (.int (J w)), some (.int (J p))] m = _ ∧ _
  rw [T_70_0, nm]
  unfold planA planS
  by_cases c0 : w = -1
  · rw [if_pos c0, if_pos c0, if_pos c0]
    exact ⟨(up2 m.1 10 0 (J 0), m.2), rfl, hR.rw0 i0.2 (k := 1) (by omega), Fr.put (K := hK 10) (k := 10) (by unfold hK; omega) _ _⟩
  · rw [if_neg c0, if_neg c0, if_neg c0, show cB Q0 (d + 2) 85 [.int (J w), .int 0, .int 3] m = _ from e3, bI_e, nz_bi]
    by_cases c1 : 0 ≤ w ∧ w ≤ 3
    · rw [if_pos c1, if_pos c1, if_pos c1, n0]
      by_cases c2 : w = 0
      · rw [if_pos c2, if_pos c2, if_pos c2]
        exact key
      · rw [if_neg c2, if_neg c2, if_neg c2, e1, bI_e, nz_bi]
        by_cases c3 : 0 ≤ p ∧ p ≤ A.1 0 0 - 1
        · rw [if_pos c3, if_pos c3, if_pos c3]
          exact key
        · rw [if_neg c3, if_neg c3, if_neg c3]
          exact ⟨m, rfl, hR, Fr.rf⟩
    · rw [if_neg c1, if_neg c1, if_neg c1]
      exact ⟨m, rfl, hR, Fr.rf⟩
theorem S_72 (hI : ShI A) (hR : ShR 1 A m) {r x : Int} (h1 : -2147483648 ≤ r ∧ r ≤ 2147483647) (h2 : -2147483648 ≤ x ∧ x ≤ 2147483647) : ∃ m', cB Q0 (d + 3) 72 [.ref 0, .int (J r), .int (J x)] m = some (some (.int (J (bookA A r x))), m') ∧ ShR 1 (bookS A r x) m' ∧ Fr (hK 14) m m' := by
  have i0 := hI.1.1
  have iq := hI.2.2.2.2.2.1
  have hr : RowsR 14 (A.2.2 2) m := hR.2.2.2 2 (by omega)
  have hF : RowF 14 := (shF (s := 1) (Or.inl rfl)).2.2.2.2
  have e1 := S_88 (m := m) (d := d) h1.1 h1.2
  have e3 := S_85 (m := m) (d := d + 1) h2.1 h2.2 (show -2147483648 ≤ (0 : Int) by omega) (by omega) (show -2147483648 ≤ (99 : Int) by omega) (by omega)
  have nm : ∀ {α : Type} (x y : α), bT (Q0.1 0 (J r) (-1)) x y = if r = -1 then x else y := fun x y => q0_J (b := -1) (by omega) (by omega) (by omega) (by omega) x y
  rw [cB_eq]
  show ∃ m', rB Q0 72 (cB Q0 (d + 2)) 0 [some (.ref 0), some (.int (J r)), some (.int (J x))] m = _ ∧ _
  rw [T_72_0, nm]
  unfold bookA bookS
  by_cases c0 : r = -1
  · rw [if_pos c0, if_pos c0, if_pos c0]
    exact ⟨(up2 m.1 14 0 (J 0), m.2), rfl, hR.rw0 i0.2 (k := 2) (by omega), Fr.put (K := hK 14) (k := 14) (by unfold hK; omega) _ _⟩
  · rw [if_neg c0, if_neg c0, if_neg c0, e1, bI_e, nz_bi]
    by_cases c1 : 0 ≤ r ∧ r ≤ 7
    · rw [if_pos c1, if_pos c1, if_pos c1, show cB Q0 (d + 2) 85 [.int (J x), .int 0, .int 99] m = _ from e3, bI_e, nz_bi]
      by_cases c2 : 0 ≤ x ∧ x ≤ 99
      · rw [if_pos c2, if_pos c2, if_pos c2]
        by_cases c4 : 8 ≤ A.2.2 2 0 0
        · rw [if_pos c4, if_pos c4, show cB Q0 (d + 2) 21 [.ref 14, .int 8, .int (J r), .int (J x), .int 0] m = _ from S_21n (d := d + 1) (most := 8) (z := 0) hF hr (by omega) (by omega) c4, bI_e]
          exact ⟨m, rfl, hR, Fr.rf⟩
        · obtain ⟨m', q1, q2, q3⟩ := S_21 (d := d + 1) (most := 8) (x := r) (y := x) (z := 0) hF hr (by omega) (by omega) (by omega)
          rw [if_neg c4, if_neg c4, show cB Q0 (d + 2) 21 [.ref 14, .int 8, .int (J r), .int (J x), .int 0] m = _ from q1, bI_e]
          exact ⟨m', rfl, hR.rw i0.2 (k := 2) (by omega) q3 q2, q3⟩
      · rw [if_neg c2, if_neg c2, if_neg c2]
        exact ⟨m, rfl, hR, Fr.rf⟩
    · rw [if_neg c1, if_neg c1, if_neg c1]
      exact ⟨m, rfl, hR, Fr.rf⟩
theorem L_73 (hI : ShI A) (hR : ShR 1 A m) {cf : Nat → List Value → SM → Rs SM} : ∀ (k : Nat) (c : Int), 0 ≤ c → c + k = A.2.2 2 0 0 → rB Q0 73 cf 2 [some (.ref 0), some (.int (J c))] m = some (some (.int (J (lookF A k c))), m) := by
  have iq := hI.2.2.2.2.2
  have hr : RowsR 14 (A.2.2 2) m := hR.2.2.2 2 (by omega)
  have r0 : m.1 14 0 = J (A.2.2 2 0 0) := hr.1
  intro k
  induction k with
  | zero =>
    intro c h0 h1
    rw [T_73_2]
    simp only [lits]
    simp (disch := omega) only [kk, lits, q0_J, q1_J, q2_J, cI_J, cT_J, cB_J, cZ_J, cS_J, c1_J, cA_J, J_clamp, u2_at, reduceIte, r0]
    rw [if_pos (show A.2.2 2 0 0 ≤ c by omega)]
    rfl
  | succ k ih =>
    intro c h0 h1
    have r1 : m.1 15 c.toNat = J (A.2.2 2 1 c) := hr.2 1 (by omega) (by omega) c h0 (by omega)
    have r2 : m.1 16 c.toNat = J (A.2.2 2 2 c) := hr.2 2 (by omega) (by omega) c h0 (by omega)
    have ic := iq.2 c h0 (by omega)
    have s3 : m.1 4 (A.2.2 2 1 c).toNat = J (A.1 3 (A.2.2 2 1 c)) := hR.2.1 3 (by omega) (by omega) _ ic.1.1 (by omega)
    have j3 := hI.2.1 3 (by omega) (by omega) (A.2.2 2 1 c) ic.1.1 (by omega)
    rw [T_73_2]
    simp only [lits]
    simp (disch := omega) only [kk, lits, q0_J, q1_J, q2_J, cI_J, cT_J, cB_J, cZ_J, cS_J, c1_J, cA_J, J_clamp, u2_at, reduceIte, r0, r1, r2, s3]
    rw [if_neg (show ¬ A.2.2 2 0 0 ≤ c by omega)]
    show _ = some (some (Value.int (J (if A.1 3 (A.2.2 2 1 c) = A.2.2 2 2 c then lookF A k (c + 1) else c))), m)
    by_cases e : A.1 3 (A.2.2 2 1 c) = A.2.2 2 2 c
    · rw [if_pos e, if_pos e]
      exact ih (c + 1) (by omega) (by omega)
    · rw [if_neg e, if_neg e]
theorem S_73 (hI : ShI A) (hR : ShR 1 A m) : cB Q0 (d + 1) 73 [.ref 0] m = some (some (.int (J (lookA A))), m) := by
  have iq := hI.2.2.2.2.2.1
  rw [cB_eq]
  show rB Q0 73 (cB Q0 d) 0 [some (.ref 0)] m = _
  rw [T_73_0]
  exact L_73 hI hR _ 0 (by omega) (by omega)
theorem goRow_c (hI : ShI A) {rain w p : Int} (g4 : A.1 0 2 + 48 ≤ 1000000) : (goRow rain A w p).1 0 0 = A.1 0 0 ∧ (goRow rain A w p).1 0 1 ≤ A.1 0 1 + 1 ∧ (goRow rain A w p).1 0 2 ≤ A.1 0 2 + 48 := by
  have i0 := hI.1.1
  have i2 := hI.1.2.2.1
  unfold goRow
  by_cases h0 : w = 0
  · rw [if_pos h0]
    obtain ⟨c1, c2, c3, c4⟩ := nightSh_c A rain 2147483647
    have hf := fallC_in (A := A) (b := byN rain (A.1 0 1)) (most := 2147483647) (A.1 0 0).toNat 0 (A.1 0 2) (by omega) (by omega)
    exact ⟨c1 0 0 (by omega), by omega, by omega⟩
  · rw [if_neg h0]
    by_cases hp : 0 ≤ p ∧ p ≤ A.1 0 0 - 1
    · rw [if_pos hp]
      by_cases h1 : w = 1
      · rw [if_pos h1]
        exact ⟨rfl, by show A.1 0 1 ≤ A.1 0 1 + 1; omega, by show A.1 0 2 ≤ A.1 0 2 + 48; omega⟩
      · rw [if_neg h1]
        exact ⟨rfl, by show A.1 0 1 ≤ A.1 0 1 + 1; omega, by show A.1 0 2 ≤ A.1 0 2 + 48; omega⟩
    · rw [if_neg hp]
      exact ⟨rfl, by omega, by omega⟩
theorem L_71 (hI : ShI A) {w : Int} (hw : 0 ≤ w ∧ w ≤ 1) : ∀ (k : Nat) (c : Int) (B : Shp) (m : SM), 0 ≤ c → c + k = A.2.2 1 0 0 → ShR 1 A m → ShI B → View 83 n T B m → B.1 0 1 + k ≤ 20000 → B.1 0 2 + 48 * k ≤ 1000000 → ∃ m', rB Q0 71 (cB Q0 (d + 5)) 24 [some (.ref 0), some (.int (J w)), some (.int (J c))] m = some (some (.int (J (if w = 0 then (endF A T.1 k c B).1 0 2 else allHairs (endF A T.1 k c B)))), m') ∧ Fr (sK 83) m m' := by
  have iq := hI.2.2.2.2.1
  intro k
  induction k with
  | zero =>
    intro c B m h0 h1 hR hIB hV g1 g2
    have r0 : m.1 10 0 = J (A.2.2 1 0 0) := (hR.2.2.2 1 (by omega)).1
    have e25 := S_25 (d := d + 3) (Or.inr (Or.inr rfl) : isS 83) hV.1 hIB
    refine ⟨m, ?_, Fr.rf⟩
    have b2 : m.1 83 6 = J (B.1 0 2) := hV.1.1.2.2.1
    rw [T_71_24]
    simp only [lits]
    simp (disch := omega) only [kk, lits, q0_J, q1_J, q2_J, cI_J, cT_J, cB_J, cZ_J, cS_J, c1_J, cA_J, J_clamp, u2_at, reduceIte, r0, e25, b2]
    rw [if_pos (show A.2.2 1 0 0 ≤ c by omega)]
    show _ = some (some (Value.int (J (if w = 0 then B.1 0 2 else allHairs B))), m)
    by_cases e : w = 0
    · rw [if_pos e, if_pos e]
    · rw [if_neg e, if_neg e]
  | succ k ih =>
    intro c B m h0 h1 hR hIB hV g1 g2
    have hr : RowsR 10 (A.2.2 1) m := hR.2.2.2 1 (by omega)
    have r0 : m.1 10 0 = J (A.2.2 1 0 0) := hr.1
    have r1 : m.1 11 c.toNat = J (A.2.2 1 1 c) := hr.2 1 (by omega) (by omega) c h0 (by omega)
    have r2 : m.1 12 c.toNat = J (A.2.2 1 2 c) := hr.2 2 (by omega) (by omega) c h0 (by omega)
    have ic := iq.2 c h0 (by omega)
    obtain ⟨m1, q1, q2, q3, q4⟩ := S_99 (d := d) hIB hV ic.1 ic.2.1.1 ic.2.1.2 (by omega) (by omega)
    obtain ⟨z0, z1, z2⟩ := goRow_c hIB (rain := T.1) (w := A.2.2 1 1 c) (p := A.2.2 1 2 c) (by omega)
    obtain ⟨m', q5, q6⟩ := ih (c + 1) _ m1 (by omega) (by omega) (hR.fr hI.1.1.2 q4 fun k g0 g1 => by unfold sK; omega) q3 q2 (by omega) (by omega)
    refine ⟨m', ?_, q4.tr q6⟩
    rw [T_71_24]
    simp only [lits]
    simp (disch := omega) only [kk, lits, q0_J, q1_J, q2_J, cI_J, cT_J, cB_J, cZ_J, cS_J, c1_J, cA_J, J_clamp, u2_at, reduceIte, r0, r1, r2, q1]
    rw [if_neg (show ¬ A.2.2 1 0 0 ≤ c by omega), q5]
    rfl
theorem S_71 (hI : ShI A) (hV : View 1 n T A m) (g1 : A.1 0 1 ≤ 9999) (g2 : A.1 0 2 ≤ 9999) {w : Int} (h1 : -2147483648 ≤ w ∧ w ≤ 2147483647) : ∃ m', cB Q0 (d + 6) 71 [.ref 0, .int (J w)] m = some (some (.int (J (endsA A T.1 w))), m') ∧ Fr (sK 83) m m' := by
  have i0 := hI.1.1
  have iq := hI.2.2.2.2.1.1
  have e1 := S_85 (m := m) (d := d + 4) h1.1 h1.2 (show -2147483648 ≤ (0 : Int) by omega) (by omega) (show -2147483648 ≤ (1 : Int) by omega) (by omega)
  rw [cB_eq]
  show ∃ m', rB Q0 71 (cB Q0 (d + 5)) 0 [some (.ref 0), some (.int (J w))] m = _ ∧ _
  rw [T_71_0, show cB Q0 (d + 5) 85 [.int (J w), .int 0, .int 1] m = _ from e1, bI_e, nz_bi]
  unfold endsA
  by_cases c1 : 0 ≤ w ∧ w ≤ 1
  · obtain ⟨m1, q1, q2, q3⟩ := S_24 (d := d + 3) (Or.inr (Or.inr rfl) : isS 83) (Or.inl rfl : isS 1) (by omega) hI hV.1
    have hst : Stg n T A m1 := hV.2.fr q3 fun k hk => by unfold sK; omega
    obtain ⟨m', q4, q5⟩ := L_71 (d := d) (n := n) (T := T) hI c1 (A.2.2 1 0 0).toNat 0 A m1 (by omega) (by omega) (hV.1.fr i0.2 q3 fun k g0 g1 => by unfold sK; omega) hI ⟨q2, hst⟩ (by omega) (by omega)
    rw [if_pos c1, if_pos c1, q1, bV_e]
    exact ⟨m', q4, q3.tr q5⟩
  · rw [if_neg c1, if_neg c1]
    exact ⟨m, rfl, Fr.rf⟩
end
