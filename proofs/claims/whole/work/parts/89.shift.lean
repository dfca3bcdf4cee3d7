/-! SHIFT, on both sides -/
def shiftA (P : Tp) (t i u j x : Int) : Int := if 0 ≤ t ∧ t ≤ 5 then (if 0 ≤ u ∧ u ≤ 5 then (if (P.1 t).1 = -1 ∨ (P.1 u).1 = -1 then -11 else if (P.1 t).1 = (P.1 u).1 then (if 0 ≤ x ∧ (0 ≤ i ∧ i ≤ (P.1 t).2 - x) ∧ 0 ≤ j ∧ j ≤ (P.1 u).2 - x then x else -13) else -12) else -1) else -1
def movT (P : Tp) (t i u j x : Int) : Tp := (P.1, fun v k => if v = u ∧ j ≤ k ∧ k < j + x then P.2 t (i + (k - j)) else P.2 v k)
def shiftS (P : Tp) (t i u j x : Int) : Tp := if 0 ≤ t ∧ t ≤ 5 then (if 0 ≤ u ∧ u ≤ 5 then (if (P.1 t).1 = -1 ∨ (P.1 u).1 = -1 then P else if (P.1 t).1 = (P.1 u).1 then (if 0 ≤ x ∧ (0 ≤ i ∧ i ≤ (P.1 t).2 - x) ∧ 0 ≤ j ∧ j ≤ (P.1 u).2 - x then movT P t i u j x else P) else P) else P) else P
theorem okC_G {t a b : Nat} {i j n : Int} (h0 : 0 ≤ n) (hi : 0 ≤ i) (hj : 0 ≤ j) (h1 : i + n ≤ a) (h2 : j + n ≤ b) (h3 : i ≤ 1000000 ∧ j ≤ 1000000 ∧ n ≤ 1000000) {α : Type} (x y : α) : bT (okC Q0 t (.inr (t, a)) (.inr (t, b)) (J i) (J j) (J n)) x y = x := by
  refine bT_t ?_
  show bT (Nat.beq t t) (bT (Nat.beq t t) (Q0.2.2.2.2 (J i) (J j) (J n) a b) false) false = true
  rw [beq_rf]
  show ((decide ((0 : Int32) ≤ J i) && (decide ((0 : Int32) ≤ J j) && decide ((0 : Int32) ≤ J n))) && (decide ((J i).toNatClampNeg + (J n).toNatClampNeg ≤ a) && decide ((J j).toNatClampNeg + (J n).toNatClampNeg ≤ b))) = true
  rw [show (0 : Int32) = J 0 from rfl]
  simp only [J_le (show (-2147483648 : Int) ≤ 0 by omega) (show (0 : Int) ≤ 2147483647 by omega) (show -2147483648 ≤ n by omega) (show n ≤ 2147483647 by omega), J_le (show (-2147483648 : Int) ≤ 0 by omega) (show (0 : Int) ≤ 2147483647 by omega) (show -2147483648 ≤ i by omega) (show i ≤ 2147483647 by omega), J_le (show (-2147483648 : Int) ≤ 0 by omega) (show (0 : Int) ≤ 2147483647 by omega) (show -2147483648 ≤ j by omega) (show j ≤ 2147483647 by omega), J_clamp h0 (show n ≤ 2147483647 by omega), J_clamp hi (show i ≤ 2147483647 by omega), J_clamp hj (show j ≤ 2147483647 by omega), Bool.and_eq_true, decide_eq_true_eq]
  exact ⟨⟨hi, hj, h0⟩, by omega, by omega⟩
theorem cpG_in {f g : Nat → Int64} {i j n k : Nat} (h : j ≤ k) (h2 : k < j + n) : va_cpy f g i j n k = f (i + (k - j)) := by
  unfold va_cpy
  rw [if_pos ⟨h, h2⟩]
theorem cpG_out {f g : Nat → Int64} {i j n k : Nat} (h : ¬ (j ≤ k ∧ k < j + n)) : va_cpy f g i j n k = g k := by
  unfold va_cpy
  rw [if_neg h]
section
variable {m : SM} {d : Nat} {P : Tp}
theorem S_84 (hT : TapC P m) (hI : TapI P) {t i u j x : Int} (h1 : -2147483648 ≤ t ∧ t ≤ 2147483647) (h2 : -2147483648 ≤ i ∧ i ≤ 2147483647) (h3 : -2147483648 ≤ u ∧ u ≤ 2147483647) (h4 : -2147483648 ≤ j ∧ j ≤ 2147483647) (h5 : -2147483648 ≤ x ∧ x ≤ 2147483647) : ∃ m', cB Q0 (d + 3) 84 [.ref 0, .int (J t), .int (J i), .int (J u), .int (J j), .int (J x)] m = some (some (.int (J (shiftA P t i u j x))), m') ∧ TapC (shiftS P t i u j x) m' ∧ FrT m m' := by
  have e1 := S_90 (m := m) (d := d) h1.1 h1.2
  have e2 := S_90 (m := m) (d := d) h3.1 h3.2
  rw [cB_eq]
  show ∃ m', rB Q0 84 (cB Q0 (d + 2)) 0 [some (.ref 0), some (.int (J t)), some (.int (J i)), some (.int (J u)), some (.int (J j)), some (.int (J x))] m = _ ∧ _
  rw [T_84_0, e1, bI_e, nz_bi]
  unfold shiftA shiftS
  by_cases c1 : 0 ≤ t ∧ t ≤ 5
  · rw [if_pos c1, if_pos c1, if_pos c1, e2, bI_e, nz_bi]
    by_cases c2 : 0 ≤ u ∧ u ≤ 5
    · obtain ⟨g1, f1, f2, f3⟩ := tap_g c1.1 (show t < 6 by omega)
      obtain ⟨g4, f4, f5, f6⟩ := tap_g c2.1 (show u < 6 by omega)
      obtain ⟨⟨r0, r1⟩, r2⟩ := hT t c1.1 (by omega)
      obtain ⟨⟨r3, r4⟩, r5⟩ := hT u c2.1 (by omega)
      have hi := hI t c1.1 (by omega)
      have hu := hI u c2.1 (by omega)
      have nm : ∀ {α : Type} (x y : α), bT (Q0.1 0 (J (P.1 t).1) (-1)) x y = if (P.1 t).1 = -1 then x else y := fun x y => q0_J (b := -1) (by omega) (by omega) (by omega) (by omega) x y
      have nn : ∀ {α : Type} (x y : α), bT (Q0.1 0 (J (P.1 u).1) (-1)) x y = if (P.1 u).1 = -1 then x else y := fun x y => q0_J (b := -1) (by omega) (by omega) (by omega) (by omega) x y
      have n0 : ∀ {α : Type} (a b : α), bT (Q0.1 1 (J x) 0) a b = if x < 0 then a else b := fun a b => q1_J (b := 0) (by omega) (by omega) (by omega) (by omega) a b
      rw [if_pos c2, if_pos c2, if_pos c2, cA_J (n := 6) (by omega) (by omega) c1.1 (show t < 6 by omega) (by omega), J_clamp c1.1 (by omega), g1, bO_e, cA_J (n := 6) (by omega) (by omega) c2.1 (show u < 6 by omega) (by omega), J_clamp c2.1 (by omega), g4, bO_e, f1, cO_J, bX_e, r0, nm]
      by_cases c3 : (P.1 t).1 = -1
      · rw [if_pos c3, if_pos (Or.inl c3), if_pos (Or.inl c3)]
        exact ⟨m, rfl, hT, FrT.rf⟩
      · rw [if_neg c3, f4, cO_J, bX_e, r3, nn]
        by_cases c4 : (P.1 u).1 = -1
        · rw [if_pos c4, if_pos (Or.inr c4), if_pos (Or.inr c4)]
          exact ⟨m, rfl, hT, FrT.rf⟩
        · have c34 : ¬ ((P.1 t).1 = -1 ∨ (P.1 u).1 = -1) := fun z => z.elim c3 c4
          rw [if_neg c4, if_neg c34, if_neg c34, cO_J, bX_e, cO_J, bX_e, q0_J (by omega) (by omega) (by omega) (by omega)]
          by_cases c5 : (P.1 t).1 = (P.1 u).1
          · rw [if_pos c5, if_pos c5, if_pos c5, n0]
            by_cases c6 : x < 0
            · rw [if_pos c6, if_neg (fun z => by omega), if_neg (fun z => by omega)]
              exact ⟨m, rfl, hT, FrT.rf⟩
            · have e3 := S_85 (m := m) (d := d + 1) h2.1 h2.2 (show -2147483648 ≤ (0 : Int) by omega) (by omega) (show -2147483648 ≤ (P.1 t).2 - x by omega) (by omega)
              have e4 := S_85 (m := m) (d := d + 1) h4.1 h4.2 (show -2147483648 ≤ (0 : Int) by omega) (by omega) (show -2147483648 ≤ (P.1 u).2 - x by omega) (by omega)
              rw [if_neg c6, cO_J, bX_e, r1, J_sub, show cB Q0 (d + 2) 85 [.int (J i), .int 0, .int (J ((P.1 t).2 - x))] m = _ from e3, bI_e, nz_bi]
              by_cases c7 : 0 ≤ i ∧ i ≤ (P.1 t).2 - x
              · rw [if_pos c7, cO_J, bX_e, r4, J_sub, show cB Q0 (d + 2) 85 [.int (J j), .int 0, .int (J ((P.1 u).2 - x))] m = _ from e4, bI_e, nz_bi]
                by_cases c8 : 0 ≤ j ∧ j ≤ (P.1 u).2 - x
                · have c9 : 0 ≤ x ∧ (0 ≤ i ∧ i ≤ (P.1 t).2 - x) ∧ 0 ≤ j ∧ j ≤ (P.1 u).2 - x := ⟨by omega, c7, c8⟩
                  rw [if_pos c8, if_pos c9, if_pos c9, cO_J, f2, bO_e, cO_J, f5, bO_e, f3, f6, okC_G (by omega) c7.1 c8.1 (show i + x ≤ (60 : Nat) by omega) (show j + x ≤ (60 : Nat) by omega) (by omega), bX_e, J_clamp c7.1 (by omega), J_clamp c8.1 (by omega), J_clamp (show 0 ≤ x by omega) (by omega)]
                  refine ⟨_, rfl, fun v g0 g9 => ⟨(hT v g0 g9).1, fun k z0 z1 => ?_⟩, fun k hk => rfl, fun k hk => ?_⟩
                  · show upR m.2 (166 + 2 * u.toNat) (va_cpy (m.2 (166 + 2 * t.toNat)) (m.2 (166 + 2 * u.toNat)) i.toNat j.toNat x.toNat) (166 + 2 * v.toNat) k.toNat = if v = u ∧ j ≤ k ∧ k < j + x then P.2 t (i + (k - j)) else P.2 v k
                    unfold upR
                    by_cases e : v = u
                    · rw [e, if_pos rfl]
                      by_cases e9 : j ≤ k ∧ k < j + x
                      · rw [if_pos ⟨rfl, e9⟩, cpG_in (by omega) (by omega), show i.toNat + (k.toNat - j.toNat) = (i + (k - j)).toNat by omega]
                        exact r2 (i + (k - j)) (by omega) (by omega)
                      · rw [if_neg (fun z => e9 z.2), cpG_out (by omega)]
                        exact r5 k z0 z1
                    · rw [if_neg (by omega), if_neg (fun z => e z.1)]
                      exact (hT v g0 g9).2 k z0 z1
                  · show upR m.2 (166 + 2 * u.toNat) _ k = _
                    unfold upR
                    rw [if_neg (by omega)]
                · rw [if_neg c8, if_neg (fun z => c8 z.2.2), if_neg (fun z => c8 z.2.2)]
                  exact ⟨m, rfl, hT, FrT.rf⟩
              · rw [if_neg c7, if_neg (fun z => c7 z.2.1), if_neg (fun z => c7 z.2.1)]
                exact ⟨m, rfl, hT, FrT.rf⟩
          · rw [if_neg c5, if_neg c5, if_neg c5]
            exact ⟨m, rfl, hT, FrT.rf⟩
    · rw [if_neg c2, if_neg c2, if_neg c2]
      exact ⟨m, rfl, hT, FrT.rf⟩
  · rw [if_neg c1, if_neg c1, if_neg c1]
    exact ⟨m, rfl, hT, FrT.rf⟩
theorem L_205b {u j x : Int} (hu : 0 ≤ u ∧ u ≤ 5) (hj : 0 ≤ j) (hx : j + x ≤ 60) {W : Int → Int64} {cf : Nat → List Value → SM → Rs SM} : ∀ (n : Nat) (c : Int) (m : SM), 0 ≤ c → c + n = x → (∀ k : Int, 0 ≤ k → k < x → m.2 231 k.toNat = W k) → (∀ k : Int, 0 ≤ k → k < c → m.2 230 (60 * u + j + k).toNat = W k) → ∃ m', rB Q0 205 cf 141 [some (.ref 177), none, none, some (.int (J u)), some (.int (J j)), some (.int (J x)), some (.int (J c))] m = some (some (.int (J x)), m') ∧ (∀ k : Int, 0 ≤ k → k < x → m'.2 230 (60 * u + j + k).toNat = W k) ∧ (∀ k : Int, 0 ≤ k → (k < 60 * u + j ∨ 60 * u + j + x ≤ k) → m'.2 230 k.toNat = m.2 230 k.toNat) ∧ m'.1 = m.1 ∧ ∀ k, k ≠ 230 → m'.2 k = m.2 k := by
  intro n
  induction n with
  | zero =>
    intro c m g0 g1 hW h
    obtain rfl : c = x := by omega
    refine ⟨m, ?_, h, fun _ _ _ => rfl, rfl, fun _ _ => rfl⟩
    rw [T_205_141, q2_J (by omega) (by omega) (by omega) (by omega), if_pos (by omega)]
  | succ n ih =>
    intro c m g0 g1 hW h
    obtain ⟨m', q1, q2, q5, q3, q4⟩ := ih (c + 1) (m.1, up2 m.2 230 (60 * u + j + c).toNat (W c)) (by omega) (by omega) (fun k z0 z1 => by
      show up2 m.2 230 (60 * u + j + c).toNat (W c) 231 k.toNat = _
      rw [u2_ne _ _ (by omega)]; exact hW k z0 z1) (fun k z0 z1 => by
      show up2 m.2 230 (60 * u + j + c).toNat (W c) 230 (60 * u + j + k).toNat = _
      rw [u2_at]
      by_cases e : k = c
      · rw [if_pos (by omega), e]
      · rw [if_neg (by omega)]; exact h k z0 (by omega))
    refine ⟨m', ?_, q2, fun k z0 z1 => ?_, q3, fun k hk => ?_⟩
    · rw [T_205_141, q2_J (by omega) (by omega) (by omega) (by omega), if_neg (by omega), c1_J (n := 60) g0 (show c < 60 by omega) (by omega), bX_e, J_clamp g0 (by omega), hW c g0 (by omega), show (60 : Int32) * J u + J j + J c = J (60 * u + j + c) by rw [show (60 : Int32) = J 60 from rfl, J_mul, J_add, J_add], c1_J (n := 360) (by omega) (show 60 * u + j + c < 360 by omega) (by omega), bX_e, J_clamp (a := 60 * u + j + c) (by omega) (by omega), show J c + 1 = J (c + 1) from J_add c 1]
      exact q1
    · rw [q5 k z0 z1]
      show up2 m.2 230 (60 * u + j + c).toNat (W c) 230 k.toNat = _
      rw [u2_at, if_neg (by omega)]
    · rw [q4 k hk]
      exact u2_ne _ _ hk
theorem L_205a {t i u j x : Int} (ht : 0 ≤ t ∧ t ≤ 5) (hi : 0 ≤ i) (hx : i + x ≤ 60) (hx0 : 0 ≤ x) (hu : 0 ≤ u ∧ u ≤ 5) (hj : 0 ≤ j) (hx2 : j + x ≤ 60) {W : Int → Int64} {cf : Nat → List Value → SM → Rs SM} : ∀ (n : Nat) (c : Int) (m : SM), 0 ≤ c → c + n = x → (∀ k : Int, 0 ≤ k → k < x → m.2 230 (60 * t + i + k).toNat = W k) → (∀ k : Int, 0 ≤ k → k < c → m.2 231 k.toNat = W k) → ∃ m', rB Q0 205 cf 104 [some (.ref 177), some (.int (J t)), some (.int (J i)), some (.int (J u)), some (.int (J j)), some (.int (J x)), some (.int (J c))] m = some (some (.int (J x)), m') ∧ (∀ k : Int, 0 ≤ k → k < x → m'.2 230 (60 * u + j + k).toNat = W k) ∧ (∀ k : Int, 0 ≤ k → (k < 60 * u + j ∨ 60 * u + j + x ≤ k) → m'.2 230 k.toNat = m.2 230 k.toNat) ∧ m'.1 = m.1 ∧ ∀ k, k ≠ 230 → k ≠ 231 → m'.2 k = m.2 k := by
  intro n
  induction n with
  | zero =>
    intro c m g0 g1 hW h
    obtain rfl : c = x := by omega
    obtain ⟨m', q1, q2, q3, q4, q5⟩ := L_205b (W := W) (cf := cf) hu hj hx2 c.toNat 0 m (by omega) (by omega) h (fun k z0 z1 => by omega)
    refine ⟨m', ?_, q2, q3, q4, fun k hk _ => q5 k hk⟩
    rw [T_205_104, q2_J (by omega) (by omega) (by omega) (by omega), if_pos (by omega)]
    exact q1
  | succ n ih =>
    intro c m g0 g1 hW h
    obtain ⟨m', q1, q2, q5, q3, q4⟩ := ih (c + 1) (m.1, up2 m.2 231 c.toNat (W c)) (by omega) (by omega) (fun k z0 z1 => by
      show up2 m.2 231 c.toNat (W c) 230 _ = _
      rw [u2_ne _ _ (by omega)]; exact hW k z0 z1) (fun k z0 z1 => by
      show up2 m.2 231 c.toNat (W c) 231 k.toNat = _
      rw [u2_at]
      by_cases e : k = c
      · rw [if_pos (by omega), e]
      · rw [if_neg (by omega)]; exact h k z0 (by omega))
    refine ⟨m', ?_, q2, fun k z0 z1 => ?_, q3, fun k hk hk2 => ?_⟩
    · rw [T_205_104, q2_J (by omega) (by omega) (by omega) (by omega), if_neg (by omega), show (60 : Int32) * J t + J i + J c = J (60 * t + i + c) by rw [show (60 : Int32) = J 60 from rfl, J_mul, J_add, J_add], c1_J (n := 360) (by omega) (show 60 * t + i + c < 360 by omega) (by omega), bX_e, J_clamp (a := 60 * t + i + c) (by omega) (by omega), hW c g0 (by omega), c1_J (n := 60) g0 (show c < 60 by omega) (by omega), bX_e, J_clamp g0 (by omega), show J c + 1 = J (c + 1) from J_add c 1]
      exact q1
    · rw [q5 k z0 z1]
      show up2 m.2 231 c.toNat (W c) 230 k.toNat = _
      rw [u2_ne _ _ (by omega)]
    · rw [q4 k hk hk2]
      exact u2_ne _ _ hk2
theorem S_205 (hT : TapN P m) (hI : TapI P) {t i u j x : Int} (h1 : -2147483648 ≤ t ∧ t ≤ 2147483647) (h2 : -2147483648 ≤ i ∧ i ≤ 2147483647) (h3 : -2147483648 ≤ u ∧ u ≤ 2147483647) (h4 : -2147483648 ≤ j ∧ j ≤ 2147483647) (h5 : -2147483648 ≤ x ∧ x ≤ 2147483647) : ∃ m', cB Q0 (d + 3) 205 [.ref 177, .int (J t), .int (J i), .int (J u), .int (J j), .int (J x)] m = some (some (.int (J (shiftA P t i u j x))), m') ∧ TapN (shiftS P t i u j x) m' ∧ FrU m m' := by
  have e1 := S_200 (m := m) (d := d) h1.1 h1.2
  have e2 := S_200 (m := m) (d := d) h3.1 h3.2
  rw [cB_eq]
  show ∃ m', rB Q0 205 (cB Q0 (d + 2)) 0 [some (.ref 177), some (.int (J t)), some (.int (J i)), some (.int (J u)), some (.int (J j)), some (.int (J x))] m = _ ∧ _
  rw [T_205_0, e1, bI_e, nz_bi]
  unfold shiftA shiftS
  by_cases c1 : 0 ≤ t ∧ t ≤ 5
  · rw [if_pos c1, if_pos c1, if_pos c1, e2, bI_e, nz_bi]
    by_cases c2 : 0 ≤ u ∧ u ≤ 5
    · obtain ⟨⟨r0, r1⟩, r2⟩ := hT t c1.1 (by omega)
      obtain ⟨⟨r3, r4⟩, r5⟩ := hT u c2.1 (by omega)
      have hi := hI t c1.1 (by omega)
      have hu := hI u c2.1 (by omega)
      have o1 : ∀ {α : Type} (a b : α), bT (okI Q0 (.inr (0, 6)) (J t)) a b = a := fun a b => cI_J (n := 6) c1.1 (show t < 6 by omega) (by omega) a b
      have o2 : (J t).toNatClampNeg = t.toNat := J_clamp c1.1 (by omega)
      have o3 : ∀ {α : Type} (a b : α), bT (okI Q0 (.inr (0, 6)) (J u)) a b = a := fun a b => cI_J (n := 6) c2.1 (show u < 6 by omega) (by omega) a b
      have o4 : (J u).toNatClampNeg = u.toNat := J_clamp c2.1 (by omega)
      have nm : ∀ {α : Type} (x y : α), bT (Q0.1 1 (J (P.1 t).1) 0) x y = if (P.1 t).1 < 0 then x else y := fun x y => q1_J (b := 0) (by omega) (by omega) (by omega) (by omega) x y
      have nn : ∀ {α : Type} (x y : α), bT (Q0.1 2 0 (J (P.1 u).1)) x y = if 0 ≤ (P.1 u).1 then x else y := fun x y => q2_J (a := 0) (by omega) (by omega) (by omega) (by omega) x y
      have n0 : ∀ {α : Type} (a b : α), bT (Q0.1 1 (J x) 0) a b = if x < 0 then a else b := fun a b => q1_J (b := 0) (by omega) (by omega) (by omega) (by omega) a b
      have ni : ∀ {α : Type} (a b : α), bT (Q0.1 1 (J i) 0) a b = if i < 0 then a else b := fun a b => q1_J (b := 0) (by omega) (by omega) (by omega) (by omega) a b
      have nj : ∀ {α : Type} (a b : α), bT (Q0.1 1 (J j) 0) a b = if j < 0 then a else b := fun a b => q1_J (b := 0) (by omega) (by omega) (by omega) (by omega) a b
      rw [if_pos c2, if_pos c2, if_pos c2, o1, o2, bX_e, r0, nm]
      by_cases c3 : (P.1 t).1 = -1
      · rw [if_pos (show (P.1 t).1 < 0 by omega), if_pos (Or.inl c3), if_pos (Or.inl c3)]
        exact ⟨m, rfl, hT, FrU.rf⟩
      · rw [if_neg (show ¬ (P.1 t).1 < 0 by omega), o3, bX_e, o4, r3, nn]
        by_cases c4 : (P.1 u).1 = -1
        · rw [if_neg (show ¬ 0 ≤ (P.1 u).1 by omega), if_pos (Or.inr c4), if_pos (Or.inr c4)]
          exact ⟨m, rfl, hT, FrU.rf⟩
        · have c34 : ¬ ((P.1 t).1 = -1 ∨ (P.1 u).1 = -1) := fun z => z.elim c3 c4
          rw [if_pos (show 0 ≤ (P.1 u).1 by omega), if_neg c34, if_neg c34, o1, bX_e, o3, bX_e, q0_J (by omega) (by omega) (by omega) (by omega)]
          by_cases c5 : (P.1 t).1 = (P.1 u).1
          · rw [if_pos c5, if_pos c5, if_pos c5, n0]
            by_cases c6 : x < 0
            · rw [if_pos c6, if_neg (fun z => by omega), if_neg (fun z => by omega)]
              exact ⟨m, rfl, hT, FrU.rf⟩
            · rw [if_neg c6, ni]
              by_cases d1 : i < 0
              · rw [if_pos d1, if_neg (fun z => by omega), if_neg (fun z => by omega)]
                exact ⟨m, rfl, hT, FrU.rf⟩
              · rw [if_neg d1, nj]
                by_cases d2 : j < 0
                · rw [if_pos d2, if_neg (fun z => by omega), if_neg (fun z => by omega)]
                  exact ⟨m, rfl, hT, FrU.rf⟩
                · rw [if_neg d2, o1, bX_e, r1, J_sub, q1_J (by omega) (by omega) (by omega) (by omega)]
                  by_cases d3 : (P.1 t).2 - x < i
                  · rw [if_pos d3, if_neg (fun z => by omega), if_neg (fun z => by omega)]
                    exact ⟨m, rfl, hT, FrU.rf⟩
                  · rw [if_neg d3, o3, bX_e, r4, J_sub, q2_J (by omega) (by omega) (by omega) (by omega)]
                    by_cases d4 : j ≤ (P.1 u).2 - x
                    · have c9 : 0 ≤ x ∧ (0 ≤ i ∧ i ≤ (P.1 t).2 - x) ∧ 0 ≤ j ∧ j ≤ (P.1 u).2 - x := by omega
                      rw [if_pos d4, if_pos c9, if_pos c9]
                      obtain ⟨m', q1, q2, q3, q4, q5⟩ := L_205a (t := t) (i := i) (u := u) (j := j) (x := x) (W := fun k => P.2 t (i + k)) (cf := cB Q0 (d + 2)) c1 (by omega) (by omega) (by omega) c2 (by omega) (by omega) x.toNat 0 m (by omega) (by omega) (fun k z0 z1 => by
                        rw [show 60 * t + i + k = 60 * t + (i + k) by omega]
                        exact r2 (i + k) (by omega) (by omega)) (fun k z0 z1 => by omega)
                      refine ⟨m', q1, fun v g0 g9 => ⟨by rw [q4]; exact (hT v g0 g9).1, fun k z0 z1 => ?_⟩, fun k _ _ => by rw [q4], q5⟩
                      show m'.2 230 (60 * v + k).toNat = if v = u ∧ j ≤ k ∧ k < j + x then P.2 t (i + (k - j)) else P.2 v k
                      by_cases e : v = u ∧ j ≤ k ∧ k < j + x
                      · rw [if_pos e, e.1, show 60 * u + k = 60 * u + j + (k - j) by omega]
                        exact q2 (k - j) (by omega) (by omega)
                      · rw [if_neg e, q3 (60 * v + k) (by omega) (by omega)]
                        exact (hT v g0 g9).2 k z0 z1
                    · rw [if_neg d4, if_neg (fun z => by omega), if_neg (fun z => by omega)]
                      exact ⟨m, rfl, hT, FrU.rf⟩
          · rw [if_neg c5, if_neg c5, if_neg c5]
            exact ⟨m, rfl, hT, FrU.rf⟩
    · rw [if_neg c2, if_neg c2, if_neg c2]
      exact ⟨m, rfl, hT, FrU.rf⟩
  · rw [if_neg c1, if_neg c1, if_neg c1]
    exact ⟨m, rfl, hT, FrU.rf⟩
theorem putT_I (hI : TapI P) {t s x : Int} (hs : -1 ≤ s ∧ s ≤ 4) (hx : 0 ≤ x ∧ x ≤ 60) (h : s = -1 → x = 0) : TapI (putT P t s x) := by
  intro u g0 g1
  show (-1 ≤ (if u = t then (s, x) else P.1 u).1 ∧ (if u = t then (s, x) else P.1 u).1 ≤ 4) ∧ (0 ≤ (if u = t then (s, x) else P.1 u).2 ∧ (if u = t then (s, x) else P.1 u).2 ≤ 60) ∧ ((if u = t then (s, x) else P.1 u).1 = -1 → (if u = t then (s, x) else P.1 u).2 = 0)
  by_cases e : u = t
  · rw [if_pos e]; exact ⟨hs, hx, h⟩
  · rw [if_neg e]; exact hI u g0 g1
theorem tapeS_I (hI : TapI P) {t s x : Int} : TapI (tapeS P t s x) := by
  unfold tapeS
  split
  · split
    · exact putT_I hI (by omega) (by omega) (fun _ => rfl)
    · split
      · split
        · split
          · exact putT_I hI (by omega) (by omega) (fun _ => by omega)
          · exact hI
        · exact hI
      · exact hI
  · exact hI
theorem itemS_I (hI : TapI P) {t i : Int} {v : Int64} : TapI (itemS P t i v) := by
  unfold itemS
  split
  · split
    · exact hI
    · split
      · exact hI
      · exact hI
  · exact hI
theorem shiftS_I (hI : TapI P) {t i u j x : Int} : TapI (shiftS P t i u j x) := by
  unfold shiftS
  split
  · split
    · split
      · exact hI
      · split
        · split
          · exact hI
          · exact hI
        · exact hI
    · exact hI
  · exact hI
end
