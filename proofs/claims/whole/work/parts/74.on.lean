/-! ON, in the class -/
noncomputable def onT (Q : Qs) (cf : Nat → List Value → SM → Rs SM) (a1 a2 : Int32) (m : SM) : Rs SM := (bI (cf 85 [.int a1, .int 0, .int 60] m) fun x4 m3 => bT (Q.1 0 x4 0) (some (some (.int (-2)), m3)) (bV (cf 24 [.ref 83, .ref 1] m3) fun m5 => bV (cf 97 [.ref 0, .ref 83, .int a1, .int 2147483647] m5) fun m6 => bT (Q.1 0 a2 0) (bX (m6.1 83 6) fun z7 => some (some (.int z7), m6)) (bT (Q.1 2 20 a2) (bT (Q.1 0 10 0) none (bT (Q.1 2 30 a2) (bI (cf 95 [.ref 0, .ref 83, .int (a2 - a2 / 10 * 10), .int 1] m6) fun x9 m8 => some (some (.int x9), m8)) (bI (cf 95 [.ref 0, .ref 83, .int (a2 - a2 / 10 * 10), .int 0] m6) fun x11 m10 => some (some (.int x11), m10)))) (bT (Q.1 0 10 0) none (bT (okA Q (.inr (4, 6)) (a2 - a2 / 10 * 10)) (bO (GRt 87 (Int32.toNatClampNeg (a2 - a2 / 10 * 10))) fun q12 => bT (okO (SHt q12) 1) (bI (cf 8 [.ref q12] m6) fun x14 m13 => some (some (.int x14), m13)) none) none)))))
theorem T_62_s (Q : Qs) (cf : Nat → List Value → SM → Rs SM) (a1 a2 : Int32) (m : SM) : rB Q 62 cf 0 [some (.ref 0), some (.int a1), some (.int a2)] m = bI (cf 85 [.int a2, .int 10, .int 39] m) fun x2 m1 => bT (Q.1 0 x2 0) (bT (Q.1 0 a2 0) (onT Q cf a1 a2 m1) (bT (Q.1 0 0 0) (some (some (.int (-1)), m1)) (onT Q cf a1 a2 m1))) (bT (Q.1 0 10 0) none (bI (cf 87 [.ref 0, .int (a2 - a2 / 10 * 10)] m1) fun x28 m27 => bT (Q.1 0 x28 0) (bT (Q.1 0 a2 0) (onT Q cf a1 a2 m27) (bT (Q.1 0 0 0) (some (some (.int (-1)), m27)) (onT Q cf a1 a2 m27))) (bT (Q.1 0 a2 0) (onT Q cf a1 a2 m27) (bT (Q.1 0 1 0) (some (some (.int (-1)), m27)) (onT Q cf a1 a2 m27))))) := T_62_0 Q cf a1 a2 m
def onB (B : Shp) (c : Cls) (w : Int) : Int := if w = 0 then B.1 0 2 else if w < 20 then hairs (B.2.1 (w % 10)) else if w < 30 then offA B c (w % 10) 0 (-1) else offA B c (w % 10) 1 (-1)
def onA (A : Shp) (rain : Int) (c : Cls) (a w : Int) : Int := if ¬ (w = 0 ∨ (10 ≤ w ∧ w ≤ 39 ∧ w % 10 ≤ A.1 0 0 - 1)) then -1 else if ¬ (0 ≤ a ∧ a ≤ 60) then -2 else onB (nightsSh rain 2147483647 a.toNat A) c w
section
variable {m : SM} {d : Nat} {n : Int} {T : Int × Cls} {A : Shp}
theorem L_62 (hI : ShI A) (hV : View 1 n T A m) (g1 : A.1 0 1 ≤ 9999) (g2 : A.1 0 2 ≤ 9999) {a w : Int} (h1 : -2147483648 ≤ a ∧ a ≤ 2147483647) (hw : w = 0 ∨ (10 ≤ w ∧ w ≤ 39 ∧ w % 10 ≤ A.1 0 0 - 1)) : ∃ m', onT Q0 (cB Q0 (d + 5)) (J a) (J w) m = some (some (.int (J (if ¬ (0 ≤ a ∧ a ≤ 60) then -2 else onB (nightsSh T.1 2147483647 a.toNat A) T.2 w))), m') ∧ Fr scK m m' := by
  have i0 := hI.1.1
  have i1 := hI.1.2.1
  have i3 := hI.1.2.2.2
  have hs : isS 83 := Or.inr (Or.inr rfl)
  have e1 := S_85 (m := m) (d := d + 4) h1.1 h1.2 (show -2147483648 ≤ (0 : Int) by omega) (by omega) (show -2147483648 ≤ (60 : Int) by omega) (by omega)
  unfold onT
  rw [show cB Q0 (d + 5) 85 [.int (J a), .int 0, .int 60] m = _ from e1, bI_e, nz_bi]
  by_cases c1 : 0 ≤ a ∧ a ≤ 60
  · rw [if_pos c1, if_neg (fun z => z c1)]
    obtain ⟨m1, q1, q2, q3⟩ := S_24 (d := d + 3) (s := 83) (g := 1) hs (Or.inl rfl) (by omega) hI hV.1
    have hG1 : Stg n T A m1 := hV.2.fr q3 fun k hk => by unfold sK; omega
    obtain ⟨c3, c4, c5, c6⟩ := nightsSh_c T.1 2147483647 a.toNat A hI (by omega) (by omega) (by omega)
    obtain ⟨m2, r1, r2, r3⟩ := S_97 (d := d + 1) hs q2 hI q2.1.2.2.2 hG1.1.1 i3 hG1.1.2 hG1.2.1.1 hG1.2.2.1 (most := 2147483647) (by omega) a.toNat (by omega) (by omega) (by omega) (by omega)
    rw [show ((a.toNat : Nat) : Int) = a by omega] at r1
    have hIB := nightsSh_I a.toNat hI (rain := T.1) (most := 2147483647) (by omega) (by omega) (by omega)
    have hcB : (nightsSh T.1 2147483647 a.toNat A).1 0 0 = A.1 0 0 := c3 0 0 (by omega)
    have hVB : View 83 n T (nightsSh T.1 2147483647 a.toNat A) m2 := ⟨r2, (hG1.fr r3 fun k hk => by unfold sK; omega).sh (c3 0 3 (by omega))⟩
    generalize nightsSh T.1 2147483647 a.toNat A = B at r2 hIB hVB hcB ⊢
    have hF2 : Fr scK m m2 := (q3.tr r3).mono fun k hk => by unfold sK at hk; unfold scK; omega
    rw [q1, bV_e, show cB Q0 (d + 5) 97 [.ref 0, .ref 83, .int (J a), .int 2147483647] m1 = _ from r1, bV_e]
    have n0 : ∀ {α : Type} (x y : α), bT (Q0.1 0 (J w) 0) x y = if w = 0 then x else y := fun x y => q0_J (b := 0) (by omega) (by omega) (by omega) (by omega) x y
    have n20 : ∀ {α : Type} (x y : α), bT (Q0.1 2 20 (J w)) x y = if 20 ≤ w then x else y := fun x y => q2_J (a := 20) (by omega) (by omega) (by omega) (by omega) x y
    have n30 : ∀ {α : Type} (x y : α), bT (Q0.1 2 30 (J w)) x y = if 30 ≤ w then x else y := fun x y => q2_J (a := 30) (by omega) (by omega) (by omega) (by omega) x y
    have n10 : ∀ {α : Type} (x y : α), bT (Q0.1 0 10 0) x y = y := fun x y => rfl
    unfold onB
    by_cases k0 : w = 0
    · rw [n0, if_pos k0, if_pos k0]
      exact ⟨m2, by rw [bX_e, hVB.1.1.2.2.1], hF2⟩
    · rw [n0, if_neg k0, if_neg k0]
      have em : J w - J w / 10 * 10 = J (w % 10) := by
        rw [show (10 : Int32) = J 10 from rfl, J_div (by omega) (by omega) (by omega) (by omega), J_mul, J_sub, tmod_b (by omega)]
      have hp : 0 ≤ w % 10 ∧ w % 10 < B.1 0 0 := by omega
      by_cases k1 : 20 ≤ w
      · rw [n20, if_pos k1, if_neg (show ¬ w < 20 by omega), n10, em]
        by_cases k2 : 30 ≤ w
        · obtain ⟨m3, y1, y2⟩ := S_95 (d := d) hs hIB hVB (p := w % 10) (l := 1) hp (by omega)
          rw [n30, if_pos k2, if_neg (show ¬ w < 30 by omega)]
          exact ⟨m3, by rw [show cB Q0 (d + 5) 95 [.ref 0, .ref 83, .int (J (w % 10)), .int 1] m2 = _ from y1, bI_e], hF2.tr (scK_of y2 fun k hk => by unfold kT at hk; omega)⟩
        · obtain ⟨m3, y1, y2⟩ := S_95 (d := d) hs hIB hVB (p := w % 10) (l := 0) hp (by omega)
          rw [n30, if_neg k2, if_pos (show w < 30 by omega)]
          exact ⟨m3, by rw [show cB Q0 (d + 5) 95 [.ref 0, .ref 83, .int (J (w % 10)), .int 0] m2 = _ from y1, bI_e], hF2.tr (scK_of y2 fun k hk => by unfold kT at hk; omega)⟩
      · rw [n20, if_neg k1, if_pos (show w < 20 by omega), n10, em]
        have hF := hd_F hs hp.1 (by omega)
        have g : GRt 87 (w % 10).toNat = some (hd 83 (w % 10)) := hd_g hs hp.1 (by omega)
        have e8 := S_8 hF (hVB.1.2.2.1 _ hp.1 hp.2) (hIB.2.2.1 _ hp.1 hp.2) (d + 4)
        exact ⟨m2, by rw [cA_J (t := 4) (n := 6) (by omega) (by omega) hp.1 (show w % 10 < (6 : Nat) by omega) (by omega), J_clamp hp.1 (by omega), g, bO_e, hF.1.1, cO_J, e8, bI_e], hF2⟩
  · rw [if_neg c1, if_pos c1]
    exact ⟨m, rfl, Fr.rf⟩
end
