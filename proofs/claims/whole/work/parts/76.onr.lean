/-! ON, in the reference -/
noncomputable def onU (Q : Qs) (cf : Nat → List Value → SM → Rs SM) (a1 a2 : Int32) (m : SM) : Rs SM := (bI (cf 118 [.ref 177, .int a1] m) fun x2 m1 => bT (Q.1 0 x2 0) (some (some (.int (-2)), m1)) (bV (cf 158 [.ref 177] m1) fun m3 => bV (cf 156 [.ref 177, .int a1] m3) fun m4 => bT (Q.1 0 a2 0) (bX (m4.1 177 2) fun z5 => bV (cf 159 [.ref 177] m4) fun m6 => some (some (.int z5), m6)) (bT (Q.1 2 20 a2) (bT (Q.1 2 30 a2) (bI (cf 153 [.ref 177, .int (a2 - 30), .int 1] m4) fun x8 m7 => bV (cf 159 [.ref 177] m7) fun m9 => some (some (.int x8), m9)) (bI (cf 153 [.ref 177, .int (a2 - 20), .int 0] m4) fun x11 m10 => bV (cf 159 [.ref 177] m10) fun m12 => some (some (.int x11), m12))) (bI (cf 151 [.ref 177, .int (a2 - 10)] m4) fun x14 m13 => bV (cf 159 [.ref 177] m13) fun m15 => some (some (.int x14), m15)))))
theorem T_164_s (Q : Qs) (cf : Nat → List Value → SM → Rs SM) (a1 a2 : Int32) (m : SM) : rB Q 164 cf 0 [some (.ref 177), some (.int a1), some (.int a2)] m = bT (Q.1 0 a2 0) (onU Q cf a1 a2 m) (bX (m.1 177 0) fun z16 => bI (cf 109 [.ref 177, .int a2, .int 10, .int (9 + z16)] m) fun x18 m17 => bT (Q.1 0 x18 0) (bX (m17.1 177 0) fun z19 => bI (cf 109 [.ref 177, .int a2, .int 20, .int (19 + z19)] m17) fun x21 m20 => bT (Q.1 0 x21 0) (bX (m20.1 177 0) fun z22 => bI (cf 109 [.ref 177, .int a2, .int 30, .int (29 + z22)] m20) fun x24 m23 => bT (Q.1 0 x24 0) (some (some (.int (-1)), m23)) (onU Q cf a1 a2 m23)) (onU Q cf a1 a2 m20)) (onU Q cf a1 a2 m17)) := T_164_0 Q cf a1 a2 m
section
variable {m : SM} {d : Nat} {A : Shp} {sh h : Int} {L : Cla}
theorem L_164 (hI : ShI A) (hV : ViewN sh h L A m) (ht : ThI (rainL 0 L, clsL L)) (h32 : m.1 177 32 = J 9999) (g1 : A.1 0 1 ≤ 9999) (g2 : A.1 0 2 ≤ 9999) {a w : Int} (h1 : -2147483648 ≤ a ∧ a ≤ 2147483647) (hw : w = 0 ∨ (10 ≤ w ∧ w ≤ 39 ∧ w % 10 ≤ A.1 0 0 - 1)) : ∃ m', onU Q0 (cB Q0 (d + 6)) (J a) (J w) m = some (some (.int (J (if ¬ (0 ≤ a ∧ a ≤ 60) then -2 else onB (nightsSh (rainL 0 L) 2147483647 a.toNat A) (clsL L) w))), m') ∧ BK m m' := by
  have i0 := hI.1.1
  have i1 := hI.1.2.1
  have e1 := S_118 (m := m) (d := d + 4) h1.1 h1.2
  unfold onU
  rw [e1, bI_e, nz_bi]
  by_cases c1 : 0 ≤ a ∧ a ≤ 60
  · rw [if_pos c1, if_neg (fun z => z c1)]
    obtain ⟨a0, a1, a2, a3⟩ := hV.1.1
    obtain ⟨m1, q1, q2, q3, q4⟩ := S_158 (d := d + 5) a1 a2 a3
    have hR1 : ShN sh A m1 := hV.1.fr q4 (fun k g1 g2 => by unfold svK at g2; omega) (fun i g1 g2 => by unfold svI at g2; omega)
    have hS1 : StgN h L m1 := hV.2.fr q4 (fun k g1 g2 g3 => by unfold svK at g3; omega) (by unfold svI; omega)
    have hmm : nightsSh (rainL 0 L) 2147483647 a.toNat A = nightsSh (rainL 0 L) 2000000000 a.toNat A := nightsSh_most a.toNat A hI (by omega) (by omega) (by omega) (by omega)
    obtain ⟨c3, c4, c5, c6⟩ := nightsSh_c (rainL 0 L) 2000000000 a.toNat A hI (by omega) (by omega) (by omega)
    obtain ⟨m2, r1, r2, r3⟩ := S_156 (d := d + 2) hR1 hI hS1 (most := 2000000000) (by omega) q3 a.toNat (by omega) (by omega) (by omega) (by omega)
    rw [show ((a.toNat : Nat) : Int) = a by omega] at r1
    have hIB := nightsSh_I a.toNat hI (rain := rainL 0 L) (most := 2000000000) (by omega) (by omega) (by omega)
    have hcB : (nightsSh (rainL 0 L) 2000000000 a.toNat A).1 0 0 = A.1 0 0 := c3 0 0 (by omega)
    have hVB : ViewN sh h L (nightsSh (rainL 0 L) 2000000000 a.toNat A) m2 := ⟨r2, hS1.fr r3 (fun k g1 g2 g3 => by unfold tiK at g3; omega) (by unfold tiI; omega)⟩
    rw [hmm]
    generalize nightsSh (rainL 0 L) 2000000000 a.toNat A = B at r2 hIB hVB hcB ⊢
    have k2 : FrR qK qI m1 m2 := r3.mono (fun k hk => Or.inl hk) (fun i hi => Or.inr hi)
    rw [q1, bV_e, r1, bV_e]
    have n0 : ∀ {α : Type} (x y : α), bT (Q0.1 0 (J w) 0) x y = if w = 0 then x else y := fun x y => q0_J (b := 0) (by omega) (by omega) (by omega) (by omega) x y
    have n20 : ∀ {α : Type} (x y : α), bT (Q0.1 2 20 (J w)) x y = if 20 ≤ w then x else y := fun x y => q2_J (a := 20) (by omega) (by omega) (by omega) (by omega) x y
    have n30 : ∀ {α : Type} (x y : α), bT (Q0.1 2 30 (J w)) x y = if 30 ≤ w then x else y := fun x y => q2_J (a := 30) (by omega) (by omega) (by omega) (by omega) x y
    unfold onB
    by_cases k0 : w = 0
    · obtain ⟨m4, y3, y4⟩ := back (d := d + 5) a1 a2 a3 h32 q4 q2 k2
      rw [n0, if_pos k0, if_pos k0]
      exact ⟨m4, by rw [bX_e, y3, bV_e, hVB.1.1.2.2.1], y4⟩
    · rw [n0, if_neg k0, if_neg k0]
      have hp : 0 ≤ w % 10 ∧ w % 10 < B.1 0 0 := by omega
      by_cases k1 : 20 ≤ w
      · rw [n20, if_pos k1, if_neg (show ¬ w < 20 by omega)]
        by_cases k3 : 30 ≤ w
        · obtain ⟨m3, y1, y2⟩ := S_153 (d := d) hIB hVB ht (p := w % 10) (l := 1) hp (by omega)
          obtain ⟨m4, y3, y4⟩ := back (d := d + 5) a1 a2 a3 h32 q4 q2 (k2.tr (y2.mono (fun k hk => Or.inr hk) (fun i hi => hi.elim)))
          rw [n30, if_pos k3, if_neg (show ¬ w < 30 by omega), show J w - 30 = J (w % 10) from (J_sub w 30).trans (by congr 1; omega)]
          exact ⟨m4, by rw [show cB Q0 (d + 6) 153 [.ref 177, .int (J (w % 10)), .int 1] m2 = _ from y1, bI_e, y3, bV_e], y4⟩
        · obtain ⟨m3, y1, y2⟩ := S_153 (d := d) hIB hVB ht (p := w % 10) (l := 0) hp (by omega)
          obtain ⟨m4, y3, y4⟩ := back (d := d + 5) a1 a2 a3 h32 q4 q2 (k2.tr (y2.mono (fun k hk => Or.inr hk) (fun i hi => hi.elim)))
          rw [n30, if_neg k3, if_pos (show w < 30 by omega), show J w - 20 = J (w % 10) from (J_sub w 20).trans (by congr 1; omega)]
          exact ⟨m4, by rw [show cB Q0 (d + 6) 153 [.ref 177, .int (J (w % 10)), .int 0] m2 = _ from y1, bI_e, y3, bV_e], y4⟩
      · obtain ⟨m4, y3, y4⟩ := back (d := d + 5) a1 a2 a3 h32 q4 q2 k2
        have e8 := S_151 (d := d + 5) (p := w % 10) ⟨hp.1, by omega⟩ (hVB.1.2.2.1 _ hp.1 hp.2) (hIB.2.2.1 _ hp.1 hp.2)
        rw [n20, if_neg k1, if_pos (show w < 20 by omega), show J w - 10 = J (w % 10) from (J_sub w 10).trans (by congr 1; omega)]
        exact ⟨m4, by rw [e8, bI_e, y3, bV_e], y4⟩
  · rw [if_neg c1, if_pos c1]
    exact ⟨m, rfl, BK.rf⟩
end
