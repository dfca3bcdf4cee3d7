/-! FEED and THEATRE, asked of the class -/
def feedA (N x : Int) : Int := if 0 ≤ x ∧ x ≤ 127 then (if N < 100 then N + 1 else -4) else -2
def feedT (tx : Int → Int) (N x : Int) : Int → Int := if 0 ≤ x ∧ x ≤ 127 ∧ N < 100 then (fun j => if j = N then x else tx j) else tx
def feedN (N x : Int) : Int := if 0 ≤ x ∧ x ≤ 127 ∧ N < 100 then N + 1 else N
theorem feedT_chr {tx : Int → Int} (hx : chr tx) (N x : Int) : chr (feedT tx N x) := by
  intro j
  have := hx j
  unfold feedT
  split
  · simp only
    split <;> omega
  · exact this
theorem feedN_in {N x : Int} (h : 0 ≤ N ∧ N ≤ 100) : 0 ≤ feedN N x ∧ feedN N x ≤ 100 := by
  unfold feedN
  split <;> omega
section
variable {tx : Int → Int} {N : Int} {d : Nat} {m : SM}
theorem S_58 (hT : TxtC tx N m) (hN : 0 ≤ N ∧ N ≤ 100) {x : Int} (h1 : -2147483648 ≤ x ∧ x ≤ 2147483647) : ∃ m', cB Q0 (d + 2) 58 [.ref 0, .int (J x)] m = some (some (.int (J (feedA N x))), m') ∧ TxtC (feedT tx N x) (feedN N x) m' ∧ Fr (fun k => k = 129 ∨ k = 130) m m' := by
  have e1 := S_85 (m := m) (d := d) h1.1 h1.2 (show -2147483648 ≤ (0 : Int) by omega) (by omega) (show -2147483648 ≤ (127 : Int) by omega) (by omega)
  have n100 : ∀ {α : Type} (u v : α), bT (Q0.1 1 (J N) 100) u v = if N < 100 then u else v := fun u v => q1_J (b := 100) (by omega) (by omega) (by omega) (by omega) u v
  rw [cB_eq]
  show ∃ m', rB Q0 58 (cB Q0 (d + 1)) 0 [some (.ref 0), some (.int (J x))] m = _ ∧ _
  rw [T_58_0, show cB Q0 (d + 1) 85 [.int (J x), .int 0, .int 127] m = _ from e1, bI_e, nz_bi]
  unfold feedA feedT feedN
  by_cases c1 : 0 ≤ x ∧ x ≤ 127
  · rw [if_pos c1, if_pos c1, bX_e, hT.1, n100]
    by_cases c2 : N < 100
    · have hb := byte_at c1.1 c1.2
      have c3 : 0 ≤ x ∧ x ≤ 127 ∧ N < 100 := ⟨c1.1, c1.2, c2⟩
      rw [if_pos c2, if_pos c2, if_pos c3, if_pos c3, bX_e, c1_J (n := 100) hN.1 (by omega) (by omega), J_clamp hN.1 (by omega), hb.2.2.1, hb.2.2.1]
      refine ⟨(up2 (up2 m.1 130 N.toNat (J x)) 129 1 (J (N + 1)), m.2), ?_, ⟨?_, fun j g0 g1 => ?_⟩, (Fr.put (K := fun k => k = 129 ∨ k = 130) (k := 130) (by simp) _ _).tr (Fr.put (K := fun k => k = 129 ∨ k = 130) (k := 129) (by simp) _ _)⟩
      · show some (some (Value.int (up2 (up2 m.1 130 N.toNat (J x)) 129 1 (up2 m.1 130 N.toNat (J x) 129 1 + J 1) 129 1)), (up2 (up2 m.1 130 N.toNat (J x)) 129 1 (up2 m.1 130 N.toNat (J x) 129 1 + J 1), m.2)) = _
        rw [show up2 m.1 130 N.toNat (J x) 129 1 = J N by rw [u2_ne _ _ (by omega)]; exact hT.1, J_add, u2_at, if_pos rfl]
      · show up2 (up2 m.1 130 N.toNat (J x)) 129 1 (J (N + 1)) 129 1 = _
        rw [u2_at, if_pos rfl]
      · show up2 (up2 m.1 130 N.toNat (J x)) 129 1 (J (N + 1)) 130 j.toNat = J (if j = N then x else tx j)
        rw [u2_ne _ _ (by omega), u2_at]
        by_cases e : j = N
        · rw [if_pos (by omega), if_pos e]
        · rw [if_neg (by omega), if_neg e]
          exact hT.2 j g0 (by omega)
    · have c3 : ¬ (0 ≤ x ∧ x ≤ 127 ∧ N < 100) := fun z => c2 z.2.2
      rw [if_neg c2, if_neg c2, if_neg c3, if_neg c3]
      exact ⟨m, rfl, hT, Fr.rf⟩
  · have c3 : ¬ (0 ≤ x ∧ x ≤ 127 ∧ N < 100) := fun z => c1 ⟨z.1, z.2.1⟩
    rw [if_neg c1, if_neg c1, if_neg c3, if_neg c3]
    exact ⟨m, rfl, hT, Fr.rf⟩
theorem S_59f (h : m.1 0 6 = J 6) : cB Q0 (d + 24) 59 [.ref 0] m = some (some (.int (J (-4))), m) := by
  rw [cB_eq]
  show rB Q0 59 (cB Q0 (d + 23)) 0 [some (.ref 0)] m = _
  rw [T_59_0, bX_e, h]
  rfl
def thQ (n : Int) : Nat := 141 + 4 * n.toNat
theorem thq_g {n : Int} (h0 : 0 ≤ n) (h1 : n < 6) : GRt 124 n.toNat = some (thQ n) ∧ isQ (thQ n) ∧ ThF (thQ n) := by
  refine ⟨?_, by unfold isQ thQ; omega, th_F ⟨n.toNat, by omega, rfl⟩⟩
  rcases (show n = 0 ∨ n = 1 ∨ n = 2 ∨ n = 3 ∨ n = 4 ∨ n = 5 by omega) with rfl | rfl | rfl | rfl | rfl | rfl <;> rfl
def frTh (n : Int) : Nat → Prop := fun k => k = 0 ∨ k = 1 ∨ tqK (thQ n) k
theorem S_59 (hx : chr tx) (hN : 0 ≤ N ∧ N ≤ 100) {n : Int} (h0 : 0 ≤ n ∧ n < 6) (h : m.1 0 6 = J n) (hT : TxtC tx N m) (hS : StrA m) : ∃ m', (((goF tx N 10 0 []).2 = none ∧ cB Q0 (d + 24) 59 [.ref 0] m = some (some (.int (J (-10 - (goF tx N 10 0 []).1))), m') ∧ m'.1 0 = m.1 0 ∧ m'.1 1 = m.1 1) ∨ ∃ L, (goF tx N 10 0 []).2 = some L ∧ cB Q0 (d + 24) 59 [.ref 0] m = some (some (.int (J n)), m') ∧ m'.1 0 6 = J (n + 1) ∧ (∀ i, i ≠ 6 → m'.1 0 i = m.1 0 i) ∧ m'.1 1 7 = J n ∧ (∀ i, i ≠ 7 → m'.1 1 i = m.1 1 i) ∧ TheC (thQ n) (rainL 0 L, clsL L) m') ∧ TxtC tx 0 m' ∧ Fr (frTh n) m m' := by
  obtain ⟨g1, g2, g3⟩ := thq_g h0.1 h0.2
  obtain ⟨m1, x, w1, w2, w3⟩ := S_31 (d := d) hx hN g3 g2 hT hS
  have hg := go_prg (tx := tx) (N := N) 10 0 [] hN.1 rfl trivial (by simp [clsL, catC])
  have hq2 := g2
  unfold isQ at hq2
  have n6 : ∀ {α : Type} (u v : α), bT (Q0.1 1 (J n) 6) u v = if n < 6 then u else v := fun u v => q1_J (b := 6) (by omega) (by omega) (by omega) (by omega) u v
  have e : cB Q0 (d + 24) 59 [.ref 0] m = bI (some (some (.int x), m1)) fun x5 m4 => bX (up2 m4.1 129 1 0, m4.2) fun m6 => bT (Q0.1 1 x5 0) (bX (m6.1 0 6) fun z7 => bX (up2 m6.1 1 7 z7, m6.2) fun m8 => bX (m8.1 0 6) fun z9 => bX (up2 m8.1 0 6 (z9 + 1), m8.2) fun m10 => bX (m10.1 1 7) fun z11 => some (some (.int z11), m10)) (some (some (.int ((-10) - x5)), m6)) := by
    rw [cB_eq]
    show rB Q0 59 (cB Q0 (d + 23)) 0 [some (.ref 0)] m = _
    rw [T_59_0, bX_e, h, n6, if_pos h0.2, bX_e, cA_J (n := 6) (by omega) (by omega) h0.1 h0.2 (by omega), J_clamp h0.1 (by omega), g1, bO_e, w1]
  rw [e, bI_e, bX_e]
  have k1 : Fr (tqK (thQ n)) m1 (up2 m1.1 129 1 (J 0), m1.2) := Fr.put (K := tqK (thQ n)) (k := 129) (by unfold tqK; omega) _ _
  have f2 := w2.tr k1
  have hT2 : TxtC tx 0 (up2 m1.1 129 1 (J 0), m1.2) := ⟨by show up2 m1.1 129 1 (J 0) 129 1 = _; rw [u2_at, if_pos rfl], fun j z0 z1 => by omega⟩
  rcases w3 with ⟨e1, e2, e3⟩ | ⟨L, e1, e2, e3⟩
  · have n0 : ∀ {α : Type} (u v : α), bT (Q0.1 1 (J (goF tx N 10 0 []).1) 0) u v = if (goF tx N 10 0 []).1 < 0 then u else v := fun u v => q1_J (b := 0) (by omega) (by omega) (by omega) (by omega) u v
    refine ⟨(up2 m1.1 129 1 (J 0), m1.2), Or.inl ⟨e1, ?_, f2.1 0 (by unfold tqK; omega), f2.1 1 (by unfold tqK; omega)⟩, hT2, f2.mono fun k hk => Or.inr (Or.inr hk)⟩
    have hj : ∀ b : Int, (-10 : Int32) - J b = J (-10 - b) := fun b => by rw [show (10 : Int32) = J 10 from rfl, J_neg, J_sub]
    rw [e2, n0, if_neg (by omega), hj]
    generalize J (-10 - (goF tx N 10 0 []).1) = z
    rfl
  · have y0 : (up2 m1.1 129 1 (J 0)) 0 = m.1 0 := f2.1 0 (by unfold tqK; omega)
    have y1 : (up2 m1.1 129 1 (J 0)) 1 = m.1 1 := f2.1 1 (by unfold tqK; omega)
    have k3 : Fr (frTh n) (up2 m1.1 129 1 (J 0), m1.2) (up2 (up2 (up2 m1.1 129 1 (J 0)) 1 7 (J n)) 0 6 (J (n + 1)), m1.2) := (Fr.put (K := frTh n) (k := 1) (by unfold frTh; omega) _ _).tr (Fr.put (K := frTh n) (k := 0) (by unfold frTh; omega) _ _)
    have kk : ∀ k, k ≠ 0 → k ≠ 1 → k ≠ 129 → up2 (up2 (up2 m1.1 129 1 (J 0)) 1 7 (J n)) 0 6 (J (n + 1)) k = m1.1 k := fun k z0 z1 z2 => by rw [u2_ne _ _ z0, u2_ne _ _ z1, u2_ne _ _ z2]
    refine ⟨(up2 (up2 (up2 m1.1 129 1 (J 0)) 1 7 (J n)) 0 6 (J (n + 1)), m1.2), Or.inr ⟨L, e1, ?_, ?_, fun i hi => ?_, ?_, fun i hi => ?_, ?_⟩, ⟨?_, fun j z0 z1 => by omega⟩, (f2.mono fun k hk => Or.inr (Or.inr hk)).tr k3⟩
    · rw [e2, show ∀ (u v : Rs SM), bT (Q0.1 1 (J (-1)) 0) u v = u from fun _ _ => rfl]
      simp only [bX_e]
      show some (some (Value.int (up2 (up2 (up2 m1.1 129 1 (J 0)) 1 7 (up2 m1.1 129 1 (J 0) 0 6)) 0 6 (up2 (up2 m1.1 129 1 (J 0)) 1 7 (up2 m1.1 129 1 (J 0) 0 6) 0 6 + J 1) 1 7)), (up2 (up2 (up2 m1.1 129 1 (J 0)) 1 7 (up2 m1.1 129 1 (J 0) 0 6)) 0 6 (up2 (up2 m1.1 129 1 (J 0)) 1 7 (up2 m1.1 129 1 (J 0) 0 6) 0 6 + J 1), m1.2)) = _
      rw [u2_ne (j := 1) _ _ (by omega), u2_at, if_pos rfl, u2_ne (j := 0) (k := 1) _ _ (by omega), y0, h, J_add]
    · show up2 (up2 (up2 m1.1 129 1 (J 0)) 1 7 (J n)) 0 6 (J (n + 1)) 0 6 = _
      rw [u2_at, if_pos rfl]
    · show up2 (up2 (up2 m1.1 129 1 (J 0)) 1 7 (J n)) 0 6 (J (n + 1)) 0 i = _
      rw [u2_at, if_neg hi, u2_ne (j := 0) _ _ (by omega), y0]
    · show up2 (up2 (up2 m1.1 129 1 (J 0)) 1 7 (J n)) 0 6 (J (n + 1)) 1 7 = _
      rw [u2_ne _ _ (by omega), u2_at, if_pos rfl]
    · show up2 (up2 (up2 m1.1 129 1 (J 0)) 1 7 (J n)) 0 6 (J (n + 1)) 1 i = _
      rw [u2_ne _ _ (by omega), u2_at, if_neg hi, y1]
    · obtain ⟨b0, b1, b2, b3⟩ := e3
      refine ⟨?_, ?_, ?_, ?_⟩
      · show up2 (up2 (up2 m1.1 129 1 (J 0)) 1 7 (J n)) 0 6 (J (n + 1)) (thQ n) 0 = _
        rw [kk _ (by omega) (by omega) (by omega)]; exact b1
      · show up2 (up2 (up2 m1.1 129 1 (J 0)) 1 7 (J n)) 0 6 (J (n + 1)) (thQ n) 1 = _
        rw [kk _ (by omega) (by omega) (by omega)]; exact b2
      · show up2 (up2 (up2 m1.1 129 1 (J 0)) 1 7 (J n)) 0 6 (J (n + 1)) (thQ n) 2 = _
        rw [kk _ (by omega) (by omega) (by omega), catC_len]; exact b0.2.2.2.1.1
      · exact ClsW.at _ _ _ (b3.fr (kk (thQ n + 1) (by omega) (by omega) (by omega)) (kk (thQ n + 2) (by omega) (by omega) (by omega)) _ _ _) (b0.2.2.2.1.2.2.fr3 (kk (thQ n + 3) (by omega) (by omega) (by omega)) _ _)
    · show up2 (up2 (up2 m1.1 129 1 (J 0)) 1 7 (J n)) 0 6 (J (n + 1)) 129 1 = _
      rw [u2_ne _ _ (by omega), u2_ne _ _ (by omega), u2_at, if_pos rfl]
end
