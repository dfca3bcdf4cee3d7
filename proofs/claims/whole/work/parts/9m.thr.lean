/-! THEATRE and FEED, asked of the reference -/
def TheN (t : Int) (L : Cla) (m : SM) : Prop := m.1 189 t.toNat = J (L.length : Int) ∧ CluW m t (10 * t) 0 L ∧ SigAt m (100 * t) (catC (clsL L)) ∧ (catC (clsL L)).length ≤ 100 ∧ L.length ≤ 10 ∧ ClaI L
theorem SigAt.pre {m m' : SM} {B : Int} (h : ∀ i : Nat, (i : Int) < B → m'.1 194 i = m.1 194 i) : ∀ (ts : List Int) (a : Int), 0 ≤ a → a + ts.length ≤ B → SigAt m a ts → SigAt m' a ts
  | [], _, _, _, _ => trivial
  | t :: ts, a, h0, h1, g => by
    simp only [List.length_cons] at h1
    exact ⟨by rw [h a.toNat (by omega)]; exact g.1, SigAt.pre h ts (a + 1) (by omega) (by omega) g.2⟩
theorem TheN.keep {t f : Int} {L : Cla} {m m' : SM} (h : TheN t L m) (ht : 0 ≤ t ∧ t < f) (h1 : ∀ i, i ≠ f.toNat → m'.1 189 i = m.1 189 i) (h2 : ∀ k, 190 ≤ k → k ≤ 193 → ∀ i : Nat, (i : Int) < 10 * f → m'.1 k i = m.1 k i) (h3 : ∀ i : Nat, (i : Int) < 100 * f → m'.1 194 i = m.1 194 i) : TheN t L m' := by
  obtain ⟨a, b, c, d, e, g⟩ := h
  refine ⟨by rw [h1 t.toNat (by omega)]; exact a, CluW.fr L _ _ (by omega) (fun k g0 g1 j z0 z1 => h2 k g0 g1 j.toNat (by omega)) b, SigAt.pre h3 _ _ (by omega) (by omega) c, d, e, g⟩
theorem TheN.fr {t : Int} {L : Cla} {m m' : SM} (h : TheN t L m) (h1 : ∀ k, 189 ≤ k → k ≤ 194 → m'.1 k = m.1 k) (ht : 0 ≤ t) : TheN t L m' := by
  obtain ⟨a, b, c, d, e, g⟩ := h
  refine ⟨by rw [h1 189 (by omega) (by omega)]; exact a, CluW.fr L _ _ (by omega) (fun k g0 g1 j z0 z1 => by rw [h1 k (by omega) (by omega)]) b, c.fr4 (h1 194 (by omega) (by omega)) _ _, d, e, g⟩
theorem TheN.stg {t : Int} {L : Cla} {m : SM} (h : TheN t L m) (ht : 0 ≤ t ∧ t ≤ 5) (h15 : m.1 177 15 = J t) : StgN t L m := by
  obtain ⟨a, b, c, d, e, g⟩ := h
  exact ⟨h15, Or.inr ⟨ht, a, e, CluW.at ht L _ 0 (Int.le_refl _) (by omega) b (by rw [Int.add_zero]; exact c)⟩, g⟩
def tmI : Nat → Prop := fun i => (14 ≤ i ∧ i ≤ 18) ∨ (27 ≤ i ∧ i ≤ 29)
section
variable {tx : Int → Int} {N : Int} {m : SM} {d : Nat}
theorem S_142f (h : m.1 177 14 = J 6) : cB Q0 (d + 8) 142 [.ref 177] m = some (some (.int (J (-4))), m) := by
  rw [cB_eq]
  show rB Q0 142 (cB Q0 (d + 7)) 0 [some (.ref 177)] m = _
  rw [T_142_0, bX_e, h]
  rfl
theorem S_142 (hx : chr tx) (hN : 0 ≤ N ∧ N ≤ 100) {n : Int} (h0 : 0 ≤ n ∧ n < 6) (h : m.1 177 14 = J n) (hT : TxtN tx N m) (hL : LetN m) : ∃ m', (((goF tx N 10 0 []).2 = none ∧ cB Q0 (d + 8) 142 [.ref 177] m = some (some (.int (J (-10 - (goF tx N 10 0 []).1))), m') ∧ m'.1 177 14 = m.1 177 14 ∧ m'.1 177 15 = m.1 177 15) ∨ ∃ L, (goF tx N 10 0 []).2 = some L ∧ cB Q0 (d + 8) 142 [.ref 177] m = some (some (.int (J n)), m') ∧ m'.1 177 14 = J (n + 1) ∧ m'.1 177 15 = J n ∧ TheN n L m') ∧ m'.1 177 16 = J 0 ∧ FrR gK tmI m m' ∧ (∀ i, i ≠ n.toNat → m'.1 189 i = m.1 189 i) ∧ (∀ k, 190 ≤ k → k ≤ 193 → ∀ i : Nat, (i : Int) < 10 * n → m'.1 k i = m.1 k i) ∧ ∀ i : Nat, (i : Int) < 100 * n → m'.1 194 i = m.1 194 i := by
  have hg := go_prg (tx := tx) (N := N) 10 0 [] hN.1 rfl trivial (by simp [clsL, catC])
  generalize hm1 : ((up2 (up2 m.1 177 17 (J 0)) 177 27 (J (100 * n)), m.2) : SM) = m1
  have k1 : ∀ k, k ≠ 177 → m1.1 k = m.1 k := fun k z => by
    rw [← hm1]; show up2 (up2 m.1 177 17 (J 0)) 177 27 (J (100 * n)) k = _
    rw [u2_ne _ _ z, u2_ne _ _ z]
  have i1 : ∀ i, i ≠ 17 → i ≠ 27 → m1.1 177 i = m.1 177 i := fun i z z2 => by
    rw [← hm1]; show up2 (up2 m.1 177 17 (J 0)) 177 27 (J (100 * n)) 177 i = _
    rw [u2_at, if_neg z2, u2_at, if_neg z]
  have F1 : FrG n m m1 := ⟨⟨fun k _ z => k1 k z, fun i z => by unfold yI at z; exact i1 i (by omega) (by omega), by rw [← hm1]⟩, fun i _ => by rw [k1 189 (by omega)], fun k z0 z1 i _ => by rw [k1 k (by omega)], fun i _ => by rw [k1 194 (by omega)]⟩
  have h17 : m1.1 177 17 = J 0 := by
    rw [← hm1]; show up2 (up2 m.1 177 17 (J 0)) 177 27 (J (100 * n)) 177 17 = _
    rw [u2_at, if_neg (by omega), u2_at, if_pos rfl]
  have h27 : m1.1 177 27 = J (100 * n) := by
    rw [← hm1]; show up2 (up2 m.1 177 17 (J 0)) 177 27 (J (100 * n)) 177 27 = _
    rw [u2_at, if_pos rfl]
  have hR1 : RS tx N 0 m1 := ⟨⟨by rw [i1 16 (by omega) (by omega)]; exact hT.1, fun j g0 g1 => by rw [k1 188 (by omega)]; exact hT.2 j g0 g1⟩, h17, by omega, fun i g0 g1 => by rw [k1 196 (by omega)]; exact hL i g0 g1⟩
  have hB1 : BN tx N n 0 [] m1 := ⟨⟨hR1, ⟨by rw [h27]; simp [clsL, catC], trivial⟩, by simp [clsL, catC]; omega⟩, trivial⟩
  obtain ⟨m3, x, w1, w2, w3⟩ := L_141 (d := d) hx hN.2 9 0 0 [] m1 (by omega) rfl hB1 (by simp [clsL, catC])
  have e141 : cB Q0 (d + 7) 141 [.ref 177, .int (J n)] m = some (some (.int x), m3) := by
    rw [cB_eq]
    show rB Q0 141 (cB Q0 (d + 6)) 0 [some (.ref 177), some (.int (J n))] m = _
    rw [T_141_0, bX_e, bX_e, show (100 : Int32) * J n = J (100 * n) from J_mul 100 n]
    have e : ((up2 (up2 m.1 177 17 0) 177 27 (J (100 * n)), m.2) : SM) = m1 := hm1
    show rB Q0 141 (cB Q0 (d + 6)) 15 [some (.ref 177), some (.int (J n)), some (.int (J 0))] (up2 (up2 m.1 177 17 0) 177 27 (J (100 * n)), m.2) = _
    rw [e]
    exact w1
  have W := F1.tr w2
  generalize hm5 : ((up2 m3.1 177 16 (J 0), m3.2) : SM) = m5
  have k5 : ∀ k, k ≠ 177 → m5.1 k = m3.1 k := fun k z => by rw [← hm5]; exact u2_ne (f := m3.1) (k := 177) (j := k) _ _ z
  have i5 : ∀ i, i ≠ 16 → m5.1 177 i = m3.1 177 i := fun i z => by rw [← hm5]; show up2 m3.1 177 16 (J 0) 177 i = _; rw [u2_at, if_neg z]
  have g16 : m5.1 177 16 = J 0 := by rw [← hm5]; show up2 m3.1 177 16 (J 0) 177 16 = _; rw [u2_at, if_pos rfl]
  have i35 : ∀ i, i ≠ 16 → ¬ yI i → m5.1 177 i = m.1 177 i := fun i z z2 => by rw [i5 i z, W.1.2.1 i z2]
  have FG : FrR gK tmI m m5 := ⟨fun k z z2 => by rw [k5 k z2, W.1.1 k z z2], fun i z => by unfold tmI at z; exact i35 i (by omega) (by unfold yI; omega), by rw [← hm5]; exact W.1.2.2⟩
  have n6 : ∀ {α : Type} (u v : α), bT (Q0.1 0 (J n) 6) u v = if n = 6 then u else v := fun u v => q0_J (b := 6) (by omega) (by omega) (by omega) (by omega) u v
  have e : cB Q0 (d + 8) 142 [.ref 177] m = bT (Q0.1 0 x 0) (bX (m5.1 177 17) fun z6 => some (some (Value.int ((-10) - z6)), m5)) (bX (m5.1 177 14) fun z7 => bX ((up2 m5.1 177 15 z7, m5.2) : SM) fun m8 => bX (m8.1 177 14) fun z9 => bX ((up2 m8.1 177 14 (z9 + 1), m8.2) : SM) fun m10 => bX (m10.1 177 15) fun z11 => some (some (.int z11), m10)) := by
    rw [cB_eq]
    show rB Q0 142 (cB Q0 (d + 7)) 0 [some (.ref 177)] m = _
    rw [T_142_0, bX_e, h, n6, if_neg (by omega), bX_e, e141, bI_e, show ((up2 m3.1 177 16 0, m3.2) : SM) = m5 from hm5, bX_e]
  rw [e]
  rcases w3 with ⟨e1, e2, e3⟩ | ⟨L, e1, e2, e3, e4⟩
  · refine ⟨m5, Or.inl ⟨e1, ?_, i35 14 (by omega) (by unfold yI; omega), i35 15 (by omega) (by unfold yI; omega)⟩, g16, FG, fun i hi => by rw [k5 189 (by omega)]; exact W.2.1 i hi, fun k z0 z1 i hi => by rw [k5 k (by omega)]; exact W.2.2.1 k z0 z1 i hi, fun i hi => by rw [k5 194 (by omega)]; exact W.2.2.2 i hi⟩
    have hj : ∀ b : Int, (-10 : Int32) - J b = J (-10 - b) := fun b => by rw [show (10 : Int32) = J 10 from rfl, J_neg, J_sub]
    rw [e2, show ∀ (u v : Rs SM), bT (Q0.1 0 (J 0) 0) u v = u from fun _ _ => rfl, bX_e, i5 17 (by omega), e3.2.1, hj]
  · have h14 : m5.1 177 14 = J n := by rw [i35 14 (by omega) (by unfold yI; omega)]; exact h
    generalize hm6 : ((up2 (up2 m5.1 177 15 (J n)) 177 14 (J (n + 1)), m5.2) : SM) = m6
    have k6 : ∀ k, k ≠ 177 → m6.1 k = m5.1 k := fun k z => by
      rw [← hm6]; show up2 (up2 m5.1 177 15 (J n)) 177 14 (J (n + 1)) k = _
      rw [u2_ne _ _ z, u2_ne _ _ z]
    have i6 : ∀ i, i ≠ 14 → i ≠ 15 → m6.1 177 i = m5.1 177 i := fun i z z2 => by
      rw [← hm6]; show up2 (up2 m5.1 177 15 (J n)) 177 14 (J (n + 1)) 177 i = _
      rw [u2_at, if_neg z, u2_at, if_neg z2]
    have g14 : m6.1 177 14 = J (n + 1) := by
      rw [← hm6]; show up2 (up2 m5.1 177 15 (J n)) 177 14 (J (n + 1)) 177 14 = _
      rw [u2_at, if_pos rfl]
    have g15 : m6.1 177 15 = J n := by
      rw [← hm6]; show up2 (up2 m5.1 177 15 (J n)) 177 14 (J (n + 1)) 177 15 = _
      rw [u2_at, if_neg (by omega), u2_at, if_pos rfl]
    obtain ⟨y1, y2, y3⟩ := hg.2.2 L e1
    refine ⟨m6, Or.inr ⟨L, e1, ?_, g14, g15, ?_⟩, by rw [i6 16 (by omega) (by omega)]; exact g16, ⟨fun k z z2 => by rw [k6 k z2]; exact FG.1 k z z2, fun i z => by rw [i6 i (by unfold tmI at z; omega) (by unfold tmI at z; omega)]; exact FG.2.1 i z, by rw [← hm6]; exact FG.2.2⟩, fun i hi => by rw [k6 189 (by omega), k5 189 (by omega)]; exact W.2.1 i hi, fun k z0 z1 i hi => by rw [k6 k (by omega), k5 k (by omega)]; exact W.2.2.1 k z0 z1 i hi, fun i hi => by rw [k6 194 (by omega), k5 194 (by omega)]; exact W.2.2.2 i hi⟩
    · rw [e2, show ∀ (u v : Rs SM), bT (Q0.1 0 (J 1) 0) u v = v from fun _ _ => rfl, bX_e, h14, bX_e, bX_e, bX_e, bX_e]
      show some (some (Value.int (up2 (up2 m5.1 177 15 (J n)) 177 14 (up2 m5.1 177 15 (J n) 177 14 + 1) 177 15)), (up2 (up2 m5.1 177 15 (J n)) 177 14 (up2 m5.1 177 15 (J n) 177 14 + 1), m5.2)) = _
      have y : up2 m5.1 177 15 (J n) 177 14 = J n := by rw [u2_at, if_neg (by omega)]; exact h14
      rw [y, show J n + 1 = J (n + 1) from J_add n 1, u2_at, if_neg (show ¬ (15 : Nat) = 14 by omega), u2_at, if_pos rfl, hm6]
    · have kk : ∀ k, 189 ≤ k → k ≤ 194 → m6.1 k = m3.1 k := fun k z0 z1 => by rw [k6 k (by omega), k5 k (by omega)]
      refine ⟨by rw [kk 189 (by omega) (by omega)]; exact e4, CluW.fr L _ _ (by omega) (fun k z0 z1 j _ _ => by rw [kk k (by omega) (by omega)]) e3.2, e3.1.2.1.2.fr4 (kk 194 (by omega) (by omega)) _ _, by omega, y2, y1⟩
theorem S_127 (hT : TxtN tx N m) (hN : 0 ≤ N ∧ N ≤ 100) {x : Int} (h1 : -2147483648 ≤ x ∧ x ≤ 2147483647) : ∃ m', cB Q0 (d + 2) 127 [.ref 177, .int (J x)] m = some (some (.int (J (feedA N x))), m') ∧ TxtN (feedT tx N x) (feedN N x) m' ∧ FrR (fun k => k = 188) (fun i => i = 16) m m' := by
  have e1 := S_109 (m := m) (d := d) h1.1 h1.2 (show -2147483648 ≤ (0 : Int) by omega) (by omega) (show -2147483648 ≤ (127 : Int) by omega) (by omega)
  have n100 : ∀ {α : Type} (u v : α), bT (Q0.1 0 (J N) 100) u v = if N = 100 then u else v := fun u v => q0_J (b := 100) (by omega) (by omega) (by omega) (by omega) u v
  rw [cB_eq]
  show ∃ m', rB Q0 127 (cB Q0 (d + 1)) 0 [some (.ref 177), some (.int (J x))] m = _ ∧ _
  rw [T_127_0, show cB Q0 (d + 1) 109 [.ref 177, .int (J x), .int 0, .int 127] m = _ from e1, bI_e, nz_bi]
  unfold feedA feedT feedN
  by_cases c1 : 0 ≤ x ∧ x ≤ 127
  · rw [if_pos c1, if_pos c1, bX_e, hT.1, n100]
    by_cases c2 : N < 100
    · have c3 : 0 ≤ x ∧ x ≤ 127 ∧ N < 100 := ⟨c1.1, c1.2, c2⟩
      rw [if_neg (by omega), if_pos c2, if_pos c3, if_pos c3, bX_e, c1_J (n := 100) hN.1 (by omega) (by omega), J_clamp hN.1 (by omega)]
      refine ⟨(up2 (up2 m.1 188 N.toNat (J x)) 177 16 (J (N + 1)), m.2), ?_, ⟨?_, fun j g0 g1 => ?_⟩, (FrR.put (K := fun k => k = 188) (KI := fun i => i = 16) (k := 188) rfl (by omega) _ _).tr (FrR.put7 (KI := fun i => i = 16) (i := 16) rfl _)⟩
      · show some (some (Value.int (up2 (up2 m.1 188 N.toNat (J x)) 177 16 (up2 m.1 188 N.toNat (J x) 177 16 + J 1) 177 16)), (up2 (up2 m.1 188 N.toNat (J x)) 177 16 (up2 m.1 188 N.toNat (J x) 177 16 + J 1), m.2)) = _
        rw [show up2 m.1 188 N.toNat (J x) 177 16 = J N by rw [u2_ne _ _ (by omega)]; exact hT.1, J_add, u2_at, if_pos rfl]
      · show up2 (up2 m.1 188 N.toNat (J x)) 177 16 (J (N + 1)) 177 16 = _
        rw [u2_at, if_pos rfl]
      · show up2 (up2 m.1 188 N.toNat (J x)) 177 16 (J (N + 1)) 188 j.toNat = J (if j = N then x else tx j)
        rw [u2_ne _ _ (by omega), u2_at]
        by_cases e : j = N
        · rw [if_pos (by omega), if_pos e]
        · rw [if_neg (by omega), if_neg e]
          exact hT.2 j g0 (by omega)
    · have c3 : ¬ (0 ≤ x ∧ x ≤ 127 ∧ N < 100) := fun z => c2 z.2.2
      rw [if_pos (by omega), if_neg c2, if_neg c3, if_neg c3]
      exact ⟨m, rfl, hT, FrR.rf⟩
  · have c3 : ¬ (0 ≤ x ∧ x ≤ 127 ∧ N < 100) := fun z => c1 ⟨z.1, z.2.1⟩
    rw [if_neg c1, if_neg c1, if_neg c3, if_neg c3]
    exact ⟨m, rfl, hT, FrR.rf⟩
end
