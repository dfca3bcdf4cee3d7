/-! The reference reads an expression as the class does -/
section
variable {tx : Int → Int} {N : Int} {f a : Int} {W em : List Int} {m : SM} {d : Nat} {c : Int}
theorem L_F (hx : chr tx) (hN : N ≤ 100) (hc : 0 ≤ c ∧ c < 60) : ∀ (r : Nat) (a : Int) (W em : List Int) (m : SM), opn W + r = 4 → YS tx N f a W em m → OutF tx N f d c W em m (pF tx N r a) := by
  intro r
  induction r with
  | zero =>
    intro a W em m ho hY
    show OutF tx N f d c W em m (tstF tx N a)
    by_cases c1 : byt tx N a = 33 ∨ byt tx N a = 40
    · have h := (up1 (d := d) (c := c) hx hN hY rfl c1).1 (by omega)
      have e : tstF tx N a = (a, none) := by
        unfold tstF
        have : plc (byt tx N a) < 0 := by
          rcases c1 with c1 | c1 <;> rw [c1] <;> decide
        rw [if_pos this]
      rw [e]
      exact Or.inl ⟨rfl, m, h, hY.1, FrY.rf⟩
    · rcases up2t (d := d) (c := c) hx hN hY (fun z => c1 (Or.inl z)) (fun z => c1 (Or.inr z)) with ⟨g1, m', g2, g3, g4⟩ | ⟨ts, m', g1, g2, g3, g4⟩
      · exact Or.inl ⟨g1, m', g2, g3, FrY.of g4⟩
      · exact Or.inr ⟨ts, m', g1, g2, g3, FrY.of g4⟩
  | succ r ih =>
    intro a W em m ho hY
    have hop4 : opn W ≠ 4 := by omega
    have ha := hY.1.2.2.1
    have ep : pF tx N (r + 1) a = if byt tx N a = 33 then bnd (pF tx N r (a + 1)) fun a' ts => (a', some (ts ++ [-1])) else if byt tx N a = 40 then bnd (chF tx N (chF tx N (pF tx N r) 38 (-2)) 124 (-3) (a + 1)) (fun a' ts => if byt tx N a' = 41 then (a' + 1, some ts) else (a', none)) else tstF tx N a := rfl
    rw [ep]
    by_cases c1 : byt tx N a = 33
    · obtain ⟨m2, q1, q2, q3⟩ := (up1 (d := d) (c := c) hx hN hY c1 (Or.inl rfl)).2 hop4
      have hop : opn (33 :: W) = 1 + opn W := rfl
      rw [if_pos c1]
      rcases ih (a + 1) (33 :: W) em m2 (by omega) q2 with ⟨z1, m3, z2, z3, z4⟩ | ⟨ts, m3, z1, z2, z3, z4⟩
      · rw [bnd_n z1]
        exact Or.inl ⟨rfl, m3, by rw [q1]; exact z2, z3, (FrY.of q3).tr z4⟩
      · rw [bnd_s z1]
        refine Or.inr ⟨ts ++ [-1], m3, rfl, by rw [q1]; exact z2, ?_, (FrY.of q3).tr z4⟩
        have e : em ++ (ts ++ [-1]) ++ nots W = em ++ ts ++ nots (33 :: W) := by
          show _ = em ++ ts ++ (-1 :: nots W)
          simp only [List.append_assoc, List.singleton_append]
        rw [e]
        exact z3
    · rw [if_neg c1]
      by_cases c2 : byt tx N a = 40
      · obtain ⟨m2, q1, q2, q3⟩ := (up1 (d := d) (c := c) hx hN hY c2 (Or.inr rfl)).2 hop4
        have hop : opn (40 :: W) = 1 + opn W := rfl
        have hT : ∀ (a : Int) (U em : List Int) (m : SM), topT U → opn U = opn (40 :: W) → YS tx N f a U em m → OutT tx N f d c PeT (fun x => x ≠ 38) U em (Y1 d c m) m (chF tx N (pF tx N r) 38 (-2) a) := fun a U em m hU hoU hY => L_Tc hx hN (fun b hb => pF_prg r b hb) hU (fun b W2 em2 m2 h2 hY2 => ih b W2 em2 m2 (by omega) hY2) hY
        have hE := L_Ec (d := d) (c := c) hx hN (fun b hb => ch_prg (tx := tx) (op := -2) (show (0 : Int) ≤ 38 by omega) (fun e he => pF_prg r e he) hb) (V := 40 :: W) (Or.inr ⟨W, rfl⟩) hT q2
        rw [if_pos c2]
        rcases hE with ⟨z1, m3, z2, z3, z4⟩ | ⟨A, p, ts0, m3, z0, z1, z2, z3, z5, z4⟩
        · rw [bnd_n z1]
          exact Or.inl ⟨rfl, m3, by rw [q1]; exact z2, z3, (FrY.of q3).tr z4⟩
        · rw [bnd_s z1]
          generalize (chF tx N (chF tx N (pF tx N r) 38 (-2)) 124 (-3) (a + 1)).1 = b at *
          obtain ⟨e1, e2⟩ := pe_d (V := 40 :: W) (Or.inr ⟨W, rfl⟩) z0
          obtain ⟨m4, y1, y2, y3, y4, y5, y6⟩ := close (d := d) hx hN hc z3 z5.1 z5.2
          rw [e1, e2] at y1 y6
          rw [e1] at y5
          by_cases c3 : byt tx N b = 41
          · obtain ⟨m5, w1, w2, w3⟩ := y6 W rfl c3
            rw [if_pos c3]
            refine Or.inr ⟨ts0 ++ p, m5, rfl, by rw [q1, z2]; exact w1, ?_, ((FrY.of q3).tr z4).tr w3⟩
            have e : em ++ (ts0 ++ p) ++ nots W = em ++ ts0 ++ p ++ nots W := by simp only [List.append_assoc]
            rw [e]
            exact w2
          · rw [if_neg c3]
            exact Or.inl ⟨rfl, m4, by rw [q1, z2]; exact y5 (by simp) c3, y1.1, ((FrY.of q3).tr z4).tr y2⟩
      · rw [if_neg c2]
        rcases up2t (d := d) (c := c) hx hN hY c1 c2 with ⟨g1, m', g2, g3, g4⟩ | ⟨ts, m', g1, g2, g3, g4⟩
        · exact Or.inl ⟨g1, m', g2, g3, FrY.of g4⟩
        · exact Or.inr ⟨ts, m', g1, g2, g3, FrY.of g4⟩
/-- the state between expressions -/
def ES (tx : Int → Int) (N f a : Int) (em : List Int) (m : SM) : Prop := RS tx N a m ∧ (m.1 177 27 = J (100 * f + em.length) ∧ SigAt m (100 * f) em) ∧ ((em.length : Int) ≤ a ∧ 0 ≤ f ∧ f ≤ 5)
def eK : Nat → Prop := fun k => 192 ≤ k ∧ k ≤ 195
def FrE (f c : Int) (m m' : SM) : Prop := FrR eK yI m m' ∧ (∀ k, 192 ≤ k → k ≤ 193 → ∀ i, i ≠ c.toNat → m'.1 k i = m.1 k i) ∧ ∀ i : Nat, (i : Int) < 100 * f → m'.1 194 i = m.1 194 i
theorem FrE.tr {f c : Int} {a b e : SM} (h1 : FrE f c a b) (h2 : FrE f c b e) : FrE f c a e := ⟨h1.1.tr h2.1, fun k h3 h4 i hi => (h2.2.1 k h3 h4 i hi).trans (h1.2.1 k h3 h4 i hi), fun i hi => (h2.2.2 i hi).trans (h1.2.2 i hi)⟩
theorem FrE.of {f c : Int} {m m' : SM} (h : FrY f c m m') : FrE f c m m' := ⟨h.1.mono (fun k hk => by unfold zK at hk; unfold eK; omega) (fun _ z => z), fun k h3 h4 i hi => by
  rcases (show k = 192 ∨ k = 193 by omega) with rfl | rfl
  · rw [h.1.1 192 (by unfold zK; omega) (by omega)]
  · exact h.2.1 i hi, h.2.2⟩
theorem S_138 (hx : chr tx) (hN : N ≤ 100) (hc : 0 ≤ c ∧ c < 60) (hE : ES tx N f a em m) : ((pE tx N 4 a).2 = none ∧ ∃ m', cB Q0 (d + 5) 138 [.ref 177, .int (J c)] m = some (some (.int 0), m') ∧ RS tx N (pE tx N 4 a).1 m' ∧ FrE f c m m') ∨ ∃ ts m', (pE tx N 4 a).2 = some ts ∧ cB Q0 (d + 5) 138 [.ref 177, .int (J c)] m = some (some (.int 1), m') ∧ ES tx N f (pE tx N 4 a).1 (em ++ ts) m' ∧ m'.1 192 c.toNat = J (100 * f + em.length) ∧ m'.1 193 c.toNat = J (100 * f + em.length + ts.length) ∧ FrE f c m m' := by
  obtain ⟨h1, ⟨h2, h3⟩, h4, h5⟩ := hE
  have ha := h1.2.2.1
  generalize hm1 : ((up2 (up2 (up2 m.1 177 28 (J 0)) 177 29 (J 0)) 192 c.toNat (J (100 * f + em.length)), m.2) : SM) = m1
  have k1 : ∀ k, k ≠ 177 → k ≠ 192 → m1.1 k = m.1 k := fun k z1 z2 => by
    rw [← hm1]; show up2 (up2 (up2 m.1 177 28 (J 0)) 177 29 (J 0)) 192 c.toNat (J (100 * f + em.length)) k = _
    rw [u2_ne _ _ z2, u2_ne _ _ z1, u2_ne _ _ z1]
  have i1 : ∀ i, i ≠ 28 → i ≠ 29 → m1.1 177 i = m.1 177 i := fun i z1 z2 => by
    rw [← hm1]; show up2 (up2 (up2 m.1 177 28 (J 0)) 177 29 (J 0)) 192 c.toNat (J (100 * f + em.length)) 177 i = _
    rw [u2_ne _ _ (by omega), u2_at, if_neg z2, u2_at, if_neg z1]
  have f1 : FrE f c m m1 := by
    refine ⟨⟨fun k z z2 => k1 k z2 (by unfold eK at z; omega), fun i z => by unfold yI at z; exact i1 i (by omega) (by omega), by rw [← hm1]⟩, fun k g0 g1 i hi => ?_, fun i _ => by rw [k1 194 (by omega) (by omega)]⟩
    rcases (show k = 192 ∨ k = 193 by omega) with rfl | rfl
    · rw [← hm1]; show up2 (up2 (up2 m.1 177 28 (J 0)) 177 29 (J 0)) 192 c.toNat (J (100 * f + em.length)) 192 i = _
      rw [u2_at, if_neg hi, u2_ne _ _ (by omega), u2_ne _ _ (by omega)]
    · rw [k1 193 (by omega) (by omega)]
  have h192 : m1.1 192 c.toNat = J (100 * f + em.length) := by
    rw [← hm1]; show up2 (up2 (up2 m.1 177 28 (J 0)) 177 29 (J 0)) 192 c.toNat (J (100 * f + em.length)) 192 c.toNat = _
    rw [u2_at, if_pos rfl]
  have hY : YS tx N f a [] em m1 := by
    refine ⟨h1.mv f1.1 ((i1 17 (by omega) (by omega)).trans h1.2.1) ha ⟨by unfold eK; omega, by unfold eK; omega⟩ (by unfold yI; omega), ⟨?_, trivial, trivial⟩, ?_, ⟨(i1 27 (by omega) (by omega)).trans h2, h3.fr4 (k1 194 (by omega) (by omega)) _ _⟩, by simp; omega, h5⟩
    · rw [← hm1]; show up2 (up2 (up2 m.1 177 28 (J 0)) 177 29 (J 0)) 192 c.toNat (J (100 * f + em.length)) 177 28 = _
      rw [u2_ne _ _ (by omega), u2_at, if_neg (by omega), u2_at, if_pos rfl]
      rfl
    · rw [← hm1]; show up2 (up2 (up2 m.1 177 28 (J 0)) 177 29 (J 0)) 192 c.toNat (J (100 * f + em.length)) 177 29 = _
      rw [u2_ne _ _ (by omega), u2_at, if_pos rfl]
      rfl
  have e0 : cB Q0 (d + 5) 138 [.ref 177, .int (J c)] m = Y1 d c m1 := by
    rw [cB_eq]
    show rB Q0 138 (cB Q0 (d + 4)) 0 [some (.ref 177), some (.int (J c))] m = _
    rw [T_138_0, bX_e, bX_e, bX_e]
    show bT (ok1 Q0 0 (.inr (0, 60)) (J c)) (Y1 d c (up2 (up2 (up2 m.1 177 28 (J 0)) 177 29 (J 0)) 192 (J c).toNatClampNeg (up2 (up2 m.1 177 28 (J 0)) 177 29 (J 0) 177 27), m.2)) none = _
    rw [show up2 (up2 m.1 177 28 (J 0)) 177 29 (J 0) 177 27 = J (100 * f + em.length) by rw [u2_at, if_neg (by omega), u2_at, if_neg (by omega)]; exact h2, c1_J (n := 60) hc.1 (by omega) (by omega), J_clamp hc.1 (by omega), hm1]
  have hT : ∀ (a : Int) (U em : List Int) (m : SM), topT U → opn U = opn [] → YS tx N f a U em m → OutT tx N f d c PeT (fun x => x ≠ 38) U em (Y1 d c m) m (chF tx N (pF tx N 4) 38 (-2) a) := fun a U em m hU hoU hY => L_Tc hx hN (fun b hb => pF_prg 4 b hb) hU (fun b W2 em2 m2 h2 hY2 => L_F hx hN hc 4 b W2 em2 m2 (by rw [h2, hoU]; rfl) hY2) hY
  have hE := L_Ec (d := d) (c := c) hx hN (fun b hb => ch_prg (tx := tx) (op := -2) (show (0 : Int) ≤ 38 by omega) (fun e he => pF_prg 4 e he) hb) (V := []) (Or.inl rfl) hT hY
  rw [e0]
  change OutT tx N f d c PeE (fun x => x ≠ 38 ∧ x ≠ 124) [] em (Y1 d c m1) m1 (pE tx N 4 a) at hE
  rcases hE with ⟨z1, m3, z2, z3, z4⟩ | ⟨A, p, ts0, m3, z0, z1, z2, z3, z5, z4⟩
  · exact Or.inl ⟨z1, m3, z2, z3, f1.tr (FrE.of z4)⟩
  · obtain ⟨e1, e2⟩ := pe_d (V := []) (Or.inl rfl) z0
    obtain ⟨m4, y1, y2, y3, y4, y5, y6⟩ := close (d := d) hx hN hc z3 z5.1 z5.2
    rw [e1, e2] at y1
    rw [e2] at y3
    refine Or.inr ⟨ts0 ++ p, m4, z1, by rw [z2]; exact y4 e1, ?_, ?_, ?_, (f1.tr (FrE.of z4)).tr (FrE.of y2)⟩
    · obtain ⟨w1, w2, w3, w4, w5, w6⟩ := y1
      rw [List.append_assoc] at w4 w5
      refine ⟨w1, w4, ?_, w6⟩
      simp only [List.length_nil] at w5
      omega
    · rw [y2.1.1 192 (by unfold zK; omega) (by omega), z4.1.1 192 (by unfold zK; omega) (by omega)]
      exact h192
    · rw [y3]
      congr 1
      simp only [List.length_append]
      omega
end
