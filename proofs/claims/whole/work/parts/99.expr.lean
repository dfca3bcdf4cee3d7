/-! EXPRESSIONS read by the class -/
section
variable {tx : Int → Int} {N : Int} {q : Nat} {d D : Nat}
theorem After.len {a : Int} {st : List Int} {m m' : SM} {r : Rp} (h : After tx N q st m r m') {ts : List Int} (e : r.2 = some ts) : PS tx N q r.1 (st ++ ts) m' := by
  obtain ⟨⟨st', h1, h2⟩, -⟩ := h
  rw [← h2 ts e]
  exact h1
theorem rd01 (r : Rp) : (∃ ts, r.2 = some ts ∧ rdOk r = 1) ∨ (r.2 = none ∧ rdOk r = 0) := by
  unfold rdOk
  generalize r.2 = o
  cases o with
  | none => exact Or.inr ⟨rfl, rfl⟩
  | some ts => exact Or.inl ⟨ts, rfl, rfl⟩
theorem bnd_s {r : Rp} {ts : List Int} {k : Int → List Int → Rp} (h : r.2 = some ts) : bnd r k = k r.1 ts := by unfold bnd; rw [h]
theorem bnd_n {r : Rp} {k : Int → List Int → Rp} (h : r.2 = none) : bnd r k = (r.1, none) := by unfold bnd; rw [h]
/-- the loop of a T -/
theorem L_39 (hx : chr tx) (hN : N ≤ 100) (hF : ThF q) (hq : isQ q) {one : Int → Rp} {dep : Int} (ho : ∀ a, a ≤ N → Prg N a (one a)) (H : ∀ (a : Int) (st : List Int) (m : SM), PS tx N q a st m → st.length ≤ a → ∃ m', cB Q0 (D + 1) 40 [.ref 129, .ref q, .int (J dep)] m = some (some (.int (J (rdOk (one a)))), m') ∧ After tx N q st m (one a) m') : ∀ (k : Nat) (i a : Int) (st acc : List Int) (m : SM), 0 ≤ i → i + k = 100 → PS tx N q a (st ++ acc) m → (st ++ acc).length ≤ a → ∃ m', rB Q0 39 (cB Q0 (D + 1)) 10 [some (.ref 129), some (.ref q), some (.int (J dep)), some (.int (J 1)), some (.int (J i))] m = some (some (.int (J (rdOk (lpF tx N one 38 (-2) k a acc)))), m') ∧ After tx N q st m (lpF tx N one 38 (-2) k a acc) m' := by
  intro k
  induction k with
  | zero =>
    intro i a st acc m h0 h1 hP hl
    obtain rfl : i = 100 := by omega
    refine ⟨m, ?_, ⟨st ++ acc, hP, fun ts e => by rw [Option.some.inj e]⟩, FrS.rf⟩
    rw [T_39_10]
    rfl
  | succ k ih =>
    intro i a st acc m h0 h1 hP hl
    have n100 : ∀ {α : Type} (x y : α), bT (Q0.1 2 100 (J i)) x y = if 100 ≤ i then x else y := fun x y => q2_J (a := 100) (by omega) (by omega) (by omega) (by omega) x y
    have e32 := S_32 (d := D) hx hN hP.1 hP.2.1 hP.2.2.1 (c := 38) (by omega)
    have el : lpF tx N one 38 (-2) (k + 1) a acc = if byt tx N a = 38 then bnd (one (a + 1)) fun a' ts => lpF tx N one 38 (-2) k a' (acc ++ ts ++ [-2]) else (a, some acc) := rfl
    rw [T_39_10, n100, if_neg (by omega), show ∀ (x y : Rs SM), bT (Q0.1 0 (J 1) 0) x y = y from fun _ _ => rfl, show cB Q0 (D + 1) 32 [.ref 129, .int 38] m = _ from e32, bI_e, nz_bi, el]
    by_cases c : byt tx N a = 38
    · have hb : a < N := byt_lt c (by omega)
      have hP1 := hP.put hq (b := a + 1) (by omega)
      have g := ho (a + 1) (by omega)
      obtain ⟨m2, w1, w2⟩ := H (a + 1) (st ++ acc) (putP m (a + 1)) hP1 (by omega)
      rw [if_pos c, if_pos c, if_pos c, w1, bI_e, hF.1, cO_J]
      rcases rd01 (one (a + 1)) with ⟨ts, e1, e2⟩ | ⟨e1, e2⟩
      · have hP2 := w2.len (a := a + 1) e1
        obtain ⟨g1, g2, g3⟩ := g
        obtain ⟨g4, g5⟩ := g3 ts e1
        simp only [List.length_append] at hl
        obtain ⟨m3, r1, r2, r3⟩ := S_44 (d := D) hF hq hP2 (t := -2)
        rw [if_pos (by simp only [List.length_append]; omega), List.append_assoc, List.append_assoc, ← List.append_assoc acc ts] at r2
        obtain ⟨m4, z1, z2⟩ := ih (i + 1) (one (a + 1)).1 st (acc ++ ts ++ [-2]) m3 (by omega) (by omega) r2 (by simp only [List.length_append, List.length_singleton]; omega)
        rw [show cB Q0 (D + 1) 44 [.ref q, .int (-2)] m2 = _ from r1, bV_e, e2, show J i + 1 = J (i + 1) from J_add i 1, bnd_s e1]
        exact ⟨m4, z1, z2.1, (((FrS.put hq).tr w2.2).tr r3).tr z2.2⟩
      · obtain ⟨⟨st2, hP2, -⟩, k2⟩ := w2
        obtain ⟨m3, r1, r2, r3⟩ := S_44 (d := D) hF hq hP2 (t := -2)
        rw [show cB Q0 (D + 1) 44 [.ref q, .int (-2)] m2 = _ from r1, bV_e, e2, bnd_n e1]
        refine ⟨m3, ?_, ⟨_, r2, fun ts e => by simp at e⟩, ((FrS.put hq).tr k2).tr r3⟩
        rw [T_39_10, show ∀ (x y : Rs SM), bT (Q0.1 0 (J 0) 0) x y = x from fun _ _ => rfl]
        cases Q0.1 2 100 (J i + 1) <;> rfl
    · rw [if_neg c, if_neg c, if_neg c, putP_self hP.2.1]
      exact ⟨m, rfl, ⟨st ++ acc, hP, fun ts e => by rw [Option.some.inj e]⟩, FrS.rf⟩
theorem S_39 (hx : chr tx) (hN : N ≤ 100) (hF : ThF q) (hq : isQ q) {one : Int → Rp} {dep : Int} (ho : ∀ a, a ≤ N → Prg N a (one a)) (H : ∀ (a : Int) (st : List Int) (m : SM), PS tx N q a st m → st.length ≤ a → ∃ m', cB Q0 (D + 1) 40 [.ref 129, .ref q, .int (J dep)] m = some (some (.int (J (rdOk (one a)))), m') ∧ After tx N q st m (one a) m') (a : Int) (st : List Int) (m : SM) (hP : PS tx N q a st m) (hl : st.length ≤ a) : ∃ m', cB Q0 (D + 2) 39 [.ref 129, .ref q, .int (J dep)] m = some (some (.int (J (rdOk (chF tx N one 38 (-2) a)))), m') ∧ After tx N q st m (chF tx N one 38 (-2) a) m' := by
  obtain ⟨m1, w1, w2⟩ := H a st m hP hl
  have g := ho a hP.2.2.1.2
  rw [cB_eq]
  show ∃ m', rB Q0 39 (cB Q0 (D + 1)) 0 [some (.ref 129), some (.ref q), some (.int (J dep))] m = _ ∧ _
  rw [T_39_0, w1, bI_e]
  unfold chF
  rcases rd01 (one a) with ⟨ts, e1, e2⟩ | ⟨e1, e2⟩
  · obtain ⟨g1, g2, g3⟩ := g
    obtain ⟨g4, g5⟩ := g3 ts e1
    obtain ⟨m4, z1, z2⟩ := L_39 hx hN hF hq ho H 100 0 (one a).1 st ts m1 (by omega) (by omega) (w2.len (a := a) e1) (by simp only [List.length_append]; omega)
    rw [e2, bnd_s e1]
    exact ⟨m4, z1, z2.1, w2.2.tr z2.2⟩
  · rw [e2, bnd_n e1]
    obtain ⟨⟨st2, hP2, -⟩, k2⟩ := w2
    refine ⟨m1, ?_, ⟨st2, hP2, fun ts e => by simp at e⟩, k2⟩
    rw [T_39_10]
    rfl
/-- the loop of an E -/
theorem L_38 (hx : chr tx) (hN : N ≤ 100) (hF : ThF q) (hq : isQ q) {one : Int → Rp} {dep : Int} (ho : ∀ a, a ≤ N → Prg N a (one a)) (H : ∀ (a : Int) (st : List Int) (m : SM), PS tx N q a st m → st.length ≤ a → ∃ m', cB Q0 (D + 1) 39 [.ref 129, .ref q, .int (J dep)] m = some (some (.int (J (rdOk (one a)))), m') ∧ After tx N q st m (one a) m') : ∀ (k : Nat) (i a : Int) (st acc : List Int) (m : SM), 0 ≤ i → i + k = 100 → PS tx N q a (st ++ acc) m → (st ++ acc).length ≤ a → ∃ m', rB Q0 38 (cB Q0 (D + 1)) 10 [some (.ref 129), some (.ref q), some (.int (J dep)), some (.int (J 1)), some (.int (J i))] m = some (some (.int (J (rdOk (lpF tx N one 124 (-3) k a acc)))), m') ∧ After tx N q st m (lpF tx N one 124 (-3) k a acc) m' := by
  intro k
  induction k with
  | zero =>
    intro i a st acc m h0 h1 hP hl
    obtain rfl : i = 100 := by omega
    refine ⟨m, ?_, ⟨st ++ acc, hP, fun ts e => by rw [Option.some.inj e]⟩, FrS.rf⟩
    rw [T_38_10]
    rfl
  | succ k ih =>
    intro i a st acc m h0 h1 hP hl
    have n100 : ∀ {α : Type} (x y : α), bT (Q0.1 2 100 (J i)) x y = if 100 ≤ i then x else y := fun x y => q2_J (a := 100) (by omega) (by omega) (by omega) (by omega) x y
    have e32 := S_32 (d := D) hx hN hP.1 hP.2.1 hP.2.2.1 (c := 124) (by omega)
    have el : lpF tx N one 124 (-3) (k + 1) a acc = if byt tx N a = 124 then bnd (one (a + 1)) fun a' ts => lpF tx N one 124 (-3) k a' (acc ++ ts ++ [-3]) else (a, some acc) := rfl
    rw [T_38_10, n100, if_neg (by omega), show ∀ (x y : Rs SM), bT (Q0.1 0 (J 1) 0) x y = y from fun _ _ => rfl, show cB Q0 (D + 1) 32 [.ref 129, .int 124] m = _ from e32, bI_e, nz_bi, el]
    by_cases c : byt tx N a = 124
    · have hb : a < N := byt_lt c (by omega)
      have hP1 := hP.put hq (b := a + 1) (by omega)
      have g := ho (a + 1) (by omega)
      obtain ⟨m2, w1, w2⟩ := H (a + 1) (st ++ acc) (putP m (a + 1)) hP1 (by omega)
      rw [if_pos c, if_pos c, if_pos c, w1, bI_e, hF.1, cO_J]
      rcases rd01 (one (a + 1)) with ⟨ts, e1, e2⟩ | ⟨e1, e2⟩
      · have hP2 := w2.len (a := a + 1) e1
        obtain ⟨g1, g2, g3⟩ := g
        obtain ⟨g4, g5⟩ := g3 ts e1
        simp only [List.length_append] at hl
        obtain ⟨m3, r1, r2, r3⟩ := S_44 (d := D) hF hq hP2 (t := -3)
        rw [if_pos (by simp only [List.length_append]; omega), List.append_assoc, List.append_assoc, ← List.append_assoc acc ts] at r2
        obtain ⟨m4, z1, z2⟩ := ih (i + 1) (one (a + 1)).1 st (acc ++ ts ++ [-3]) m3 (by omega) (by omega) r2 (by simp only [List.length_append, List.length_singleton]; omega)
        rw [show cB Q0 (D + 1) 44 [.ref q, .int (-3)] m2 = _ from r1, bV_e, e2, show J i + 1 = J (i + 1) from J_add i 1, bnd_s e1]
        exact ⟨m4, z1, z2.1, (((FrS.put hq).tr w2.2).tr r3).tr z2.2⟩
      · obtain ⟨⟨st2, hP2, -⟩, k2⟩ := w2
        obtain ⟨m3, r1, r2, r3⟩ := S_44 (d := D) hF hq hP2 (t := -3)
        rw [show cB Q0 (D + 1) 44 [.ref q, .int (-3)] m2 = _ from r1, bV_e, e2, bnd_n e1]
        refine ⟨m3, ?_, ⟨_, r2, fun ts e => by simp at e⟩, ((FrS.put hq).tr k2).tr r3⟩
        rw [T_38_10, show ∀ (x y : Rs SM), bT (Q0.1 0 (J 0) 0) x y = x from fun _ _ => rfl]
        cases Q0.1 2 100 (J i + 1) <;> rfl
    · rw [if_neg c, if_neg c, if_neg c, putP_self hP.2.1]
      exact ⟨m, rfl, ⟨st ++ acc, hP, fun ts e => by rw [Option.some.inj e]⟩, FrS.rf⟩
theorem S_38 (hx : chr tx) (hN : N ≤ 100) (hF : ThF q) (hq : isQ q) {one : Int → Rp} {dep : Int} (ho : ∀ a, a ≤ N → Prg N a (one a)) (H : ∀ (a : Int) (st : List Int) (m : SM), PS tx N q a st m → st.length ≤ a → ∃ m', cB Q0 (D + 1) 39 [.ref 129, .ref q, .int (J dep)] m = some (some (.int (J (rdOk (one a)))), m') ∧ After tx N q st m (one a) m') (a : Int) (st : List Int) (m : SM) (hP : PS tx N q a st m) (hl : st.length ≤ a) : ∃ m', cB Q0 (D + 2) 38 [.ref 129, .ref q, .int (J dep)] m = some (some (.int (J (rdOk (chF tx N one 124 (-3) a)))), m') ∧ After tx N q st m (chF tx N one 124 (-3) a) m' := by
  obtain ⟨m1, w1, w2⟩ := H a st m hP hl
  have g := ho a hP.2.2.1.2
  rw [cB_eq]
  show ∃ m', rB Q0 38 (cB Q0 (D + 1)) 0 [some (.ref 129), some (.ref q), some (.int (J dep))] m = _ ∧ _
  rw [T_38_0, w1, bI_e]
  unfold chF
  rcases rd01 (one a) with ⟨ts, e1, e2⟩ | ⟨e1, e2⟩
  · obtain ⟨g1, g2, g3⟩ := g
    obtain ⟨g4, g5⟩ := g3 ts e1
    obtain ⟨m4, z1, z2⟩ := L_38 hx hN hF hq ho H 100 0 (one a).1 st ts m1 (by omega) (by omega) (w2.len (a := a) e1) (by simp only [List.length_append]; omega)
    rw [e2, bnd_s e1]
    exact ⟨m4, z1, z2.1, w2.2.tr z2.2⟩
  · rw [e2, bnd_n e1]
    obtain ⟨⟨st2, hP2, -⟩, k2⟩ := w2
    refine ⟨m1, ?_, ⟨st2, hP2, fun ts e => by simp at e⟩, k2⟩
    rw [T_38_10]
    rfl

/-- F, E of the class, within so many ( and ! -/
theorem S_40 (hx : chr tx) (hN : N ≤ 100) (hF : ThF q) (hq : isQ q) : ∀ (r d : Nat) (a : Int) (st : List Int) (m : SM), r ≤ 4 → PS tx N q a st m → st.length ≤ a → ∃ m', cB Q0 (d + 6 + 3 * r + 1) 40 [.ref 129, .ref q, .int (J (4 - (r : Int)))] m = some (some (.int (J (rdOk (pF tx N r a)))), m') ∧ After tx N q st m (pF tx N r a) m' := by
  intro r
  induction r with
  | zero =>
    intro d a st m hr hP hl
    obtain ⟨m1, w1, w2⟩ := S_T (d := d + 1) hx hN hF hq hP hl
    refine ⟨m1, ?_, w2⟩
    rw [cB_eq]
    show rB Q0 40 (cB Q0 (d + 6)) 0 [some (.ref 129), some (.ref q), some (.int (J 4))] m = _
    rw [T40, show ∀ (x y : Rs SM), bT (Q0.1 2 4 (J 4)) x y = x from fun _ _ => rfl, show ∀ (x y : Rs SM), bT (Q0.1 2 4 (J 4)) x y = x from fun _ _ => rfl]
    exact w1
  | succ r ih =>
    intro d a st m hr hP hl
    have n4 : ∀ {α : Type} (x y : α), bT (Q0.1 2 4 (J (4 - ((r + 1 : Nat) : Int)))) x y = if 4 ≤ 4 - ((r + 1 : Nat) : Int) then x else y := fun x y => q2_J (a := 4) (by omega) (by omega) (by omega) (by omega) x y
    have e32 := S_32 (d := d + 6 + 3 * r + 2) hx hN hP.1 hP.2.1 hP.2.2.1 (c := 33) (by omega)
    have e40 := S_32 (d := d + 6 + 3 * r + 2) hx hN hP.1 hP.2.1 hP.2.2.1 (c := 40) (by omega)
    have hd1 : J (4 - ((r + 1 : Nat) : Int)) + 1 = J (4 - (r : Int)) := by
      rw [show (1 : Int32) = J 1 from rfl, J_add, show 4 - ((r + 1 : Nat) : Int) + 1 = 4 - (r : Int) by omega]
    have hD : d + 6 + 3 * (r + 1) + 1 = (d + 6 + 3 * r + 3) + 1 := by omega
    rw [hD, cB_eq]
    show ∃ m', rB Q0 40 (cB Q0 (d + 6 + 3 * r + 3)) 0 [some (.ref 129), some (.ref q), some (.int (J (4 - ((r + 1 : Nat) : Int))))] m = _ ∧ _
    rw [T40, n4, if_neg (by omega), show cB Q0 (d + 6 + 3 * r + 3) 32 [.ref 129, .int 33] m = _ from e32, bI_e, nz_bi]
    have ep : pF tx N (r + 1) a = if byt tx N a = 33 then bnd (pF tx N r (a + 1)) fun a' ts => (a', some (ts ++ [-1])) else if byt tx N a = 40 then bnd (chF tx N (chF tx N (pF tx N r) 38 (-2)) 124 (-3) (a + 1)) (fun a' ts => if byt tx N a' = 41 then (a' + 1, some ts) else (a', none)) else tstF tx N a := rfl
    rw [ep]
    by_cases c1 : byt tx N a = 33
    · have hb : a < N := byt_lt c1 (by omega)
      have hP1 := hP.put hq (b := a + 1) (by omega)
      have g : Prg N (a + 1) (pF tx N r (a + 1)) := pF_prg r (a + 1) (by omega)
      obtain ⟨m2, w1, w2⟩ := ih (d + 2) (a + 1) st (putP m (a + 1)) (by omega) hP1 (by omega)
      rw [show d + 2 + 6 + 3 * r + 1 = d + 6 + 3 * r + 3 by omega] at w1
      rw [if_pos c1, if_pos c1, if_pos c1, hd1, w1, bI_e, hF.1, cO_J]
      rcases rd01 (pF tx N r (a + 1)) with ⟨ts, e1, e2⟩ | ⟨e1, e2⟩
      · have hP2 := w2.len (a := a + 1) e1
        obtain ⟨g1, g2, g3⟩ := g
        obtain ⟨g4, g5⟩ := g3 ts e1
        obtain ⟨m3, r1, r2, r3⟩ := S_44 (d := d + 6 + 3 * r + 2) hF hq hP2 (t := -1)
        rw [if_pos (by simp only [List.length_append]; omega), List.append_assoc] at r2
        rw [show cB Q0 (d + 6 + 3 * r + 3) 44 [.ref q, .int (-1)] m2 = _ from r1, bV_e, e2, bnd_s e1]
        exact ⟨m3, rfl, ⟨_, r2, fun us e => by rw [← Option.some.inj e]⟩, ((FrS.put hq).tr w2.2).tr r3⟩
      · obtain ⟨⟨st2, hP2, -⟩, k2⟩ := w2
        obtain ⟨m3, r1, r2, r3⟩ := S_44 (d := d + 6 + 3 * r + 2) hF hq hP2 (t := -1)
        rw [show cB Q0 (d + 6 + 3 * r + 3) 44 [.ref q, .int (-1)] m2 = _ from r1, bV_e, e2, bnd_n e1]
        exact ⟨m3, rfl, ⟨_, r2, fun ts e => by simp at e⟩, ((FrS.put hq).tr k2).tr r3⟩
    · rw [if_neg c1, if_neg c1, if_neg c1, putP_self hP.2.1, n4, if_neg (by omega), show cB Q0 (d + 6 + 3 * r + 3) 32 [.ref 129, .int 40] m = _ from e40, bI_e, nz_bi]
      by_cases c2 : byt tx N a = 40
      · have hb : a < N := byt_lt c2 (by omega)
        have hP1 := hP.put hq (b := a + 1) (by omega)
        have ho : ∀ b, b ≤ N → Prg N b (pF tx N r b) := fun b h => pF_prg r b h
        have ho2 : ∀ b, b ≤ N → Prg N b (chF tx N (pF tx N r) 38 (-2) b) := fun b h => ch_prg (by omega) ho h
        have H1 := S_39 (D := d + 6 + 3 * r) (dep := 4 - (r : Int)) hx hN hF hq ho (fun b st m h1 h2 => ih d b st m (by omega) h1 h2)
        have H2 := S_38 (D := d + 6 + 3 * r + 1) (dep := 4 - (r : Int)) hx hN hF hq ho2 H1
        obtain ⟨m2, w1, w2⟩ := H2 (a + 1) st (putP m (a + 1)) hP1 (by omega)
        rw [if_pos c2, if_pos c2, if_pos c2, hd1, show cB Q0 (d + 6 + 3 * r + 3) 38 [.ref 129, .ref q, .int (J (4 - (r : Int)))] (putP m (a + 1)) = _ from w1, bI_e]
        rcases rd01 (chF tx N (chF tx N (pF tx N r) 38 (-2)) 124 (-3) (a + 1)) with ⟨ts, e1, e2⟩ | ⟨e1, e2⟩
        · have hP2 := w2.len (a := a + 1) e1
          have e41 := S_32 (d := d + 6 + 3 * r + 2) hx hN hP2.1 hP2.2.1 hP2.2.2.1 (c := 41) (by omega)
          rw [e2, show ∀ (x y : Rs SM), bT (Q0.1 0 (J 1) 0) x y = y from fun _ _ => rfl, show cB Q0 (d + 6 + 3 * r + 3) 32 [.ref 129, .int 41] m2 = _ from e41, bI_e, nz_bi, bnd_s e1]
          have hle := hP2.2.2.1
          generalize (chF tx N (chF tx N (pF tx N r) 38 (-2)) 124 (-3) (a + 1)).1 = b at *
          by_cases c3 : byt tx N b = 41
          · have hb2 : b < N := byt_lt c3 (by omega)
            have hP3 := hP2.put hq (b := b + 1) (by omega)
            rw [if_pos c3, if_pos c3, if_pos c3]
            exact ⟨_, rfl, ⟨_, hP3, fun us e => by rw [← Option.some.inj e]⟩, ((FrS.put hq).tr w2.2).tr (FrS.put hq)⟩
          · rw [if_neg c3, if_neg c3, if_neg c3, putP_self hP2.2.1]
            exact ⟨m2, rfl, ⟨_, hP2, fun us e => by simp at e⟩, (FrS.put hq).tr w2.2⟩
        · obtain ⟨⟨st2, hP2, -⟩, k2⟩ := w2
          rw [e2, bnd_n e1]
          exact ⟨m2, rfl, ⟨st2, hP2, fun ts e => by simp at e⟩, (FrS.put hq).tr k2⟩
      · obtain ⟨m1, w1, w2⟩ := S_T (d := d + 3 * r + 4) hx hN hF hq hP hl
        rw [show d + 3 * r + 4 + 5 = d + 6 + 3 * r + 3 by omega] at w1
        rw [if_neg c2, if_neg c2, if_neg c2, putP_self hP.2.1]
        exact ⟨m1, w1, w2⟩
theorem S_38E (hx : chr tx) (hN : N ≤ 100) (hF : ThF q) (hq : isQ q) {a : Int} {st : List Int} {m : SM} (hP : PS tx N q a st m) (hl : st.length ≤ a) : ∃ m', cB Q0 (d + 21) 38 [.ref 129, .ref q, .int (J 0)] m = some (some (.int (J (rdOk (pE tx N 4 a)))), m') ∧ After tx N q st m (pE tx N 4 a) m' := by
  have ho : ∀ b, b ≤ N → Prg N b (pF tx N 4 b) := fun b h => pF_prg 4 b h
  have ho2 : ∀ b, b ≤ N → Prg N b (chF tx N (pF tx N 4) 38 (-2) b) := fun b h => ch_prg (by omega) ho h
  have H1 := S_39 (D := d + 18) (dep := 0) hx hN hF hq ho (fun b st m h1 h2 => S_40 hx hN hF hq 4 d b st m (by omega) h1 h2)
  exact S_38 (D := d + 19) (dep := 0) hx hN hF hq ho2 H1 a st m hP hl
end
