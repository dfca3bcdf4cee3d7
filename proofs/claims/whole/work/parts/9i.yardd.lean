/-! The reference's loop over an expression: where it comes to -/
section
variable {tx : Int → Int} {N : Int} {f a : Int} {W em : List Int} {m : SM} {d : Nat} {c : Int}
/-- behind an operand, where neither & nor | is next: what is settled, and the end noted -/
theorem close (hx : chr tx) (hN : N ≤ 100) (hc : 0 ≤ c ∧ c < 60) (hY : YS tx N f a W em m) (h38 : byt tx N a ≠ 38) (h124 : byt tx N a ≠ 124) : ∃ m', YS tx N f a (setW 124 W) (em ++ setE 124 W) m' ∧ FrY f c m m' ∧ m'.1 193 c.toNat = J (100 * f + ((em ++ setE 124 W).length : Nat)) ∧ (setW 124 W = [] → Y0 d c m = some (some (.int 1), m')) ∧ (setW 124 W ≠ [] → byt tx N a ≠ 41 → Y0 d c m = some (some (.int 0), m')) ∧ (∀ V, setW 124 W = 40 :: V → byt tx N a = 41 → ∃ m2, Y0 d c m = Y0 d c m2 ∧ YS tx N f (a + 1) (dropB V) (em ++ setE 124 W ++ nots V) m2 ∧ FrY f c m m2) := by
  have hb := byt_in (tx := tx) (N := N) hx a
  obtain ⟨m1, q1, q2, q3⟩ := S_135 (d := d + 2) hN (Or.inr rfl : (124 : Int) = 38 ∨ (124 : Int) = 124) W em m hY
  have e135 : cB Q0 (d + 4) 135 [.ref 177, .int 124] m = some (none, m1) := by rw [cB_eq]; exact q1
  generalize setW 124 W = U at q2 ⊢
  generalize em ++ setE 124 W = en at q2 ⊢
  have hl := q2.2.2.2.2
  have ha := q2.1.2.2.1
  have h28 := q2.2.1.1
  generalize hm2 : ((up2 m1.1 193 c.toNat (J (100 * f + (en.length : Nat))), m1.2) : SM) = m2
  have k2 : ∀ k, k ≠ 193 → m2.1 k = m1.1 k := fun k z => by rw [← hm2]; exact u2_ne (f := m1.1) (k := 193) (j := k) _ _ z
  have f2 : FrR zK yI m1 m2 := ⟨fun k z _ => k2 k (by unfold zK at z; omega), fun i _ => by rw [k2 177 (by omega)], by rw [← hm2]⟩
  have f2' : FrY f c m1 m2 := ⟨f2, fun i hi => by rw [← hm2]; show up2 m1.1 193 c.toNat _ 193 i = _; rw [u2_at, if_neg hi], fun i _ => by rw [k2 194 (by omega)]⟩
  have hY2 : YS tx N f a U en m2 := by
    obtain ⟨h1, ⟨h2', h3, h3'⟩, h4, ⟨h5, h6⟩, h7⟩ := q2
    exact ⟨h1.mv f2 (by rw [k2 177 (by omega)]; exact h1.2.1) h1.2.2.1 ⟨by unfold zK; omega, by unfold zK; omega⟩ (by unfold yI; omega), ⟨by rw [k2 177 (by omega)]; exact h2', h3.fr (k2 195 (by omega)), h3'⟩, by rw [k2 177 (by omega)]; exact h4, ⟨by rw [k2 177 (by omega)]; exact h5, h6.fr4 (k2 194 (by omega)) _ _⟩, h7⟩
  have F : FrY f c m m2 := (FrY.of q3).tr f2'
  have n38 : ∀ {α : Type} (u v : α), bT (Q0.1 0 (J (byt tx N a)) 38) u v = if byt tx N a = 38 then u else v := fun u v => q0_J (b := 38) (by omega) (by omega) (by omega) (by omega) u v
  have n124 : ∀ {α : Type} (u v : α), bT (Q0.1 0 (J (byt tx N a)) 124) u v = if byt tx N a = 124 then u else v := fun u v => q0_J (b := 124) (by omega) (by omega) (by omega) (by omega) u v
  have n41 : ∀ {α : Type} (u v : α), bT (Q0.1 0 (J (byt tx N a)) 41) u v = if byt tx N a = 41 then u else v := fun u v => q0_J (b := 41) (by omega) (by omega) (by omega) (by omega) u v
  have nU : ∀ {α : Type} (u v : α), bT (Q0.1 0 (J (U.length : Int)) 0) u v = if (U.length : Int) = 0 then u else v := fun u v => q0_J (b := 0) (by omega) (by omega) (by omega) (by omega) u v
  have base : Y0 d c m = if (U.length : Int) = 0 then some (some (.int 1), m2) else if byt tx N a = 41 then (bX (m2.1 177 28) fun z21 => bX ((up2 m2.1 177 28 (z21 - 1), m2.2) : SM) fun m22 => bX (m22.1 177 29) fun z23 => bX ((up2 m22.1 177 29 (z23 - 1), m22.2) : SM) fun m24 => bX (m24.1 177 17) fun z25 => bX ((up2 m24.1 177 17 (z25 + 1), m24.2) : SM) fun m26 => bV (cB Q0 (d + 4) 134 [.ref 177] m26) fun m27 => Y0 d c m27) else some (some (.int 0), m2) := by
    show rB Q0 138 (cB Q0 (d + 4)) 22 [some (.ref 177), some (.int (J c)), some (.int (J 0))] m = _
    rw [T_138_22, show cB Q0 (d + 4) 128 [.ref 177] m = _ from S_128 (d := d + 3) hx hN hY.1, bI_e, show ∀ (u v : Rs SM), bT (Q0.1 0 (J 0) 0) u v = u from fun _ _ => rfl, n38, if_neg h38, n124, if_neg h124, e135, bV_e, bX_e, q2.2.2.2.1.1, c1_J (n := 60) hc.1 (by omega) (by omega), J_clamp hc.1 (by omega), show ((up2 m1.1 193 c.toNat (J (100 * f + (en.length : Int))), m1.2) : SM) = m2 from hm2, bX_e, hY2.2.1.1, bX_e, nU, n41, nr_1, nr_0]
    rfl
  refine ⟨m2, hY2, F, ?_, fun h => ?_, fun h h41 => ?_, fun V hV h41 => ?_⟩
  · rw [← hm2]; show up2 m1.1 193 c.toNat _ 193 c.toNat = _; rw [u2_at, if_pos rfl]
  · rw [base, h]
    rfl
  · have : (U.length : Int) ≠ 0 := by
      cases U with
      | nil => exact absurd rfl h
      | cons _ _ => simp only [List.length_cons]; omega
    rw [base, if_neg this, if_neg h41]
  · subst hV
    have haN : a < N := byt_lt h41 (by omega)
    have hU0 : ((40 :: V : List Int).length : Int) ≠ 0 := by simp only [List.length_cons]; omega
    have h29 := hY2.2.2.1
    have hop : opn (40 :: V) = 1 + opn V := rfl
    rw [hop] at h29
    have h28' : m2.1 177 28 = J ((V.length : Int) + 1) := by
      have := hY2.2.1.1
      simpa using this
    have h7 := hY2.2.2.2.2.1
    simp only [List.length_cons] at h7
    generalize hm3 : ((up2 (up2 (up2 m2.1 177 28 (J (V.length : Int))) 177 29 (J (opn V))) 177 17 (J (a + 1)), m2.2) : SM) = m3
    have k3 : ∀ k, k ≠ 177 → m3.1 k = m2.1 k := fun k z => by
      rw [← hm3]; show up2 (up2 (up2 m2.1 177 28 (J (V.length : Int))) 177 29 (J (opn V))) 177 17 (J (a + 1)) k = _
      rw [u2_ne _ _ z, u2_ne _ _ z, u2_ne _ _ z]
    have i3 : ∀ i, i ≠ 28 → i ≠ 29 → i ≠ 17 → m3.1 177 i = m2.1 177 i := fun i z z2 z3 => by
      rw [← hm3]; show up2 (up2 (up2 m2.1 177 28 (J (V.length : Int))) 177 29 (J (opn V))) 177 17 (J (a + 1)) 177 i = _
      rw [u2_at, if_neg z3, u2_at, if_neg z2, u2_at, if_neg z]
    have f3 : FrR yK yI m2 m3 := ⟨fun k _ z => k3 k z, fun i z => by unfold yI at z; exact i3 i (by omega) (by omega) (by omega), by rw [← hm3]⟩
    have hY3 : YS tx N f (a + 1) V en m3 := by
      obtain ⟨h1, ⟨h2', h3, h3'⟩, h4, ⟨h5, h6⟩, -, h8⟩ := hY2
      refine ⟨h1.mv f3 ?_ (by omega) ⟨by unfold yK; omega, by unfold yK; omega⟩ (by unfold yI; omega), ⟨?_, h3.2.fr (k3 195 (by omega)), h3'.2⟩, ?_, ⟨(i3 27 (by omega) (by omega) (by omega)).trans h5, h6.fr4 (k3 194 (by omega)) _ _⟩, by omega, h8⟩
      · rw [← hm3]; show up2 (up2 (up2 m2.1 177 28 (J (V.length : Int))) 177 29 (J (opn V))) 177 17 (J (a + 1)) 177 17 = _
        rw [u2_at, if_pos rfl]
      · rw [← hm3]; show up2 (up2 (up2 m2.1 177 28 (J (V.length : Int))) 177 29 (J (opn V))) 177 17 (J (a + 1)) 177 28 = _
        rw [u2_at, if_neg (by omega), u2_at, if_neg (by omega), u2_at, if_pos rfl]
      · rw [← hm3]; show up2 (up2 (up2 m2.1 177 28 (J (V.length : Int))) 177 29 (J (opn V))) 177 17 (J (a + 1)) 177 29 = _
        rw [u2_at, if_neg (by omega), u2_at, if_pos rfl]
    obtain ⟨m4, r1, r2, r3⟩ := S_134 (d := d + 2) hN V en m3 hY3
    have e134 : cB Q0 (d + 4) 134 [.ref 177] m3 = some (none, m4) := by rw [cB_eq]; exact r1
    refine ⟨m4, ?_, r2, F.tr ((FrY.of ⟨f3, fun i _ => by rw [k3 194 (by omega)]⟩).tr (FrY.of r3))⟩
    rw [base, if_neg hU0, if_pos h41, bX_e, h28']
    have y1 : J ((V.length : Int) + 1) - 1 = J (V.length : Int) := by rw [show (1 : Int32) = J 1 from rfl, J_sub, show (V.length : Int) + 1 - 1 = V.length by omega]
    rw [y1]
    show bV (cB Q0 (d + 4) 134 [.ref 177] (up2 (up2 (up2 m2.1 177 28 (J (V.length : Int))) 177 29 (up2 m2.1 177 28 (J (V.length : Int)) 177 29 - 1)) 177 17 (up2 (up2 m2.1 177 28 (J (V.length : Int))) 177 29 (up2 m2.1 177 28 (J (V.length : Int)) 177 29 - 1) 177 17 + 1), m2.2)) (fun m27 => Y0 d c m27) = _
    have y2 : up2 m2.1 177 28 (J (V.length : Int)) 177 29 = J (1 + opn V) := by rw [u2_at, if_neg (by omega)]; exact h29
    have y3 : J (1 + opn V) - 1 = J (opn V) := by rw [show (1 : Int32) = J 1 from rfl, J_sub, show 1 + opn V - 1 = opn V by omega]
    rw [y2, y3]
    have y4 : up2 (up2 m2.1 177 28 (J (V.length : Int))) 177 29 (J (opn V)) 177 17 = J a := by
      rw [u2_at, if_neg (by omega), u2_at, if_neg (by omega)]
      exact hY2.1.2.1
    rw [y4, show J a + 1 = J (a + 1) from J_add a 1, hm3, e134, bV_e]
def OutF (tx : Int → Int) (N f : Int) (d : Nat) (c : Int) (W em : List Int) (m : SM) (r : Rp) : Prop := (r.2 = none ∧ ∃ m', Y1 d c m = some (some (.int 0), m') ∧ RS tx N r.1 m' ∧ FrY f c m m') ∨ ∃ ts m', r.2 = some ts ∧ Y1 d c m = Y0 d c m' ∧ YS tx N f r.1 (dropB W) (em ++ ts ++ nots W) m' ∧ FrY f c m m'
def PeT (A p : List Int) : Prop := (A = [] ∧ p = []) ∨ (A = [38] ∧ p = [-2])
def PeE (A p : List Int) : Prop := (A = [] ∧ p = []) ∨ (A = [38] ∧ p = [-2]) ∨ (A = [124] ∧ p = [-3]) ∨ (A = [38, 124] ∧ p = [-2, -3])
def OutT (tx : Int → Int) (N f : Int) (d : Nat) (c : Int) (Pe : List Int → List Int → Prop) (nx : Int → Prop) (U em : List Int) (X : Rs SM) (m : SM) (r : Rp) : Prop := (r.2 = none ∧ ∃ m', X = some (some (.int 0), m') ∧ RS tx N r.1 m' ∧ FrY f c m m') ∨ ∃ A p ts0 m', Pe A p ∧ r.2 = some (ts0 ++ p) ∧ X = Y0 d c m' ∧ YS tx N f r.1 (A ++ U) (em ++ ts0) m' ∧ nx (byt tx N r.1) ∧ FrY f c m m'
def topT (U : List Int) : Prop := U = [] ∨ ∃ x V, U = x :: V ∧ (x = 40 ∨ x = 124)
def topE (U : List Int) : Prop := U = [] ∨ ∃ V, U = 40 :: V
theorem topT_d {U : List Int} (h : topT U) : dropB U = U ∧ nots U = [] ∧ setW 38 U = U ∧ setE 38 U = [] := by
  rcases h with rfl | ⟨x, V, rfl, rfl | rfl⟩ <;> exact ⟨rfl, rfl, rfl, rfl⟩
theorem topE_d {U : List Int} (h : topE U) : setW 124 U = U ∧ setE 124 U = [] ∧ topT U ∧ topT (124 :: U) := by
  rcases h with rfl | ⟨V, rfl⟩
  · exact ⟨rfl, rfl, Or.inl rfl, Or.inr ⟨124, [], rfl, Or.inr rfl⟩⟩
  · exact ⟨rfl, rfl, Or.inr ⟨40, V, rfl, Or.inl rfl⟩, Or.inr ⟨124, _, rfl, Or.inr rfl⟩⟩
/-- the loop of a T -/
theorem L_T (hx : chr tx) (hN : N ≤ 100) {one : Int → Rp} (ho : ∀ a, a ≤ N → Prg N a (one a)) {U : List Int} (hU : topT U) (H : ∀ (a : Int) (W em : List Int) (m : SM), opn W = opn U → YS tx N f a W em m → OutF tx N f d c W em m (one a)) : ∀ (k : Nat) (b : Int) (A p ts0 em : List Int) (m : SM), PeT A p → YS tx N f b (A ++ U) (em ++ ts0) m → 100 ≤ k + b → OutT tx N f d c PeT (fun x => x ≠ 38) U em (Y0 d c m) m (lpF tx N one 38 (-2) k b (ts0 ++ p)) := by
  obtain ⟨t1, t2, t3, t4⟩ := topT_d hU
  intro k
  induction k with
  | zero =>
    intro b A p ts0 em m hp hY hk
    have hb := hY.1.2.2.1
    refine Or.inr ⟨A, p, ts0, m, hp, rfl, rfl, hY, ?_, FrY.rf⟩
    show byt tx N b ≠ 38
    unfold byt
    rw [if_neg (by omega)]
    omega
  | succ k ih =>
    intro b A p ts0 em m hp hY hk
    have hb := hY.1.2.2.1
    have el : lpF tx N one 38 (-2) (k + 1) b (ts0 ++ p) = if byt tx N b = 38 then bnd (one (b + 1)) fun a' ts => lpF tx N one 38 (-2) k a' (ts0 ++ p ++ ts ++ [-2]) else (b, some (ts0 ++ p)) := rfl
    rw [el]
    by_cases c1 : byt tx N b = 38
    · have hbN : b < N := byt_lt c1 (by omega)
      obtain ⟨m2, q1, q2, q3⟩ := down1 (d := d) (c := c) hx hN hY c1 (Or.inl rfl)
      have e1 : setW 38 (A ++ U) = U ∧ setE 38 (A ++ U) = p := by
        rcases hp with ⟨rfl, rfl⟩ | ⟨rfl, rfl⟩
        · exact ⟨t3, t4⟩
        · exact ⟨t3, by show (-2 :: setE 38 U) = [-2]; rw [t4]⟩
      rw [e1.1, e1.2] at q2
      have hop : opn (38 :: U) = opn U := by
        show (if (38 : Int) = 33 ∨ (38 : Int) = 40 then 1 else 0) + opn U = _
        rw [if_neg (by omega), Int.zero_add]
      have g := ho (b + 1) (by omega)
      rw [if_pos c1]
      rcases H (b + 1) (38 :: U) (em ++ ts0 ++ p) m2 hop q2 with ⟨z1, m3, z2, z3, z4⟩ | ⟨ts, m3, z1, z2, z3, z4⟩
      · rw [bnd_n z1]
        exact Or.inl ⟨rfl, m3, by rw [q1]; exact z2, z3, (FrY.of q3).tr z4⟩
      · rw [bnd_s z1]
        have z3' : YS tx N f (one (b + 1)).1 ([38] ++ U) (em ++ (ts0 ++ p ++ ts)) m3 := by
          have e2 : em ++ (ts0 ++ p ++ ts) = em ++ ts0 ++ p ++ ts ++ nots (38 :: U) := by
            show _ = em ++ ts0 ++ p ++ ts ++ []
            simp only [List.append_assoc, List.append_nil]
          rw [e2]
          exact z3
        obtain ⟨g1, g2, g3⟩ := g
        have h := ih (one (b + 1)).1 [38] [-2] (ts0 ++ p ++ ts) em m3 (Or.inr ⟨rfl, rfl⟩) z3' (by omega)
        rcases h with ⟨y1, m4, y2, y3, y4⟩ | ⟨A', p', ts', m4, y0, y1, y2, y3, y4, y5⟩
        · exact Or.inl ⟨y1, m4, by rw [q1, z2]; exact y2, y3, ((FrY.of q3).tr z4).tr y4⟩
        · exact Or.inr ⟨A', p', ts', m4, y0, y1, by rw [q1, z2]; exact y2, y3, y4, ((FrY.of q3).tr z4).tr y5⟩
    · rw [if_neg c1]
      exact Or.inr ⟨A, p, ts0, m, hp, rfl, rfl, hY, c1, FrY.rf⟩
theorem L_Tc (hx : chr tx) (hN : N ≤ 100) {one : Int → Rp} (ho : ∀ a, a ≤ N → Prg N a (one a)) {U : List Int} (hU : topT U) (H : ∀ (a : Int) (W em : List Int) (m : SM), opn W = opn U → YS tx N f a W em m → OutF tx N f d c W em m (one a)) {a : Int} {em : List Int} {m : SM} (hY : YS tx N f a U em m) : OutT tx N f d c PeT (fun x => x ≠ 38) U em (Y1 d c m) m (chF tx N one 38 (-2) a) := by
  obtain ⟨t1, t2, t3, t4⟩ := topT_d hU
  have ha := hY.1.2.2.1
  have g := ho a ha.2
  unfold chF
  rcases H a U em m rfl hY with ⟨z1, m3, z2, z3, z4⟩ | ⟨ts, m3, z1, z2, z3, z4⟩
  · rw [bnd_n z1]
    exact Or.inl ⟨rfl, m3, z2, z3, z4⟩
  · rw [bnd_s z1]
    rw [t1, t2, List.append_nil] at z3
    have h := L_T (d := d) (c := c) hx hN ho hU H 100 (one a).1 [] [] ts em m3 (Or.inl ⟨rfl, rfl⟩) z3 (by have := g.1; omega)
    rw [List.append_nil] at h
    rcases h with ⟨y1, m4, y2, y3, y4⟩ | ⟨A', p', ts', m4, y0, y1, y2, y3, y4, y5⟩
    · exact Or.inl ⟨y1, m4, by rw [z2]; exact y2, y3, z4.tr y4⟩
    · exact Or.inr ⟨A', p', ts', m4, y0, y1, by rw [z2]; exact y2, y3, y4, z4.tr y5⟩
theorem pe_d {A p V : List Int} (hV : topE V) (h : PeE A p) : setW 124 (A ++ V) = V ∧ setE 124 (A ++ V) = p := by
  obtain ⟨t1, t2, -⟩ := topE_d hV
  rcases h with ⟨rfl, rfl⟩ | ⟨rfl, rfl⟩ | ⟨rfl, rfl⟩ | ⟨rfl, rfl⟩
  · exact ⟨t1, t2⟩
  · exact ⟨t1, by show (-2 :: setE 124 V) = [-2]; rw [t2]⟩
  · exact ⟨t1, by show (-3 :: setE 124 V) = [-3]; rw [t2]⟩
  · exact ⟨t1, by show (-2 :: -3 :: setE 124 V) = [-2, -3]; rw [t2]⟩
/-- the loop of an E -/
theorem L_E (hx : chr tx) (hN : N ≤ 100) {one : Int → Rp} (ho : ∀ a, a ≤ N → Prg N a (one a)) {V : List Int} (hV : topE V) (H : ∀ (a : Int) (U em : List Int) (m : SM), topT U → opn U = opn V → YS tx N f a U em m → OutT tx N f d c PeT (fun x => x ≠ 38) U em (Y1 d c m) m (one a)) : ∀ (k : Nat) (b : Int) (A p ts0 em : List Int) (m : SM), PeE A p → YS tx N f b (A ++ V) (em ++ ts0) m → byt tx N b ≠ 38 → 100 ≤ k + b → OutT tx N f d c PeE (fun x => x ≠ 38 ∧ x ≠ 124) V em (Y0 d c m) m (lpF tx N one 124 (-3) k b (ts0 ++ p)) := by
  obtain ⟨t1, t2, t3, t4⟩ := topE_d hV
  intro k
  induction k with
  | zero =>
    intro b A p ts0 em m hp hY h38 hk
    have hb := hY.1.2.2.1
    refine Or.inr ⟨A, p, ts0, m, hp, rfl, rfl, hY, ⟨h38, ?_⟩, FrY.rf⟩
    show byt tx N b ≠ 124
    unfold byt
    rw [if_neg (by omega)]
    omega
  | succ k ih =>
    intro b A p ts0 em m hp hY h38 hk
    have hb := hY.1.2.2.1
    have el : lpF tx N one 124 (-3) (k + 1) b (ts0 ++ p) = if byt tx N b = 124 then bnd (one (b + 1)) fun a' ts => lpF tx N one 124 (-3) k a' (ts0 ++ p ++ ts ++ [-3]) else (b, some (ts0 ++ p)) := rfl
    rw [el]
    by_cases c1 : byt tx N b = 124
    · have hbN : b < N := byt_lt c1 (by omega)
      obtain ⟨m2, q1, q2, q3⟩ := down1 (d := d) (c := c) hx hN hY c1 (Or.inr rfl)
      obtain ⟨e1, e2⟩ := pe_d hV hp
      rw [e1, e2] at q2
      have hop : opn (124 :: V) = opn V := by
        show (if (124 : Int) = 33 ∨ (124 : Int) = 40 then 1 else 0) + opn V = _
        rw [if_neg (by omega), Int.zero_add]
      have g := ho (b + 1) (by omega)
      rw [if_pos c1]
      rcases H (b + 1) (124 :: V) (em ++ ts0 ++ p) m2 t4 hop q2 with ⟨z1, m3, z2, z3, z4⟩ | ⟨A', p', ts', m3, z0, z1, z2, z3, z5, z4⟩
      · rw [bnd_n z1]
        exact Or.inl ⟨rfl, m3, by rw [q1]; exact z2, z3, (FrY.of q3).tr z4⟩
      · rw [bnd_s z1]
        have hpe : PeE (A' ++ [124]) (p' ++ [-3]) := by
          rcases z0 with ⟨rfl, rfl⟩ | ⟨rfl, rfl⟩
          · exact Or.inr (Or.inr (Or.inl ⟨rfl, rfl⟩))
          · exact Or.inr (Or.inr (Or.inr ⟨rfl, rfl⟩))
        have z3' : YS tx N f (one (b + 1)).1 (A' ++ [124] ++ V) (em ++ (ts0 ++ p ++ ts')) m3 := by
          have e3 : A' ++ [124] ++ V = A' ++ 124 :: V := by simp
          have e4 : em ++ (ts0 ++ p ++ ts') = em ++ ts0 ++ p ++ ts' := by simp only [List.append_assoc]
          rw [e3, e4]
          exact z3
        obtain ⟨g1, g2, g3⟩ := g
        have h := ih (one (b + 1)).1 (A' ++ [124]) (p' ++ [-3]) (ts0 ++ p ++ ts') em m3 hpe z3' z5 (by omega)
        have e5 : ts0 ++ p ++ ts' ++ (p' ++ [-3]) = ts0 ++ p ++ (ts' ++ p') ++ [-3] := by simp only [List.append_assoc]
        rw [e5] at h
        rcases h with ⟨y1, m4, y2, y3, y4⟩ | ⟨A2, p2, ts2, m4, y0, y1, y2, y3, y4, y5⟩
        · exact Or.inl ⟨y1, m4, by rw [q1, z2]; exact y2, y3, ((FrY.of q3).tr z4).tr y4⟩
        · exact Or.inr ⟨A2, p2, ts2, m4, y0, y1, by rw [q1, z2]; exact y2, y3, y4, ((FrY.of q3).tr z4).tr y5⟩
    · rw [if_neg c1]
      exact Or.inr ⟨A, p, ts0, m, hp, rfl, rfl, hY, ⟨h38, c1⟩, FrY.rf⟩
theorem L_Ec (hx : chr tx) (hN : N ≤ 100) {one : Int → Rp} (ho : ∀ a, a ≤ N → Prg N a (one a)) {V : List Int} (hV : topE V) (H : ∀ (a : Int) (U em : List Int) (m : SM), topT U → opn U = opn V → YS tx N f a U em m → OutT tx N f d c PeT (fun x => x ≠ 38) U em (Y1 d c m) m (one a)) {a : Int} {em : List Int} {m : SM} (hY : YS tx N f a V em m) : OutT tx N f d c PeE (fun x => x ≠ 38 ∧ x ≠ 124) V em (Y1 d c m) m (chF tx N one 124 (-3) a) := by
  obtain ⟨t1, t2, t3, t4⟩ := topE_d hV
  have ha := hY.1.2.2.1
  have g := ho a ha.2
  unfold chF
  rcases H a V em m t3 rfl hY with ⟨z1, m3, z2, z3, z4⟩ | ⟨A', p', ts', m3, z0, z1, z2, z3, z5, z4⟩
  · rw [bnd_n z1]
    exact Or.inl ⟨rfl, m3, z2, z3, z4⟩
  · rw [bnd_s z1]
    have hpe : PeE A' p' := z0.elim Or.inl fun z => Or.inr (Or.inl z)
    have h := L_E (d := d) (c := c) hx hN ho hV H 100 (one a).1 A' p' ts' em m3 hpe z3 z5 (by have := g.1; omega)
    rcases h with ⟨y1, m4, y2, y3, y4⟩ | ⟨A2, p2, ts2, m4, y0, y1, y2, y3, y4, y5⟩
    · exact Or.inl ⟨y1, m4, by rw [z2]; exact y2, y3, z4.tr y4⟩
    · exact Or.inr ⟨A2, p2, ts2, m4, y0, y1, by rw [z2]; exact y2, y3, y4, z4.tr y5⟩
end
