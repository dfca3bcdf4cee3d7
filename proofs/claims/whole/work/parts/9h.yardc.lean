/-! The reference's loop over an expression: one round of it -/
noncomputable def Y1 (d : Nat) (c : Int) (m : SM) : Rs SM := rB Q0 138 (cB Q0 (d + 4)) 22 [some (.ref 177), some (.int (J c)), some (.int (J 1))] m
noncomputable def Y0 (d : Nat) (c : Int) (m : SM) : Rs SM := rB Q0 138 (cB Q0 (d + 4)) 22 [some (.ref 177), some (.int (J c)), some (.int (J 0))] m
def zK : Nat → Prop := fun k => k = 193 ∨ k = 194 ∨ k = 195
def FrY (f c : Int) (m m' : SM) : Prop := FrR zK yI m m' ∧ (∀ i, i ≠ c.toNat → m'.1 193 i = m.1 193 i) ∧ ∀ i : Nat, (i : Int) < 100 * f → m'.1 194 i = m.1 194 i
theorem FrY.rf {f c : Int} {m : SM} : FrY f c m m := ⟨FrR.rf, fun _ _ => rfl, fun _ _ => rfl⟩
theorem FrY.tr {f c : Int} {a b e : SM} (h1 : FrY f c a b) (h2 : FrY f c b e) : FrY f c a e := ⟨h1.1.tr h2.1, fun i hi => (h2.2.1 i hi).trans (h1.2.1 i hi), fun i hi => (h2.2.2 i hi).trans (h1.2.2 i hi)⟩
theorem FrY.of {f c : Int} {m m' : SM} (h : FrV f m m') : FrY f c m m' := ⟨h.1.mono (fun k hk => by unfold yK at hk; unfold zK; omega) (fun _ z => z), fun i _ => by rw [h.1.1 193 (by unfold yK; omega) (by omega)], h.2⟩
section
variable {tx : Int → Int} {N : Int} {f a : Int} {W em : List Int} {m : SM} {d : Nat} {c : Int}
theorem pushY {x : Int} (hY : YS tx N f a W em m) (haN : a < N) (hx : x = 33 ∨ x = 40 ∨ x = 38 ∨ x = 124) {m' : SM} (h28 : m'.1 177 28 = J ((W.length : Int) + 1)) (h29 : m'.1 177 29 = J (opn (x :: W))) (h17 : m'.1 177 17 = J (a + 1)) (h195 : m'.1 195 = up2 m.1 195 W.length (J x) 195) (hk : ∀ k, k ≠ 177 → k ≠ 195 → m'.1 k = m.1 k) (hi : ∀ i, i ≠ 28 → i ≠ 29 → i ≠ 17 → m'.1 177 i = m.1 177 i) (h2 : m'.2 = m.2) : YS tx N f (a + 1) (x :: W) em m' ∧ FrV f m m' := by
  obtain ⟨h1, ⟨h2', h3, h3'⟩, h4, ⟨h5, h6⟩, h7, h8⟩ := hY
  have ha := h1.2.2.1
  have hF : FrR yK yI m m' := ⟨fun k z z2 => hk k z2 (by unfold yK at z; omega), fun i z => by unfold yI at z; exact hi i (by omega) (by omega) (by omega), h2⟩
  refine ⟨⟨h1.mv hF h17 (by omega) ⟨by unfold yK; omega, by unfold yK; omega⟩ (by unfold yI; omega), ⟨by rw [h28]; simp, ⟨?_, ?_⟩, hx, h3'⟩, h29, ⟨(hi 27 (by omega) (by omega) (by omega)).trans h5, h6.fr4 (hk 194 (by omega) (by omega)) _ _⟩, by simp only [List.length_cons]; omega, h8⟩, hF, fun i _ => by rw [hk 194 (by omega) (by omega)]⟩
  · rw [h195, u2_at, if_pos rfl]
  · exact StkA.fr (m := (up2 m.1 195 W.length (J x), m.2)) h195 _ (StkA.out W (Nat.le_refl _) h3)
/-- ! or ( when an operand is wanted -/
theorem up1 (hx : chr tx) (hN : N ≤ 100) (hY : YS tx N f a W em m) {x : Int} (hb : byt tx N a = x) (hx2 : x = 33 ∨ x = 40) : (opn W = 4 → Y1 d c m = some (some (.int 0), m)) ∧ (opn W ≠ 4 → ∃ m', Y1 d c m = Y1 d c m' ∧ YS tx N f (a + 1) (x :: W) em m' ∧ FrV f m m') := by
  have hR := hY.1
  have ho := opn_in W
  have hl := hY.2.2.2.2
  have ha := hR.2.2.1
  have haN : a < N := byt_lt hb (by omega)
  have n4 : ∀ {α : Type} (u v : α), bT (Q0.1 0 (J (opn W)) 4) u v = if opn W = 4 then u else v := fun u v => q0_J (b := 4) (by omega) (by omega) (by omega) (by omega) u v
  have h29 := hY.2.2.1
  have h28 := hY.2.1.1
  generalize hm' : ((up2 (up2 (up2 (up2 m.1 177 29 (J (opn W + 1))) 195 W.length (J x)) 177 28 (J ((W.length : Int) + 1))) 177 17 (J (a + 1)), m.2) : SM) = m'
  have key : opn W ≠ 4 → (bX (m.1 177 29) fun z28 => bT (Q0.1 0 z28 4) (bT (Q0.2.2.2.1 1 0) (some (some (Value.int 0), m)) none) (bX (m.1 177 29) fun z29 => bX ((up2 m.1 177 29 (z29 + 1), m.2) : SM) fun m30 => bX (m30.1 177 28) fun z31 => bT (ok1 Q0 0 (.inr (0, 101)) z31) (bX ((up2 m30.1 195 (Int32.toNatClampNeg z31) (J x), m30.2) : SM) fun m32 => bX (m32.1 177 28) fun z33 => bX ((up2 m32.1 177 28 (z33 + 1), m32.2) : SM) fun m34 => bX (m34.1 177 17) fun z35 => bX ((up2 m34.1 177 17 (z35 + 1), m34.2) : SM) fun m36 => Y1 d c m36) none)) = Y1 d c m' := by
    intro hne
    have hcl : (J (W.length : Int)).toNatClampNeg = W.length := by rw [J_clamp (by omega) (by omega)]; exact Int.toNat_natCast _
    have y1 : up2 m.1 177 29 (J (opn W) + 1) 177 28 = J (W.length : Int) := by rw [u2_at, if_neg (by omega)]; exact h28
    rw [bX_e, h29, n4, if_neg hne, bX_e, bX_e, bX_e]
    show bT (ok1 Q0 0 (.inr (0, 101)) (up2 m.1 177 29 (J (opn W) + 1) 177 28)) (Y1 d c (up2 (up2 (up2 (up2 m.1 177 29 (J (opn W) + 1)) 195 (Int32.toNatClampNeg (up2 m.1 177 29 (J (opn W) + 1) 177 28)) (J x)) 177 28 (up2 (up2 m.1 177 29 (J (opn W) + 1)) 195 (Int32.toNatClampNeg (up2 m.1 177 29 (J (opn W) + 1) 177 28)) (J x) 177 28 + 1)) 177 17 (up2 (up2 (up2 m.1 177 29 (J (opn W) + 1)) 195 (Int32.toNatClampNeg (up2 m.1 177 29 (J (opn W) + 1) 177 28)) (J x)) 177 28 (up2 (up2 m.1 177 29 (J (opn W) + 1)) 195 (Int32.toNatClampNeg (up2 m.1 177 29 (J (opn W) + 1) 177 28)) (J x) 177 28 + 1) 177 17 + 1), m.2)) none = _
    rw [y1, c1_J (n := 101) (by omega) (by omega) (by omega), hcl]
    have y2 : up2 (up2 m.1 177 29 (J (opn W) + 1)) 195 W.length (J x) 177 28 = J (W.length : Int) := by rw [u2_ne (j := 177) _ _ (by omega)]; exact y1
    rw [y2]
    have y3 : up2 (up2 (up2 m.1 177 29 (J (opn W) + 1)) 195 W.length (J x)) 177 28 (J (W.length : Int) + 1) 177 17 = J a := by
      rw [u2_at, if_neg (by omega), u2_ne (j := 177) _ _ (by omega), u2_at, if_neg (by omega)]
      exact hR.2.1
    rw [y3, ← hm', show J (opn W) + 1 = J (opn W + 1) from J_add _ 1, show J (W.length : Int) + 1 = J ((W.length : Int) + 1) from J_add _ 1, show J a + 1 = J (a + 1) from J_add a 1]
  have fin : opn W ≠ 4 → YS tx N f (a + 1) (x :: W) em m' ∧ FrV f m m' := fun _ => by
    refine pushY hY haN (by omega) ?_ ?_ ?_ ?_ (fun k z1 z2 => ?_) (fun i z1 z2 z3 => ?_) (by rw [← hm'])
    · rw [← hm']; show up2 (up2 (up2 (up2 m.1 177 29 (J (opn W + 1))) 195 W.length (J x)) 177 28 (J ((W.length : Int) + 1))) 177 17 (J (a + 1)) 177 28 = _
      rw [u2_at, if_neg (by omega), u2_at, if_pos rfl]
    · rw [← hm']; show up2 (up2 (up2 (up2 m.1 177 29 (J (opn W + 1))) 195 W.length (J x)) 177 28 (J ((W.length : Int) + 1))) 177 17 (J (a + 1)) 177 29 = J ((if x = 33 ∨ x = 40 then 1 else 0) + opn W)
      rw [u2_at, if_neg (by omega), u2_at, if_neg (by omega), u2_ne _ _ (by omega), u2_at, if_pos rfl, if_pos hx2, Int.add_comm]
    · rw [← hm']; show up2 (up2 (up2 (up2 m.1 177 29 (J (opn W + 1))) 195 W.length (J x)) 177 28 (J ((W.length : Int) + 1))) 177 17 (J (a + 1)) 177 17 = _
      rw [u2_at, if_pos rfl]
    · rw [← hm']; show up2 (up2 (up2 (up2 m.1 177 29 (J (opn W + 1))) 195 W.length (J x)) 177 28 (J ((W.length : Int) + 1))) 177 17 (J (a + 1)) 195 = _
      funext i
      rw [u2_ne _ _ (by omega), u2_ne _ _ (by omega), u2_at, u2_at, u2_ne _ _ (by omega)]
    · rw [← hm']; show up2 (up2 (up2 (up2 m.1 177 29 (J (opn W + 1))) 195 W.length (J x)) 177 28 (J ((W.length : Int) + 1))) 177 17 (J (a + 1)) k = _
      rw [u2_ne _ _ z1, u2_ne _ _ z1, u2_ne _ _ z2, u2_ne _ _ z1]
    · rw [← hm']; show up2 (up2 (up2 (up2 m.1 177 29 (J (opn W + 1))) 195 W.length (J x)) 177 28 (J ((W.length : Int) + 1))) 177 17 (J (a + 1)) 177 i = _
      rw [u2_at, if_neg z3, u2_at, if_neg z1, u2_ne _ _ (by omega), u2_at, if_neg z2]
  have e128 : cB Q0 (d + 4) 128 [.ref 177] m = some (some (.int (J x)), m) := by rw [S_128 (d := d + 3) hx hN hR, hb]
  have head : ∀ q : Rs SM, (bX (m.1 177 29) fun z28 => bT (Q0.1 0 z28 4) (bT (Q0.2.2.2.1 1 0) (some (some (Value.int 0), m)) none) (bX (m.1 177 29) fun z29 => bX ((up2 m.1 177 29 (z29 + 1), m.2) : SM) fun m30 => bX (m30.1 177 28) fun z31 => bT (ok1 Q0 0 (.inr (0, 101)) z31) (bX ((up2 m30.1 195 (Int32.toNatClampNeg z31) (J x), m30.2) : SM) fun m32 => bX (m32.1 177 28) fun z33 => bX ((up2 m32.1 177 28 (z33 + 1), m32.2) : SM) fun m34 => bX (m34.1 177 17) fun z35 => bX ((up2 m34.1 177 17 (z35 + 1), m34.2) : SM) fun m36 => Y1 d c m36) none)) = q → Y1 d c m = q := fun q hq => by
    rw [← hq]
    show rB Q0 138 (cB Q0 (d + 4)) 22 [some (.ref 177), some (.int (J c)), some (.int (J 1))] m = _
    rw [T_138_22, e128, bI_e, show ∀ (u v : Rs SM), bT (Q0.1 0 (J 1) 0) u v = v from fun _ _ => rfl]
    rcases hx2 with rfl | rfl
    · rw [show ∀ (u v : Rs SM), bT (Q0.1 0 (J 33) 33) u v = u from fun _ _ => rfl]
      rfl
    · rw [show ∀ (u v : Rs SM), bT (Q0.1 0 (J 40) 33) u v = v from fun _ _ => rfl, show ∀ (u v : Rs SM), bT (Q0.1 0 (J 40) 40) u v = u from fun _ _ => rfl]
      rfl
  refine ⟨fun h4 => head _ ?_, fun hne => ⟨m', head _ (key hne), fin hne⟩⟩
  rw [bX_e, h29, n4, if_pos h4, nr_0]
/-- a test when an operand is wanted -/
theorem up2t (hx : chr tx) (hN : N ≤ 100) (hY : YS tx N f a W em m) (h33 : byt tx N a ≠ 33) (h40 : byt tx N a ≠ 40) : ((tstF tx N a).2 = none ∧ ∃ m', Y1 d c m = some (some (.int 0), m') ∧ RS tx N (tstF tx N a).1 m' ∧ FrV f m m') ∨ ∃ ts m', (tstF tx N a).2 = some ts ∧ Y1 d c m = Y0 d c m' ∧ YS tx N f (tstF tx N a).1 (dropB W) (em ++ ts ++ nots W) m' ∧ FrV f m m' := by
  have hb := byt_in (tx := tx) (N := N) hx a
  have n33 : ∀ {α : Type} (u v : α), bT (Q0.1 0 (J (byt tx N a)) 33) u v = if byt tx N a = 33 then u else v := fun u v => q0_J (b := 33) (by omega) (by omega) (by omega) (by omega) u v
  have n40 : ∀ {α : Type} (u v : α), bT (Q0.1 0 (J (byt tx N a)) 40) u v = if byt tx N a = 40 then u else v := fun u v => q0_J (b := 40) (by omega) (by omega) (by omega) (by omega) u v
  have e : Y1 d c m = bI (cB Q0 (d + 4) 137 [.ref 177] m) fun x47 m46 => bT (Q0.1 0 x47 0) (bT (Q0.2.2.2.1 1 0) (some (some (.int 0), m46)) none) (Y0 d c m46) := by
    show rB Q0 138 (cB Q0 (d + 4)) 22 [some (.ref 177), some (.int (J c)), some (.int (J 1))] m = _
    rw [T_138_22, show cB Q0 (d + 4) 128 [.ref 177] m = _ from S_128 (d := d + 3) hx hN hY.1, bI_e, show ∀ (u v : Rs SM), bT (Q0.1 0 (J 1) 0) u v = v from fun _ _ => rfl, n33, if_neg h33, n40, if_neg h40]
    rfl
  rcases S_137 (d := d) hx hN hY with ⟨g1, m', g2, g3, g4⟩ | ⟨ts, m', g1, g2, g3, g4⟩
  · exact Or.inl ⟨g1, m', by rw [e, g2, bI_e]; rfl, g3, g4⟩
  · exact Or.inr ⟨ts, m', g1, by rw [e, g2, bI_e]; rfl, g3, g4⟩
/-- & or | behind an operand -/
theorem down1 (hx : chr tx) (hN : N ≤ 100) (hY : YS tx N f a W em m) {s : Int} (hb : byt tx N a = s) (hs : s = 38 ∨ s = 124) : ∃ m', Y0 d c m = Y1 d c m' ∧ YS tx N f (a + 1) (s :: setW s W) (em ++ setE s W) m' ∧ FrV f m m' := by
  have haN : a < N := byt_lt hb (by omega)
  obtain ⟨m1, q1, q2, q3⟩ := S_135 (d := d + 2) hN hs W em m hY
  have e135 : cB Q0 (d + 4) 135 [.ref 177, .int (J s)] m = some (none, m1) := by rw [cB_eq]; exact q1
  generalize setW s W = U at q2 ⊢
  generalize em ++ setE s W = en at q2 ⊢
  have hl := q2.2.2.2.2
  have ha := q2.1.2.2.1
  have h28 := q2.2.1.1
  have hcl : (J (U.length : Int)).toNatClampNeg = U.length := by rw [J_clamp (by omega) (by omega)]; exact Int.toNat_natCast _
  generalize hm' : ((up2 (up2 (up2 m1.1 195 U.length (J s)) 177 28 (J ((U.length : Int) + 1))) 177 17 (J (a + 1)), m1.2) : SM) = m'
  have fin : YS tx N f (a + 1) (s :: U) en m' ∧ FrV f m1 m' := by
    refine pushY q2 haN (by omega) ?_ ?_ ?_ ?_ (fun k z1 z2 => ?_) (fun i z1 z2 z3 => ?_) (by rw [← hm'])
    · rw [← hm']; show up2 (up2 (up2 m1.1 195 U.length (J s)) 177 28 (J ((U.length : Int) + 1))) 177 17 (J (a + 1)) 177 28 = _
      rw [u2_at, if_neg (by omega), u2_at, if_pos rfl]
    · rw [← hm']; show up2 (up2 (up2 m1.1 195 U.length (J s)) 177 28 (J ((U.length : Int) + 1))) 177 17 (J (a + 1)) 177 29 = J ((if s = 33 ∨ s = 40 then 1 else 0) + opn U)
      rw [u2_at, if_neg (by omega), u2_at, if_neg (by omega), u2_ne _ _ (by omega), if_neg (by omega), Int.zero_add]
      exact q2.2.2.1
    · rw [← hm']; show up2 (up2 (up2 m1.1 195 U.length (J s)) 177 28 (J ((U.length : Int) + 1))) 177 17 (J (a + 1)) 177 17 = _
      rw [u2_at, if_pos rfl]
    · rw [← hm']; show up2 (up2 (up2 m1.1 195 U.length (J s)) 177 28 (J ((U.length : Int) + 1))) 177 17 (J (a + 1)) 195 = _
      rw [u2_ne _ _ (by omega), u2_ne _ _ (by omega)]
    · rw [← hm']; show up2 (up2 (up2 m1.1 195 U.length (J s)) 177 28 (J ((U.length : Int) + 1))) 177 17 (J (a + 1)) k = _
      rw [u2_ne _ _ z1, u2_ne _ _ z1, u2_ne _ _ z2]
    · rw [← hm']; show up2 (up2 (up2 m1.1 195 U.length (J s)) 177 28 (J ((U.length : Int) + 1))) 177 17 (J (a + 1)) 177 i = _
      rw [u2_at, if_neg z3, u2_at, if_neg z1, u2_ne _ _ (by omega)]
  refine ⟨m', ?_, fin.1, q3.tr fin.2⟩
  have key : (bX (m1.1 177 28) fun z4 => bT (ok1 Q0 0 (.inr (0, 101)) z4) (bX ((up2 m1.1 195 (Int32.toNatClampNeg z4) (J s), m1.2) : SM) fun m5 => bX (m5.1 177 28) fun z6 => bX ((up2 m5.1 177 28 (z6 + 1), m5.2) : SM) fun m7 => bX (m7.1 177 17) fun z8 => bX ((up2 m7.1 177 17 (z8 + 1), m7.2) : SM) fun m9 => Y1 d c m9) none) = Y1 d c m' := by
    rw [bX_e, h28, c1_J (n := 101) (by omega) (by omega) (by omega), hcl]
    show Y1 d c (up2 (up2 (up2 m1.1 195 U.length (J s)) 177 28 (up2 m1.1 195 U.length (J s) 177 28 + 1)) 177 17 (up2 (up2 m1.1 195 U.length (J s)) 177 28 (up2 m1.1 195 U.length (J s) 177 28 + 1) 177 17 + 1), m1.2) = _
    have y2 : up2 m1.1 195 U.length (J s) 177 28 = J (U.length : Int) := by rw [u2_ne (j := 177) _ _ (by omega)]; exact h28
    rw [y2]
    have y3 : up2 (up2 m1.1 195 U.length (J s)) 177 28 (J (U.length : Int) + 1) 177 17 = J a := by
      rw [u2_at, if_neg (by omega), u2_ne (j := 177) _ _ (by omega)]
      exact q2.1.2.1
    rw [y3, ← hm', show J (U.length : Int) + 1 = J ((U.length : Int) + 1) from J_add _ 1, show J a + 1 = J (a + 1) from J_add a 1]
  rw [← key]
  show rB Q0 138 (cB Q0 (d + 4)) 22 [some (.ref 177), some (.int (J c)), some (.int (J 0))] m = _
  rw [T_138_22, show cB Q0 (d + 4) 128 [.ref 177] m = _ from S_128 (d := d + 3) hx hN hY.1, hb, bI_e, show ∀ (u v : Rs SM), bT (Q0.1 0 (J 0) 0) u v = u from fun _ _ => rfl]
  rcases hs with rfl | rfl
  · rw [show ∀ (u v : Rs SM), bT (Q0.1 0 (J 38) 38) u v = u from fun _ _ => rfl, e135, bV_e]
    rfl
  · rw [show ∀ (u v : Rs SM), bT (Q0.1 0 (J 124) 38) u v = v from fun _ _ => rfl, show ∀ (u v : Rs SM), bT (Q0.1 0 (J 124) 124) u v = u from fun _ _ => rfl, e135, bV_e]
    rfl
end
