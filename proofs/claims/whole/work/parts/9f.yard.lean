/-! What waits, what was emitted: the reference's reading of expressions -/
def StkA : List Int → SM → Prop
  | [], _ => True
  | x :: W, m => m.1 195 W.length = J x ∧ StkA W m
def opn : List Int → Int
  | [] => 0
  | x :: W => (if x = 33 ∨ x = 40 then 1 else 0) + opn W
def dropB : List Int → List Int
  | [] => []
  | x :: W => if x = 33 then dropB W else x :: W
def nots : List Int → List Int
  | [] => []
  | x :: W => if x = 33 then -1 :: nots W else []
def setW (s : Int) : List Int → List Int
  | [] => []
  | x :: W => if x = 38 then setW s W else if x = 124 ∧ s ≠ 38 then setW s W else x :: W
def setE (s : Int) : List Int → List Int
  | [] => []
  | x :: W => if x = 38 then -2 :: setE s W else if x = 124 ∧ s ≠ 38 then -3 :: setE s W else []
def okW : List Int → Prop
  | [] => True
  | x :: W => (x = 33 ∨ x = 40 ∨ x = 38 ∨ x = 124) ∧ okW W
def YS (tx : Int → Int) (N : Int) (f a : Int) (W em : List Int) (m : SM) : Prop := RS tx N a m ∧ (m.1 177 28 = J (W.length : Int) ∧ StkA W m ∧ okW W) ∧ m.1 177 29 = J (opn W) ∧ (m.1 177 27 = J (100 * f + em.length) ∧ SigAt m (100 * f) em) ∧ ((em.length : Int) + W.length ≤ a ∧ 0 ≤ f ∧ f ≤ 5)
def yK : Nat → Prop := fun k => k = 194 ∨ k = 195
def yI : Nat → Prop := fun i => i = 17 ∨ i = 18 ∨ (27 ≤ i ∧ i ≤ 29)
def FrV (f : Int) (m m' : SM) : Prop := FrR yK yI m m' ∧ ∀ i : Nat, (i : Int) < 100 * f → m'.1 194 i = m.1 194 i
theorem FrV.rf {f : Int} {m : SM} : FrV f m m := ⟨FrR.rf, fun _ _ => rfl⟩
theorem FrV.tr {f : Int} {a b c : SM} (h1 : FrV f a b) (h2 : FrV f b c) : FrV f a c := ⟨h1.1.tr h2.1, fun i hi => (h2.2 i hi).trans (h1.2 i hi)⟩
theorem StkA.fr {m m' : SM} (h : m'.1 195 = m.1 195) : ∀ W : List Int, StkA W m → StkA W m'
  | [], _ => trivial
  | x :: W, g => ⟨by rw [h]; exact g.1, StkA.fr h W g.2⟩
theorem StkA.out {m : SM} {j : Nat} {v : Int32} : ∀ W : List Int, W.length ≤ j → StkA W m → StkA W (up2 m.1 195 j v, m.2)
  | [], _, _ => trivial
  | x :: W, h, g => by
    simp only [List.length_cons] at h
    refine ⟨?_, StkA.out W (by omega) g.2⟩
    show up2 m.1 195 j v 195 W.length = _
    rw [u2_at, if_neg (by omega)]
    exact g.1
theorem SigAt.fr4 {m m' : SM} (h : m'.1 194 = m.1 194) : ∀ (ts : List Int) (a : Int), SigAt m a ts → SigAt m' a ts
  | [], _, _ => trivial
  | t :: ts, a, g => ⟨by rw [h]; exact g.1, SigAt.fr4 h ts (a + 1) g.2⟩
theorem SigAt.app {m : SM} : ∀ (ts us : List Int) (i : Int), SigAt m i (ts ++ us) ↔ SigAt m i ts ∧ SigAt m (i + ts.length) us
  | [], us, i => by simp [SigAt]
  | t :: ts, us, i => by
    have ih := SigAt.app (m := m) ts us (i + 1)
    have e : i + 1 + (ts.length : Int) = i + ((t :: ts).length : Int) := by simp only [List.length_cons]; omega
    rw [e] at ih
    show _ ∧ SigAt m (i + 1) (ts ++ us) ↔ (_ ∧ SigAt m (i + 1) ts) ∧ _
    rw [ih, and_assoc]
theorem SigAt.out {m : SM} {j : Int} {v : Int32} : ∀ (ts : List Int) (i : Int), 0 ≤ i → i + ts.length ≤ j → SigAt m i ts → SigAt (up2 m.1 194 j.toNat v, m.2) i ts
  | [], _, _, _, _ => trivial
  | t :: ts, i, h0, h1, g => by
    simp only [List.length_cons] at h1
    refine ⟨?_, SigAt.out ts (i + 1) (by omega) (by omega) g.2⟩
    show up2 m.1 194 j.toNat v 194 i.toNat = _
    rw [u2_at, if_neg (by omega)]
    exact g.1
theorem opn_in : ∀ W : List Int, 0 ≤ opn W ∧ opn W ≤ W.length
  | [] => ⟨Int.le_refl _, Int.le_refl _⟩
  | x :: W => by
    have := opn_in W
    unfold opn
    simp only [List.length_cons]
    split <;> omega
section
variable {tx : Int → Int} {N : Int} {f a : Int} {W em : List Int} {m : SM} {d : Nat}
/-- emits; a may be any place that is not behind -/
theorem S_133 {u : Int} (hu : m.1 177 27 = J u) (h0 : 0 ≤ u ∧ u < 600) {t : Int32} : cB Q0 (d + 1) 133 [.ref 177, .int t] m = some (none, (up2 (up2 m.1 194 u.toNat t) 177 27 (J (u + 1)), m.2)) := by
  rw [cB_eq]
  show rB Q0 133 (cB Q0 d) 0 [some (.ref 177), some (.int t)] m = _
  rw [T_133_0, bX_e, hu, c1_J (n := 600) h0.1 (by omega) (by omega), bX_e, J_clamp h0.1 (by omega)]
  show some (none, (up2 (up2 m.1 194 u.toNat t) 177 27 (up2 m.1 194 u.toNat t 177 27 + J 1), m.2)) = _
  rw [u2_ne _ _ (by omega), hu, J_add]
theorem emit {t : Int} (hx : YS tx N f a W em m) (hN : N ≤ 100) {x : Int32} (hxt : x = J (rco t)) (hl : (em.length : Int) + 1 + W.length ≤ a) : ∃ m', cB Q0 (d + 1) 133 [.ref 177, .int x] m = some (none, m') ∧ YS tx N f a W (em ++ [t]) m' ∧ FrV f m m' := by
  obtain ⟨h1, ⟨h2, h3, h3'⟩, h4, ⟨h5, h6⟩, h7, h8⟩ := hx
  have ha := h1.2.2.1
  have hF : FrR yK yI m (up2 (up2 m.1 194 (100 * f + em.length).toNat x) 177 27 (J (100 * f + em.length + 1)), m.2) := (FrR.put (K := yK) (KI := yI) (k := 194) (by unfold yK; omega) (by omega) _ _).tr (FrR.put7 (KI := yI) (i := 27) (by unfold yI; omega) _)
  have k177 : ∀ i, i ≠ 27 → up2 (up2 m.1 194 (100 * f + em.length).toNat x) 177 27 (J (100 * f + em.length + 1)) 177 i = m.1 177 i := fun i hi => by rw [u2_at, if_neg hi, u2_ne _ _ (by omega)]
  refine ⟨_, S_133 h5 (by omega), ⟨h1.mv hF (by exact (k177 17 (by omega)).trans h1.2.1) ha ⟨by unfold yK; omega, by unfold yK; omega⟩ (by unfold yI; omega), ⟨(k177 28 (by omega)).trans h2, ?_, h3'⟩, (k177 29 (by omega)).trans h4, ⟨?_, ?_⟩, ?_, h8⟩, hF, fun i hi => ?_⟩
  · refine StkA.fr (m := m) ?_ _ h3
    show up2 (up2 m.1 194 (100 * f + em.length).toNat x) 177 27 (J (100 * f + em.length + 1)) 195 = _
    rw [u2_ne _ _ (by omega), u2_ne _ _ (by omega)]
  · show up2 (up2 m.1 194 (100 * f + em.length).toNat x) 177 27 (J (100 * f + em.length + 1)) 177 27 = _
    rw [u2_at, if_pos rfl]
    simp only [List.length_append, List.length_singleton]
    congr 1
    omega
  · rw [SigAt.app]
    have k194 : up2 (up2 m.1 194 (100 * f + em.length).toNat x) 177 27 (J (100 * f + em.length + 1)) 194 = up2 m.1 194 (100 * f + em.length).toNat x 194 := u2_ne _ _ (by omega)
    refine ⟨SigAt.fr4 (m := (up2 m.1 194 (100 * f + em.length).toNat x, m.2)) k194 _ _ (SigAt.out em _ (by omega) (by omega) h6), ?_, trivial⟩
    show up2 (up2 m.1 194 (100 * f + em.length).toNat x) 177 27 (J (100 * f + em.length + 1)) 194 (100 * f + em.length).toNat = _
    rw [k194, u2_at, if_pos rfl, hxt]
  · simp only [List.length_append, List.length_singleton]
    omega
  · show up2 (up2 m.1 194 (100 * f + em.length).toNat x) 177 27 (J (100 * f + em.length + 1)) 194 i = _
    rw [u2_ne _ _ (by omega), u2_at, if_neg (by omega)]
/-- off the stack -/
theorem popY {x : Int} (hx : YS tx N f a (x :: W) em m) (o : Int) (ho : o = if x = 33 ∨ x = 40 then 1 else 0) {m' : SM} (h28 : m'.1 177 28 = J (W.length : Int)) (h29 : m'.1 177 29 = J (opn W)) (hk : ∀ k, k ≠ 177 → m'.1 k = m.1 k) (hi : ∀ i, i ≠ 28 → i ≠ 29 → m'.1 177 i = m.1 177 i) (h2 : m'.2 = m.2) : YS tx N f a W em m' ∧ FrV f m m' := by
  obtain ⟨h1, ⟨h2, h3, h3'⟩, h4, ⟨h5, h6⟩, h7, h8⟩ := hx
  have hF : FrR yK yI m m' := ⟨fun k _ z => hk k z, fun i z => hi i (by unfold yI at z; omega) (by unfold yI at z; omega), by assumption⟩
  simp only [List.length_cons] at h7
  exact ⟨⟨h1.mv hF ((hi 17 (by omega) (by omega)).trans h1.2.1) h1.2.2.1 ⟨by unfold yK; omega, by unfold yK; omega⟩ (by unfold yI; omega), ⟨h28, h3.2.fr (hk 195 (by omega)), h3'.2⟩, h29, ⟨(hi 27 (by omega) (by omega)).trans h5, h6.fr4 (hk 194 (by omega)) _ _⟩, by omega, h8⟩, hF, fun i _ => by rw [hk 194 (by omega)]⟩
theorem S_134 (hN : N ≤ 100) : ∀ (W em : List Int) (m : SM), YS tx N f a W em m → ∃ m', rB Q0 134 (cB Q0 (d + 1)) 0 [some (.ref 177)] m = some (none, m') ∧ YS tx N f a (dropB W) (em ++ nots W) m' ∧ FrV f m m' := by
  intro W
  induction W with
  | nil =>
    intro em m hY
    refine ⟨m, ?_, by simpa [dropB, nots] using hY, FrV.rf⟩
    rw [T_134_0, bX_e, hY.2.1.1]
    rfl
  | cons x W ih =>
    intro em m hY
    have hl := hY.2.2.2.2.1
    have ha := hY.1.2.2.1
    have ho := opn_in W
    have hxr : x = 33 ∨ x = 40 ∨ x = 38 ∨ x = 124 := hY.2.1.2.2.1
    have h28 : m.1 177 28 = J ((W.length : Int) + 1) := by
      have := hY.2.1.1
      simpa using this
    have h195 : m.1 195 W.length = J x := hY.2.1.2.1.1
    simp only [List.length_cons] at hl
    have n0 : ∀ {α : Type} (u v : α), bT (Q0.1 2 (J ((W.length : Int) + 1)) 0) u v = if (W.length : Int) + 1 ≤ 0 then u else v := fun u v => q2_J (b := 0) (by omega) (by omega) (by omega) (by omega) u v
    have n33 : ∀ {α : Type} (u v : α), bT (Q0.1 0 (J x) 33) u v = if x = 33 then u else v := fun u v => q0_J (b := 33) (by omega) (by omega) (by omega) (by omega) u v
    have hm1 : (J ((W.length : Int) + 1) - 1 : Int32) = J (W.length : Int) := by
      rw [show (1 : Int32) = J 1 from rfl, J_sub, show (W.length : Int) + 1 - 1 = W.length by omega]
    rw [T_134_0, bX_e, h28, n0, if_neg (by omega), bX_e, hm1, cI_J (n := 101) (show 0 ≤ (W.length : Int) by omega) (by omega) (by omega), bX_e, J_clamp (show 0 ≤ (W.length : Int) by omega) (by omega), Int.toNat_natCast, h195, n33]
    by_cases c : x = 33
    · subst c
      have hc0 : ((33 : Int) = 33 ∨ (33 : Int) = 40) := Or.inl rfl
      -- the ! goes to what was emitted, then off the stack
      obtain ⟨h1, ⟨h2, h3, h3'⟩, h4, ⟨h5, h6⟩, h7, h8⟩ := hY
      have e133 := S_133 (d := d) h5 (t := J (-33)) (by omega)
      generalize hm2 : ((up2 (up2 m.1 194 (100 * f + em.length).toNat (J (-33))) 177 27 (J (100 * f + em.length + 1)), m.2) : SM) = m2 at e133
      have k2 : ∀ k, k ≠ 194 → k ≠ 177 → m2.1 k = m.1 k := fun k z1 z2 => by rw [← hm2]; show up2 (up2 m.1 194 _ _) 177 27 _ k = _; rw [u2_ne _ _ z2, u2_ne _ _ z1]
      have i2 : ∀ i, i ≠ 27 → m2.1 177 i = m.1 177 i := fun i z => by rw [← hm2]; show up2 (up2 m.1 194 _ _) 177 27 _ 177 i = _; rw [u2_at, if_neg z, u2_ne _ _ (by omega)]
      generalize hm3 : ((up2 (up2 m2.1 177 28 (J (W.length : Int))) 177 29 (J (opn W)), m2.2) : SM) = m3
      have k3 : ∀ k, k ≠ 177 → m3.1 k = m2.1 k := fun k z => by rw [← hm3]; show up2 (up2 m2.1 177 28 _) 177 29 _ k = _; rw [u2_ne _ _ z, u2_ne _ _ z]
      have i3 : ∀ i, i ≠ 28 → i ≠ 29 → m3.1 177 i = m2.1 177 i := fun i z z2 => by rw [← hm3]; show up2 (up2 m2.1 177 28 _) 177 29 _ 177 i = _; rw [u2_at, if_neg z2, u2_at, if_neg z]
      have hF : FrR yK yI m m3 := ⟨fun k z z2 => by unfold yK at z; rw [k3 k z2, k2 k (by omega) z2], fun i z => by unfold yI at z; rw [i3 i (by omega) (by omega), i2 i (by omega)], by rw [← hm3, ← hm2]⟩
      have hF' : FrV f m m3 := ⟨hF, fun i hi => by
        rw [k3 194 (by omega), ← hm2]
        show up2 (up2 m.1 194 (100 * f + em.length).toNat (J (-33))) 177 27 (J (100 * f + em.length + 1)) 194 i = _
        rw [u2_ne _ _ (by omega), u2_at, if_neg (by omega)]⟩
      have hY3 : YS tx N f a W (em ++ [-1]) m3 := by
        refine ⟨h1.mv hF (by rw [i3 17 (by omega) (by omega), i2 17 (by omega)]; exact h1.2.1) h1.2.2.1 ⟨by unfold yK; omega, by unfold yK; omega⟩ (by unfold yI; omega), ⟨?_, h3.2.fr (by rw [k3 195 (by omega), k2 195 (by omega) (by omega)]), h3'.2⟩, ?_, ⟨?_, ?_⟩, ?_, h8⟩
        · rw [← hm3]; show up2 (up2 m2.1 177 28 (J (W.length : Int))) 177 29 (J (opn W)) 177 28 = _; rw [u2_at, if_neg (by omega), u2_at, if_pos rfl]
        · rw [← hm3]; show up2 (up2 m2.1 177 28 (J (W.length : Int))) 177 29 (J (opn W)) 177 29 = _; rw [u2_at, if_pos rfl]
        · rw [i3 27 (by omega) (by omega), ← hm2]
          show up2 (up2 m.1 194 (100 * f + em.length).toNat (J (-33))) 177 27 (J (100 * f + em.length + 1)) 177 27 = _
          rw [u2_at, if_pos rfl]
          simp only [List.length_append, List.length_singleton]
          congr 1
          omega
        · have k194 : m3.1 194 = up2 m.1 194 (100 * f + em.length).toNat (J (-33)) 194 := by
            rw [k3 194 (by omega), ← hm2]
            show up2 (up2 m.1 194 (100 * f + em.length).toNat (J (-33))) 177 27 (J (100 * f + em.length + 1)) 194 = _
            rw [u2_ne (j := 194) (k := 177) _ _ (by omega)]
          rw [SigAt.app]
          refine ⟨SigAt.fr4 (m := (up2 m.1 194 (100 * f + em.length).toNat (J (-33)), m.2)) k194 _ _ (SigAt.out em _ (by omega) (by omega) h6), ?_, trivial⟩
          rw [k194, u2_at, if_pos rfl]
          rfl
        · simp only [List.length_append, List.length_singleton]
          omega
      obtain ⟨m4, r1, r2, r3⟩ := ih (em ++ [-1]) m3 hY3
      rw [if_pos rfl, show cB Q0 (d + 1) 133 [.ref 177, .int (-33)] m = _ from e133, bV_e, bX_e, i2 28 (by omega), h28, hm1, bX_e]
      refine ⟨m4, ?_, ?_, hF'.tr r3⟩
      · rw [← r1, ← hm3]
        show rB Q0 134 (cB Q0 (d + 1)) 0 [some (.ref 177)] (up2 (up2 m2.1 177 28 (J (W.length : Int))) 177 29 (up2 m2.1 177 28 (J (W.length : Int)) 177 29 - J 1), m2.2) = _
        have h4' : opn (33 :: W) = 1 + opn W := by show (if (33 : Int) = 33 ∨ (33 : Int) = 40 then 1 else 0) + opn W = _; rw [if_pos hc0]
        rw [u2_at, if_neg (show ¬ (29 : Nat) = 28 by omega), i2 29 (by omega), h4, h4', J_sub, show 1 + opn W - 1 = opn W by omega]
      · show YS tx N f a (if (33 : Int) = 33 then dropB W else 33 :: W) (em ++ if (33 : Int) = 33 then -1 :: nots W else []) m4
        rw [if_pos rfl, if_pos rfl]
        rw [List.append_assoc] at r2
        exact r2
    · rw [if_neg c]
      refine ⟨m, rfl, ?_, FrV.rf⟩
      show YS tx N f a (if x = 33 then dropB W else x :: W) (em ++ if x = 33 then -1 :: nots W else []) m
      rw [if_neg c, if_neg c, List.append_nil]
      exact hY
end
