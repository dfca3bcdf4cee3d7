/-! TAPES, on both sides: cells -/
abbrev Tp : Type := (Int → Int × Int) × (Int → Int → Int64)
def TapC (P : Tp) (m : SM) : Prop := ∀ t : Int, 0 ≤ t → t < 6 → (m.1 (165 + 2 * t.toNat) 0 = J (P.1 t).1 ∧ m.1 (165 + 2 * t.toNat) 1 = J (P.1 t).2) ∧ ∀ i : Int, 0 ≤ i → i < 60 → m.2 (166 + 2 * t.toNat) i.toNat = P.2 t i
def TapN (P : Tp) (m : SM) : Prop := ∀ t : Int, 0 ≤ t → t < 6 → (m.1 228 t.toNat = J (P.1 t).1 ∧ m.1 229 t.toNat = J (P.1 t).2) ∧ ∀ i : Int, 0 ≤ i → i < 60 → m.2 230 (60 * t + i).toNat = P.2 t i
def TapI (P : Tp) : Prop := ∀ t : Int, 0 ≤ t → t < 6 → (-1 ≤ (P.1 t).1 ∧ (P.1 t).1 ≤ 4) ∧ (0 ≤ (P.1 t).2 ∧ (P.1 t).2 ≤ 60) ∧ ((P.1 t).1 = -1 → (P.1 t).2 = 0)
def FrT (m m' : SM) : Prop := (∀ k, ¬ (165 ≤ k ∧ k ≤ 176) → m'.1 k = m.1 k) ∧ ∀ k, ¬ (165 ≤ k ∧ k ≤ 176) → m'.2 k = m.2 k
def FrU (m m' : SM) : Prop := (∀ k, k ≠ 228 → k ≠ 229 → m'.1 k = m.1 k) ∧ ∀ k, k ≠ 230 → k ≠ 231 → m'.2 k = m.2 k
theorem FrT.rf {m : SM} : FrT m m := ⟨fun _ _ => rfl, fun _ _ => rfl⟩
theorem FrU.rf {m : SM} : FrU m m := ⟨fun _ _ _ => rfl, fun _ _ _ => rfl⟩
theorem FrT.tr {a b c : SM} (h1 : FrT a b) (h2 : FrT b c) : FrT a c := ⟨fun k h => (h2.1 k h).trans (h1.1 k h), fun k h => (h2.2 k h).trans (h1.2 k h)⟩
theorem FrU.tr {a b c : SM} (h1 : FrU a b) (h2 : FrU b c) : FrU a c := ⟨fun k h g => (h2.1 k h g).trans (h1.1 k h g), fun k h g => (h2.2 k h g).trans (h1.2 k h g)⟩
theorem tap_g {t : Int} (h0 : 0 ≤ t) (h1 : t < 6) : GRt 131 t.toNat = some (165 + 2 * t.toNat) ∧ SHt (165 + 2 * t.toNat) = .inl 5 ∧ GRt (165 + 2 * t.toNat) 2 = some (166 + 2 * t.toNat) ∧ SHt (166 + 2 * t.toNat) = .inr (2, 60) := by
  rcases (show t = 0 ∨ t = 1 ∨ t = 2 ∨ t = 3 ∨ t = 4 ∨ t = 5 by omega) with rfl | rfl | rfl | rfl | rfl | rfl <;> exact ⟨rfl, rfl, rfl, rfl⟩
theorem c2_J {α : Type} {a : Int} {n : Nat} (h1 : 0 ≤ a) (h2 : a < n) (h3 : n ≤ 1000000) (x y : α) : bT (ok1 Q0 2 (.inr (2, n)) (J a)) x y = x := c1_J h1 h2 h3 x y
theorem l2_at {α : Type} (f : Nat → Nat → α) (k i j : Nat) (v : α) : up2 f k i v k j = if j = i then v else f k j := u2_at f k i j v
/-- what is kept of a long by a tape of such a sort -/
def fitV (s : Int) (v : Int64) : Int64 := if s = 0 then Int32.toInt64 ((Int32.toInt8 (Int64.toInt32 v)).toInt32) else if s = 1 then Int32.toInt64 ((Int32.toInt16 (Int64.toInt32 v)).toInt32) else if s = 2 then Int32.toInt64 (Int64.toInt32 v) else if s = 4 then bT (Q0.1 0 (Q0.2.2.1 v 0) 0) 0 1 else v
def tapeA (t s x : Int) : Int := if 0 ≤ t ∧ t ≤ 5 then (if s = -1 then 1 else if 0 ≤ s ∧ s ≤ 4 then (if x ≤ 60 then (if 0 ≤ x then 1 else -14) else -2) else -2) else -1
def putT (P : Tp) (t s x : Int) : Tp := ((fun u => if u = t then (s, x) else P.1 u), fun u i => if u = t then 0 else P.2 u i)
def tapeS (P : Tp) (t s x : Int) : Tp := if 0 ≤ t ∧ t ≤ 5 then (if s = -1 then putT P t (-1) 0 else if 0 ≤ s ∧ s ≤ 4 then (if x ≤ 60 then (if 0 ≤ x then putT P t s x else P) else P) else P) else P
def itemA (P : Tp) (t i : Int) : Int := if 0 ≤ t ∧ t ≤ 5 then (if (P.1 t).1 = -1 then -11 else if 0 ≤ i ∧ i ≤ (P.1 t).2 - 1 then 1 else -13) else -1
def itemS (P : Tp) (t i : Int) (v : Int64) : Tp := if 0 ≤ t ∧ t ≤ 5 then (if (P.1 t).1 = -1 then P else if 0 ≤ i ∧ i ≤ (P.1 t).2 - 1 then (P.1, fun u j => if u = t ∧ j = i then fitV (P.1 t).1 v else P.2 u j) else P) else P
def readA (P : Tp) (t i : Int) : Int64 := if 0 ≤ t ∧ t ≤ 5 then (if 0 ≤ i ∧ i ≤ (P.1 t).2 - 1 then P.2 t i else -9223372036854775808) else -9223372036854775808
def judF (V : Int → Int64) (A : Shp) (len i : Int) : Nat → Int → Int
  | 0, _ => -5
  | k + 1, c => if i < 0 then 100 + c else if i < len - c then bT (Q0.1 0 (Q0.2.2.1 (V (i + c)) (Int32.toInt64 (J (A.1 3 c)))) 0) (judF V A len i k (c + 1)) c else 100 + c
def judA (P : Tp) (A : Shp) (t i : Int) : Int := if 0 ≤ t ∧ t ≤ 5 then (if (P.1 t).1 = -1 ∨ (P.1 t).1 = 2 then judF (P.2 t) A (P.1 t).2 i 8 0 else -12) else -1
section
variable {m : SM} {d : Nat} {P : Tp} {A : Shp}
theorem L_28 {t : Int} (h0 : 0 ≤ t) (h1 : t < 6) {cf : Nat → List Value → SM → Rs SM} : ∀ (n : Nat) (c : Int) (m : SM), 0 ≤ c → c + n = 60 → (∀ i : Int, 0 ≤ i → i < c → m.2 (166 + 2 * t.toNat) i.toNat = 0) → ∃ m', rB Q0 28 cf 12 [some (.ref (165 + 2 * t.toNat)), none, none, some (.int (J c))] m = some (none, m') ∧ (∀ i : Int, 0 ≤ i → i < 60 → m'.2 (166 + 2 * t.toNat) i.toNat = 0) ∧ m'.1 = m.1 ∧ ∀ k, k ≠ 166 + 2 * t.toNat → m'.2 k = m.2 k := by
  obtain ⟨-, f1, f2, f3⟩ := tap_g h0 h1
  intro n
  induction n with
  | zero =>
    intro c m g0 g1 h
    obtain rfl : c = 60 := by omega
    refine ⟨m, ?_, h, rfl, fun _ _ => rfl⟩
    rw [T_28_12]
    simp (disch := omega) only [kk, lits, q0_J, q1_J, q2_J, cI_J, cT_J, cB_J, cZ_J, cS_J, c1_J, cA_J, J_clamp, u2_at, reduceIte]
    rw [if_pos (by omega)]
  | succ n ih =>
    intro c m g0 g1 h
    obtain ⟨m', q1, q2, q3, q4⟩ := ih (c + 1) (m.1, up2 m.2 (166 + 2 * t.toNat) c.toNat 0) (by omega) (by omega) (fun i z0 z1 => by
      show up2 m.2 (166 + 2 * t.toNat) c.toNat 0 (166 + 2 * t.toNat) i.toNat = 0
      rw [u2_at]
      by_cases e : i = c
      · rw [if_pos (by omega)]
      · rw [if_neg (by omega)]; exact h i z0 (by omega))
    refine ⟨m', ?_, q2, q3, fun k hk => ?_⟩
    · rw [T_28_12, show Q0.1 2 60 (J c) = Q0.1 2 (J 60) (J c) from rfl, q2_J (by omega) (by omega) (by omega) (by omega), if_neg (by omega), f1, cO_J, f2, bO_e, f3, c1_J (n := 60) g0 (by omega) (by omega), bX_e, J_clamp g0 (by omega), show J c + 1 = J (c + 1) from J_add c 1]
      exact q1
    · rw [q4 k hk]
      exact u2_ne _ _ hk
theorem S_28 {t s x : Int} (h0 : 0 ≤ t) (h1 : t < 6) (hT : TapC P m) : ∃ m', cB Q0 (d + 1) 28 [.ref (165 + 2 * t.toNat), .int (J s), .int (J x)] m = some (none, m') ∧ TapC (putT P t s x) m' ∧ FrT m m' := by
  obtain ⟨-, f1, f2, f3⟩ := tap_g h0 h1
  obtain ⟨m', q1, q2, q3, q4⟩ := L_28 h0 h1 (cf := cB Q0 d) 60 0 (up2 (up2 m.1 (165 + 2 * t.toNat) 0 (J s)) (165 + 2 * t.toNat) 1 (J x), m.2) (by omega) (by omega) (fun i z0 z1 => by omega)
  refine ⟨m', ?_, fun u g0 g1 => ⟨⟨?_, ?_⟩, fun i z0 z1 => ?_⟩, fun k hk => ?_, fun k hk => ?_⟩
  · rw [cB_eq]
    show rB Q0 28 (cB Q0 d) 0 [some (.ref (165 + 2 * t.toNat)), some (.int (J s)), some (.int (J x))] m = _
    rw [T_28_0, f1, cO_J, bX_e, cO_J, bX_e]
    exact q1
  · rw [q3]
    show up2 (up2 m.1 (165 + 2 * t.toNat) 0 (J s)) (165 + 2 * t.toNat) 1 (J x) (165 + 2 * u.toNat) 0 = J (if u = t then (s, x) else P.1 u).1
    by_cases e : u = t
    · subst e
      rw [u2_at, if_neg (by omega), u2_at, if_pos rfl, if_pos rfl]
    · rw [u2_ne _ _ (by omega), u2_ne _ _ (by omega), if_neg e]
      exact (hT u g0 g1).1.1
  · rw [q3]
    show up2 (up2 m.1 (165 + 2 * t.toNat) 0 (J s)) (165 + 2 * t.toNat) 1 (J x) (165 + 2 * u.toNat) 1 = J (if u = t then (s, x) else P.1 u).2
    by_cases e : u = t
    · subst e
      rw [u2_at, if_pos rfl, if_pos rfl]
    · rw [u2_ne _ _ (by omega), u2_ne _ _ (by omega), if_neg e]
      exact (hT u g0 g1).1.2
  · show m'.2 (166 + 2 * u.toNat) i.toNat = if u = t then 0 else P.2 u i
    by_cases e : u = t
    · subst e
      rw [if_pos rfl]
      exact q2 i z0 z1
    · rw [if_neg e, q4 _ (by omega)]
      exact (hT u g0 g1).2 i z0 z1
  · rw [q3]
    show up2 (up2 m.1 (165 + 2 * t.toNat) 0 (J s)) (165 + 2 * t.toNat) 1 (J x) k = _
    rw [u2_ne _ _ (by omega), u2_ne _ _ (by omega)]
  · rw [q4 k (by omega)]
theorem S_29 {t : Int} (h0 : 0 ≤ t) (h1 : t < 6) (hT : TapC P m) (hI : TapI P) {v : Int64} : cB Q0 (d + 2) 29 [.ref (165 + 2 * t.toNat), .long v] m = some (some (.long (fitV (P.1 t).1 v)), m) := by
  obtain ⟨-, f1, -⟩ := tap_g h0 h1
  have hs := (hI t h0 h1).1
  have e0 : m.1 (165 + 2 * t.toNat) 0 = J (P.1 t).1 := (hT t h0 h1).1.1
  have nk : ∀ (k : Int) {α : Type} (x y : α), 0 ≤ k → k ≤ 4 → bT (Q0.1 0 (J (P.1 t).1) (J k)) x y = if (P.1 t).1 = k then x else y := fun k α x y z0 z1 => q0_J (by omega) (by omega) (by omega) (by omega) x y
  rw [cB_eq]
  show rB Q0 29 (cB Q0 (d + 1)) 0 [some (.ref (165 + 2 * t.toNat)), some (.long v), none] m = _
  rw [T_29_0, f1, cO_J, e0, bX_e, show (0 : Int32) = J 0 from rfl, show (1 : Int32) = J 1 from rfl, show (2 : Int32) = J 2 from rfl, show (4 : Int32) = J 4 from rfl, nk 0 _ _ (by omega) (by omega), nk 1 _ _ (by omega) (by omega), nk 2 _ _ (by omega) (by omega), nk 4 _ _ (by omega) (by omega)]
  unfold fitV
  by_cases c0 : (P.1 t).1 = 0
  · rw [if_pos c0, if_pos c0]
  · rw [if_neg c0, if_neg c0]
    by_cases c1 : (P.1 t).1 = 1
    · rw [if_pos c1, if_pos c1]
    · rw [if_neg c1, if_neg c1]
      by_cases c2 : (P.1 t).1 = 2
      · rw [if_pos c2, if_pos c2]
      · rw [if_neg c2, if_neg c2]
        by_cases c4 : (P.1 t).1 = 4
        · rw [if_pos c4, if_pos c4]
          rw [show cB Q0 (d + 1) 86 [.int (J 0)] m = _ from S_86J (Or.inl rfl), bI_e, show cB Q0 (d + 1) 86 [.int (J 1)] m = _ from S_86J (Or.inr rfl), bI_e]
          show bT (Q0.1 0 (Q0.2.2.1 v 0) 0) _ _ = some (some (Value.long (bT (Q0.1 0 (Q0.2.2.1 v 0) 0) 0 1)), m)
          cases Q0.1 0 (Q0.2.2.1 v 0) 0 <;> rfl
        · rw [if_neg c4, if_neg c4]
theorem S_81 (hT : TapC P m) {t s x : Int} (h1 : -2147483648 ≤ t ∧ t ≤ 2147483647) (h2 : -2147483648 ≤ s ∧ s ≤ 2147483647) (h3 : -2147483648 ≤ x ∧ x ≤ 2147483647) : ∃ m', cB Q0 (d + 3) 81 [.ref 0, .int (J t), .int (J s), .int (J x)] m = some (some (.int (J (tapeA t s x))), m') ∧ TapC (tapeS P t s x) m' ∧ FrT m m' := by
  have e1 := S_90 (m := m) (d := d) h1.1 h1.2
  have e2 := S_85 (m := m) (d := d + 1) h2.1 h2.2 (show -2147483648 ≤ (0 : Int) by omega) (by omega) (show -2147483648 ≤ (4 : Int) by omega) (by omega)
  have nm : ∀ {α : Type} (x y : α), bT (Q0.1 0 (J s) (-1)) x y = if s = -1 then x else y := fun x y => q0_J (b := -1) (by omega) (by omega) (by omega) (by omega) x y
  have l60 : ∀ {α : Type} (u v : α), bT (Q0.1 2 (J x) 60) u v = if x ≤ 60 then u else v := fun u v => q2_J (b := 60) (by omega) (by omega) (by omega) (by omega) u v
  have l0 : ∀ {α : Type} (u v : α), bT (Q0.1 2 0 (J x)) u v = if 0 ≤ x then u else v := fun u v => q2_J (a := 0) (by omega) (by omega) (by omega) (by omega) u v
  rw [cB_eq]
  show ∃ m', rB Q0 81 (cB Q0 (d + 2)) 0 [some (.ref 0), some (.int (J t)), some (.int (J s)), some (.int (J x))] m = _ ∧ _
  rw [T_81_0, e1, bI_e, nz_bi]
  unfold tapeA tapeS
  by_cases c1 : 0 ≤ t ∧ t ≤ 5
  · obtain ⟨g1, f1, -⟩ := tap_g c1.1 (show t < 6 by omega)
    rw [if_pos c1, if_pos c1, if_pos c1, nm]
    by_cases c2 : s = -1
    · obtain ⟨m', q1, q2, q3⟩ := S_28 (d := d + 1) (s := -1) (x := 0) c1.1 (show t < 6 by omega) hT
      rw [if_pos c2, if_pos c2, if_pos c2, cA_J (n := 6) (by omega) (by omega) c1.1 (show t < 6 by omega) (by omega), J_clamp c1.1 (by omega), g1, bO_e, f1, cO_J, show cB Q0 (d + 2) 28 [.ref (165 + 2 * t.toNat), .int (-1), .int 0] m = _ from q1, bV_e]
      exact ⟨m', rfl, q2, q3⟩
    · rw [if_neg c2, if_neg c2, if_neg c2, show cB Q0 (d + 2) 85 [.int (J s), .int 0, .int 4] m = _ from e2, bI_e, nz_bi]
      by_cases c3 : 0 ≤ s ∧ s ≤ 4
      · rw [if_pos c3, if_pos c3, if_pos c3, l60]
        by_cases c4 : x ≤ 60
        · rw [if_pos c4, if_pos c4, if_pos c4, l0]
          by_cases c5 : 0 ≤ x
          · obtain ⟨m', q1, q2, q3⟩ := S_28 (d := d + 1) (s := s) (x := x) c1.1 (show t < 6 by omega) hT
            rw [if_pos c5, if_pos c5, if_pos c5, cA_J (n := 6) (by omega) (by omega) c1.1 (show t < 6 by omega) (by omega), J_clamp c1.1 (by omega), g1, bO_e, f1, cO_J, show cB Q0 (d + 2) 28 [.ref (165 + 2 * t.toNat), .int (J s), .int (J x)] m = _ from q1, bV_e]
            exact ⟨m', rfl, q2, q3⟩
          · rw [if_neg c5, if_neg c5, if_neg c5]
            exact ⟨m, rfl, hT, FrT.rf⟩
        · rw [if_neg c4, if_neg c4, if_neg c4]
          exact ⟨m, rfl, hT, FrT.rf⟩
      · rw [if_neg c3, if_neg c3, if_neg c3]
        exact ⟨m, rfl, hT, FrT.rf⟩
  · rw [if_neg c1, if_neg c1, if_neg c1]
    exact ⟨m, rfl, hT, FrT.rf⟩
theorem S_82 (hT : TapC P m) (hI : TapI P) {t i : Int} {v : Int64} (h1 : -2147483648 ≤ t ∧ t ≤ 2147483647) (h2 : -2147483648 ≤ i ∧ i ≤ 2147483647) : ∃ m', cB Q0 (d + 3) 82 [.ref 0, .int (J t), .int (J i), .long v] m = some (some (.int (J (itemA P t i))), m') ∧ TapC (itemS P t i v) m' ∧ FrT m m' := by
  have e1 := S_90 (m := m) (d := d) h1.1 h1.2
  rw [cB_eq]
  show ∃ m', rB Q0 82 (cB Q0 (d + 2)) 0 [some (.ref 0), some (.int (J t)), some (.int (J i)), some (.long v), none] m = _ ∧ _
  rw [T_82_0, e1, bI_e, nz_bi]
  unfold itemA itemS
  by_cases c1 : 0 ≤ t ∧ t ≤ 5
  · obtain ⟨g1, f1, f2, f3⟩ := tap_g c1.1 (show t < 6 by omega)
    obtain ⟨⟨r0, r1⟩, r2⟩ := hT t c1.1 (by omega)
    have hi := hI t c1.1 (by omega)
    have nm : ∀ {α : Type} (x y : α), bT (Q0.1 0 (J (P.1 t).1) (-1)) x y = if (P.1 t).1 = -1 then x else y := fun x y => q0_J (b := -1) (by omega) (by omega) (by omega) (by omega) x y
    rw [if_pos c1, if_pos c1, if_pos c1, cA_J (n := 6) (by omega) (by omega) c1.1 (show t < 6 by omega) (by omega), J_clamp c1.1 (by omega), g1, bO_e, f1, cO_J, bX_e, r0, nm]
    by_cases c2 : (P.1 t).1 = -1
    · rw [if_pos c2, if_pos c2, if_pos c2]
      exact ⟨m, rfl, hT, FrT.rf⟩
    · have e2 := S_85 (m := m) (d := d + 1) h2.1 h2.2 (show -2147483648 ≤ (0 : Int) by omega) (by omega) (show -2147483648 ≤ (P.1 t).2 - 1 by omega) (by omega)
      rw [if_neg c2, if_neg c2, if_neg c2, cO_J, bX_e, r1, show J (P.1 t).2 - 1 = J ((P.1 t).2 - 1) from J_sub _ 1, show cB Q0 (d + 2) 85 [.int (J i), .int 0, .int (J ((P.1 t).2 - 1))] m = _ from e2, bI_e, nz_bi]
      by_cases c3 : 0 ≤ i ∧ i ≤ (P.1 t).2 - 1
      · rw [if_pos c3, if_pos c3, if_pos c3, cO_J, f2, bO_e, cO_J, S_29 (d := d) c1.1 (show t < 6 by omega) hT hI, bL_e, f3, c1_J (n := 60) c3.1 (show i < 60 by omega) (by omega), bX_e, J_clamp c3.1 (by omega)]
        refine ⟨_, rfl, fun u g0 g9 => ⟨(hT u g0 g9).1, fun j z0 z1 => ?_⟩, fun k hk => rfl, fun k hk => ?_⟩
        · show up2 m.2 (166 + 2 * t.toNat) i.toNat (fitV (P.1 t).1 v) (166 + 2 * u.toNat) j.toNat = if u = t ∧ j = i then fitV (P.1 t).1 v else P.2 u j
          by_cases e : u = t
          · subst e
            rw [u2_at]
            by_cases e2 : j = i
            · rw [if_pos (by omega), if_pos ⟨rfl, e2⟩]
            · rw [if_neg (by omega), if_neg (fun z => e2 z.2)]
              exact r2 j z0 z1
          · rw [u2_ne _ _ (by omega), if_neg (fun z => e z.1)]
            exact (hT u g0 g9).2 j z0 z1
        · exact u2_ne _ _ (by omega)
      · rw [if_neg c3, if_neg c3, if_neg c3]
        exact ⟨m, rfl, hT, FrT.rf⟩
  · rw [if_neg c1, if_neg c1, if_neg c1]
    exact ⟨m, rfl, hT, FrT.rf⟩
theorem S_83 (hT : TapC P m) (hI : TapI P) {t i : Int} (h1 : -2147483648 ≤ t ∧ t ≤ 2147483647) (h2 : -2147483648 ≤ i ∧ i ≤ 2147483647) : cB Q0 (d + 3) 83 [.ref 0, .int (J t), .int (J i)] m = some (some (.long (readA P t i)), m) := by
  have e1 := S_90 (m := m) (d := d) h1.1 h1.2
  rw [cB_eq]
  show rB Q0 83 (cB Q0 (d + 2)) 0 [some (.ref 0), some (.int (J t)), some (.int (J i))] m = _
  rw [T_83_0, e1, bI_e, nz_bi]
  unfold readA
  by_cases c1 : 0 ≤ t ∧ t ≤ 5
  · obtain ⟨g1, f1, f2, f3⟩ := tap_g c1.1 (show t < 6 by omega)
    obtain ⟨⟨r0, r1⟩, r2⟩ := hT t c1.1 (by omega)
    have hi := hI t c1.1 (by omega)
    have e2 := S_85 (m := m) (d := d + 1) h2.1 h2.2 (show -2147483648 ≤ (0 : Int) by omega) (by omega) (show -2147483648 ≤ (P.1 t).2 - 1 by omega) (by omega)
    rw [if_pos c1, if_pos c1, cA_J (n := 6) (by omega) (by omega) c1.1 (show t < 6 by omega) (by omega), J_clamp c1.1 (by omega), g1, bO_e, f1, cO_J, bX_e, r1, show J (P.1 t).2 - 1 = J ((P.1 t).2 - 1) from J_sub _ 1, show cB Q0 (d + 2) 85 [.int (J i), .int 0, .int (J ((P.1 t).2 - 1))] m = _ from e2, bI_e, nz_bi]
    by_cases c3 : 0 ≤ i ∧ i ≤ (P.1 t).2 - 1
    · rw [if_pos c3, if_pos c3, cA_J (n := 6) (by omega) (by omega) c1.1 (show t < 6 by omega) (by omega), bO_e, f1, cO_J, f2, bO_e, f3, c1_J (n := 60) c3.1 (show i < 60 by omega) (by omega), bX_e, J_clamp c3.1 (by omega), r2 i c3.1 (by omega)]
    · rw [if_neg c3, if_neg c3]
  · rw [if_neg c1, if_neg c1]
theorem L_74 (hR : ShR 1 A m) (hI : TapI P) {t i : Int} (c1 : 0 ≤ t ∧ t ≤ 5) (hT : TapC P m) (h2 : -2147483648 ≤ i ∧ i ≤ 2147483647) {cf : Nat → List Value → SM → Rs SM} : ∀ (k : Nat) (c : Int), 0 ≤ c → c + k = 8 → rB Q0 74 cf 38 [some (.ref 0), none, some (.int (J i)), some (.ref (165 + 2 * t.toNat)), some (.int (J c))] m = some (some (.int (J (judF (P.2 t) A (P.1 t).2 i k c))), m) := by
  obtain ⟨g1, f1, f2, f3⟩ := tap_g c1.1 (show t < 6 by omega)
  obtain ⟨⟨r0, r1⟩, r2⟩ := hT t c1.1 (by omega)
  have hi := hI t c1.1 (by omega)
  intro k
  induction k with
  | zero =>
    intro c h0 h1
    obtain rfl : c = 8 := by omega
    rw [T_74_38]
    rfl
  | succ k ih =>
    intro c h0 h1
    have s3 : m.1 4 c.toNat = J (A.1 3 c) := hR.2.1 3 (by omega) (by omega) c h0 (by omega)
    have n8 : ∀ {α : Type} (x y : α), bT (Q0.1 2 8 (J c)) x y = if 8 ≤ c then x else y := fun x y => q2_J (a := 8) (by omega) (by omega) (by omega) (by omega) x y
    have n0 : ∀ {α : Type} (x y : α), bT (Q0.1 1 (J i) 0) x y = if i < 0 then x else y := fun x y => q1_J (b := 0) (by omega) (by omega) (by omega) (by omega) x y
    rw [T_74_38, n8, if_neg (show ¬ 8 ≤ c by omega), n0]
    have ej : judF (P.2 t) A (P.1 t).2 i (k + 1) c = if i < 0 then 100 + c else if i < (P.1 t).2 - c then bT (Q0.1 0 (Q0.2.2.1 (P.2 t (i + c)) (Int32.toInt64 (J (A.1 3 c)))) 0) (judF (P.2 t) A (P.1 t).2 i k (c + 1)) c else 100 + c := rfl
    rw [ej]
    by_cases c2 : i < 0
    · rw [if_pos c2, if_pos c2, show (100 : Int32) + J c = J (100 + c) from J_add 100 c]
    · rw [if_neg c2, if_neg c2, f1, cO_J, bX_e, r1, J_sub, q1_J (by omega) (by omega) (by omega) (by omega)]
      by_cases c3 : i < (P.1 t).2 - c
      · rw [if_pos c3, if_pos c3, cO_J, f2, bO_e, f3, J_add, c1_J (n := 60) (show 0 ≤ i + c by omega) (show i + c < 60 by omega) (by omega), bX_e, J_clamp (a := i + c) (by omega) (by omega), r2 (i + c) (by omega) (by omega), cI_J (n := 8) h0 (show c < 8 by omega) (by omega), bX_e, J_clamp h0 (by omega), s3, show J c + 1 = J (c + 1) from J_add c 1, ih (c + 1) (by omega) (by omega)]
        cases Q0.1 0 (Q0.2.2.1 (P.2 t (i + c)) (Int32.toInt64 (J (A.1 3 c)))) 0 <;> rfl
      · rw [if_neg c3, if_neg c3, show (100 : Int32) + J c = J (100 + c) from J_add 100 c]
theorem S_74 (hR : ShR 1 A m) (hT : TapC P m) (hI : TapI P) {t i : Int} (h1 : -2147483648 ≤ t ∧ t ≤ 2147483647) (h2 : -2147483648 ≤ i ∧ i ≤ 2147483647) : cB Q0 (d + 3) 74 [.ref 0, .int (J t), .int (J i)] m = some (some (.int (J (judA P A t i))), m) := by
  have e1 := S_90 (m := m) (d := d) h1.1 h1.2
  rw [cB_eq]
  show rB Q0 74 (cB Q0 (d + 2)) 0 [some (.ref 0), some (.int (J t)), some (.int (J i))] m = _
  rw [T_74_0, e1, bI_e, nz_bi]
  unfold judA
  by_cases c1 : 0 ≤ t ∧ t ≤ 5
  · obtain ⟨g1, f1, f2, f3⟩ := tap_g c1.1 (show t < 6 by omega)
    obtain ⟨⟨r0, r1⟩, r2⟩ := hT t c1.1 (by omega)
    have hi := hI t c1.1 (by omega)
    have nm : ∀ {α : Type} (x y : α), bT (Q0.1 0 (J (P.1 t).1) (-1)) x y = if (P.1 t).1 = -1 then x else y := fun x y => q0_J (b := -1) (by omega) (by omega) (by omega) (by omega) x y
    have n2 : ∀ {α : Type} (x y : α), bT (Q0.1 0 (J (P.1 t).1) 2) x y = if (P.1 t).1 = 2 then x else y := fun x y => q0_J (b := 2) (by omega) (by omega) (by omega) (by omega) x y
    have key := L_74 hR hI c1 hT h2 (cf := cB Q0 (d + 2)) 8 0 (by omega) (by omega)
    rw [if_pos c1, if_pos c1, cA_J (n := 6) (by omega) (by omega) c1.1 (show t < 6 by omega) (by omega), J_clamp c1.1 (by omega), g1, bO_e, f1, cO_J, bX_e, r0, nm, cO_J, bX_e, n2]
    by_cases c2 : (P.1 t).1 = -1
    · rw [if_pos c2, if_pos (Or.inl c2)]
      exact key
    · rw [if_neg c2]
      by_cases c3 : (P.1 t).1 = 2
      · rw [if_pos c3, if_pos (Or.inr c3)]
        exact key
      · rw [if_neg c3, if_neg (fun z => z.elim c2 c3)]
        rfl
  · rw [if_neg c1, if_neg c1]
    rfl
end
