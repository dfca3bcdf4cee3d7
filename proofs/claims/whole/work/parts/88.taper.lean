/-! TAPES: asked of the reference -/
section
variable {m : SM} {d : Nat} {P : Tp} {A : Shp} {sh : Int}
theorem L_201 {t : Int} (h0 : 0 ≤ t) (h1 : t < 6) {cf : Nat → List Value → SM → Rs SM} : ∀ (n : Nat) (c : Int) (m : SM), 0 ≤ c → c + n = 60 → (∀ i : Int, 0 ≤ i → i < c → m.2 230 (60 * t + i).toNat = 0) → ∃ m', rB Q0 201 cf 69 [some (.ref 177), some (.int (J t)), none, none, some (.int (J c))] m = some (some (.int (J 1)), m') ∧ (∀ i : Int, 0 ≤ i → i < 60 → m'.2 230 (60 * t + i).toNat = 0) ∧ (∀ i : Int, 0 ≤ i → (i < 60 * t ∨ 60 * t + 60 ≤ i) → m'.2 230 i.toNat = m.2 230 i.toNat) ∧ m'.1 = m.1 ∧ ∀ k, k ≠ 230 → m'.2 k = m.2 k := by
  intro n
  induction n with
  | zero =>
    intro c m g0 g1 h
    obtain rfl : c = 60 := by omega
    refine ⟨m, ?_, h, fun _ _ _ => rfl, rfl, fun _ _ => rfl⟩
    rw [T_201_69, show Q0.1 2 60 (J 60) = Q0.1 2 (J 60) (J 60) from rfl, q2_J (by omega) (by omega) (by omega) (by omega), if_pos (by omega)]
    rfl
  | succ n ih =>
    intro c m g0 g1 h
    obtain ⟨m', q1, q2, q5, q3, q4⟩ := ih (c + 1) (m.1, up2 m.2 230 (60 * t + c).toNat 0) (by omega) (by omega) (fun i z0 z1 => by
      show up2 m.2 230 (60 * t + c).toNat 0 230 (60 * t + i).toNat = 0
      rw [u2_at]
      by_cases e : i = c
      · rw [if_pos (by omega)]
      · rw [if_neg (by omega)]; exact h i z0 (by omega))
    refine ⟨m', ?_, q2, fun i z0 z1 => ?_, q3, fun k hk => ?_⟩
    · rw [T_201_69, show Q0.1 2 60 (J c) = Q0.1 2 (J 60) (J c) from rfl, q2_J (by omega) (by omega) (by omega) (by omega), if_neg (by omega), show (60 : Int32) * J t + J c = J (60 * t + c) by rw [show (60 : Int32) = J 60 from rfl, J_mul, J_add], c1_J (n := 360) (by omega) (show 60 * t + c < 360 by omega) (by omega), bX_e, J_clamp (by omega) (by omega), show J c + 1 = J (c + 1) from J_add c 1]
      exact q1
    · rw [q5 i z0 z1]
      show up2 m.2 230 (60 * t + c).toNat 0 230 i.toNat = _
      rw [u2_at, if_neg (by omega)]
    · rw [q4 k hk]
      exact u2_ne _ _ hk
theorem S_201 (hT : TapN P m) {t s x : Int} (h1 : -2147483648 ≤ t ∧ t ≤ 2147483647) (h2 : -2147483648 ≤ s ∧ s ≤ 2147483647) (h3 : -2147483648 ≤ x ∧ x ≤ 2147483647) : ∃ m', cB Q0 (d + 3) 201 [.ref 177, .int (J t), .int (J s), .int (J x)] m = some (some (.int (J (tapeA t s x))), m') ∧ TapN (tapeS P t s x) m' ∧ FrU m m' := by
  have e1 := S_200 (m := m) (d := d) h1.1 h1.2
  have e2 := S_109 (m := m) (d := d + 1) h2.1 h2.2 (show -2147483648 ≤ (-1 : Int) by omega) (by omega) (show -2147483648 ≤ (4 : Int) by omega) (by omega)
  have s0 : ∀ {α : Type} (u v : α), bT (Q0.1 1 (J s) 0) u v = if s < 0 then u else v := fun u v => q1_J (b := 0) (by omega) (by omega) (by omega) (by omega) u v
  have s1 : ∀ {α : Type} (u v : α), bT (Q0.1 2 0 (J s)) u v = if 0 ≤ s then u else v := fun u v => q2_J (a := 0) (by omega) (by omega) (by omega) (by omega) u v
  have l60 : ∀ {α : Type} (u v : α), bT (Q0.1 2 (J x) 60) u v = if x ≤ 60 then u else v := fun u v => q2_J (b := 60) (by omega) (by omega) (by omega) (by omega) u v
  have l0 : ∀ {α : Type} (u v : α), bT (Q0.1 2 0 (J x)) u v = if 0 ≤ x then u else v := fun u v => q2_J (a := 0) (by omega) (by omega) (by omega) (by omega) u v
  have put : 0 ≤ t ∧ t ≤ 5 → ∀ a b : Int, ∃ m', rB Q0 201 (cB Q0 (d + 2)) 69 [some (.ref 177), some (.int (J t)), none, none, some (.int (J 0))] (up2 (up2 m.1 228 t.toNat (J a)) 229 t.toNat (J b), m.2) = some (some (.int (J 1)), m') ∧ TapN (putT P t a b) m' ∧ FrU m m' := fun c1 a b => by
    obtain ⟨m', q1, q2, q5, q3, q4⟩ := L_201 (cf := cB Q0 (d + 2)) c1.1 (show t < 6 by omega) 60 0 (up2 (up2 m.1 228 t.toNat (J a)) 229 t.toNat (J b), m.2) (by omega) (by omega) (fun i z0 z1 => by omega)
    refine ⟨m', q1, fun u g0 g1 => ⟨⟨?_, ?_⟩, fun i z0 z1 => ?_⟩, fun k hk hk2 => ?_, fun k hk hk2 => q4 k hk⟩
    · rw [q3]
      show up2 (up2 m.1 228 t.toNat (J a)) 229 t.toNat (J b) 228 u.toNat = J (if u = t then (a, b) else P.1 u).1
      rw [u2_ne _ _ (by omega), u2_at]
      by_cases e : u = t
      · rw [if_pos (by omega), if_pos e]
      · rw [if_neg (by omega), if_neg e]; exact (hT u g0 g1).1.1
    · rw [q3]
      show up2 (up2 m.1 228 t.toNat (J a)) 229 t.toNat (J b) 229 u.toNat = J (if u = t then (a, b) else P.1 u).2
      rw [u2_at]
      by_cases e : u = t
      · rw [if_pos (by omega), if_pos e]
      · rw [if_neg (by omega), if_neg e, u2_ne _ _ (by omega)]; exact (hT u g0 g1).1.2
    · show m'.2 230 (60 * u + i).toNat = if u = t then 0 else P.2 u i
      by_cases e : u = t
      · rw [if_pos e, e]; exact q2 i z0 z1
      · rw [if_neg e, q5 (60 * u + i) (by omega) (by omega)]; exact (hT u g0 g1).2 i z0 z1
    · rw [q3]
      show up2 (up2 m.1 228 t.toNat (J a)) 229 t.toNat (J b) k = _
      rw [u2_ne _ _ hk2, u2_ne _ _ hk]
  rw [cB_eq]
  show ∃ m', rB Q0 201 (cB Q0 (d + 2)) 0 [some (.ref 177), some (.int (J t)), some (.int (J s)), some (.int (J x))] m = _ ∧ _
  rw [T_201_0, e1, bI_e, nz_bi]
  unfold tapeA tapeS
  by_cases c1 : 0 ≤ t ∧ t ≤ 5
  · have o1 : ∀ {α : Type} (u v : α), bT (ok1 Q0 0 (.inr (0, 6)) (J t)) u v = u := fun u v => c1_J (n := 6) c1.1 (show t < 6 by omega) (by omega) u v
    have o2 : (J t).toNatClampNeg = t.toNat := J_clamp c1.1 (by omega)
    rw [if_pos c1, if_pos c1, if_pos c1, show cB Q0 (d + 2) 109 [.ref 177, .int (J s), .int (-1), .int 4] m = _ from e2, bI_e, nz_bi]
    by_cases c2 : s = -1
    · rw [if_pos (show -1 ≤ s ∧ s ≤ 4 by omega), if_pos c2, if_pos c2, s0, if_pos (show s < 0 by omega), s0, if_pos (show s < 0 by omega), o1, bX_e, s1, if_neg (show ¬ 0 ≤ s by omega), o1, bX_e, o2, c2]
      exact put c1 (-1) 0
    · by_cases c3 : 0 ≤ s ∧ s ≤ 4
      · rw [if_pos (show -1 ≤ s ∧ s ≤ 4 by omega), if_neg c2, if_neg c2, if_pos c3, if_pos c3, s0, if_neg (show ¬ s < 0 by omega), l60]
        by_cases c4 : x ≤ 60
        · rw [if_pos c4, if_pos c4, if_pos c4, s0, if_neg (show ¬ s < 0 by omega), l0]
          by_cases c5 : 0 ≤ x
          · rw [if_pos c5, if_pos c5, if_pos c5, o1, bX_e, s1, if_pos (show 0 ≤ s by omega), o1, bX_e, o2]
            exact put c1 s x
          · rw [if_neg c5, if_neg c5, if_neg c5]
            exact ⟨m, rfl, hT, FrU.rf⟩
        · rw [if_neg c4, if_neg c4, if_neg c4]
          exact ⟨m, rfl, hT, FrU.rf⟩
      · rw [if_neg (show ¬ (-1 ≤ s ∧ s ≤ 4) by omega), if_neg c2, if_neg c2, if_neg c3, if_neg c3]
        exact ⟨m, rfl, hT, FrU.rf⟩
  · rw [if_neg c1, if_neg c1, if_neg c1]
    exact ⟨m, rfl, hT, FrU.rf⟩
theorem S_202 {s : Int} (hs : -1 ≤ s ∧ s ≤ 4) {v : Int64} : cB Q0 (d + 1) 202 [.ref 177, .int (J s), .long v] m = some (some (.long (fitV s v)), m) := by
  have nk : ∀ (k : Int) {α : Type} (x y : α), 0 ≤ k → k ≤ 4 → bT (Q0.1 0 (J s) (J k)) x y = if s = k then x else y := fun k α x y z0 z1 => q0_J (by omega) (by omega) (by omega) (by omega) x y
  rw [cB_eq]
  show rB Q0 202 (cB Q0 d) 0 [some (.ref 177), some (.int (J s)), some (.long v), none] m = _
  rw [T_202_0, show (0 : Int32) = J 0 from rfl, show (1 : Int32) = J 1 from rfl, show (2 : Int32) = J 2 from rfl, show (4 : Int32) = J 4 from rfl, nk 0 _ _ (by omega) (by omega), nk 1 _ _ (by omega) (by omega), nk 2 _ _ (by omega) (by omega), nk 4 _ _ (by omega) (by omega)]
  unfold fitV
  by_cases c0 : s = 0
  · rw [if_pos c0, if_pos c0]
  · rw [if_neg c0, if_neg c0]
    by_cases c1 : s = 1
    · rw [if_pos c1, if_pos c1]
    · rw [if_neg c1, if_neg c1]
      by_cases c2 : s = 2
      · rw [if_pos c2, if_pos c2]
      · rw [if_neg c2, if_neg c2]
        by_cases c4 : s = 4
        · rw [if_pos c4, if_pos c4]
          show bT (Q0.1 0 (Q0.2.2.1 v 0) 0) _ _ = some (some (Value.long (bT (Q0.1 0 (Q0.2.2.1 v 0) 0) 0 1)), m)
          cases Q0.1 0 (Q0.2.2.1 v 0) 0 <;> rfl
        · rw [if_neg c4, if_neg c4]
theorem S_203 (hT : TapN P m) (hI : TapI P) {t i : Int} {v : Int64} (h1 : -2147483648 ≤ t ∧ t ≤ 2147483647) (h2 : -2147483648 ≤ i ∧ i ≤ 2147483647) : ∃ m', cB Q0 (d + 3) 203 [.ref 177, .int (J t), .int (J i), .long v] m = some (some (.int (J (itemA P t i))), m') ∧ TapN (itemS P t i v) m' ∧ FrU m m' := by
  have e1 := S_200 (m := m) (d := d) h1.1 h1.2
  rw [cB_eq]
  show ∃ m', rB Q0 203 (cB Q0 (d + 2)) 0 [some (.ref 177), some (.int (J t)), some (.int (J i)), some (.long v), none] m = _ ∧ _
  rw [T_203_0, e1, bI_e, nz_bi]
  unfold itemA itemS
  by_cases c1 : 0 ≤ t ∧ t ≤ 5
  · obtain ⟨⟨r0, r1⟩, r2⟩ := hT t c1.1 (by omega)
    have hi := hI t c1.1 (by omega)
    have o1 : ∀ {α : Type} (u v : α), bT (okI Q0 (.inr (0, 6)) (J t)) u v = u := fun u v => cI_J (n := 6) c1.1 (show t < 6 by omega) (by omega) u v
    have o2 : (J t).toNatClampNeg = t.toNat := J_clamp c1.1 (by omega)
    have s1 : ∀ {α : Type} (u v : α), bT (Q0.1 2 0 (J (P.1 t).1)) u v = if 0 ≤ (P.1 t).1 then u else v := fun u v => q2_J (a := 0) (by omega) (by omega) (by omega) (by omega) u v
    rw [if_pos c1, if_pos c1, if_pos c1, o1, bX_e, o2, r0, s1]
    by_cases c2 : (P.1 t).1 = -1
    · rw [if_neg (show ¬ 0 ≤ (P.1 t).1 by omega), if_pos c2, if_pos c2]
      exact ⟨m, rfl, hT, FrU.rf⟩
    · have e2 := S_109 (m := m) (d := d + 1) h2.1 h2.2 (show -2147483648 ≤ (0 : Int) by omega) (by omega) (show -2147483648 ≤ (P.1 t).2 - 1 by omega) (by omega)
      rw [if_pos (show 0 ≤ (P.1 t).1 by omega), if_neg c2, if_neg c2, o1, bX_e, r1, show J (P.1 t).2 - 1 = J ((P.1 t).2 - 1) from J_sub _ 1, show cB Q0 (d + 2) 109 [.ref 177, .int (J i), .int 0, .int (J ((P.1 t).2 - 1))] m = _ from e2, bI_e, nz_bi]
      by_cases c3 : 0 ≤ i ∧ i ≤ (P.1 t).2 - 1
      · rw [if_pos c3, if_pos c3, if_pos c3, o1, bX_e, r0, S_202 (d := d + 1) hi.1, bL_e, show (60 : Int32) * J t + J i = J (60 * t + i) by rw [show (60 : Int32) = J 60 from rfl, J_mul, J_add], c1_J (n := 360) (by omega) (show 60 * t + i < 360 by omega) (by omega), bX_e, J_clamp (by omega) (by omega)]
        refine ⟨_, rfl, fun u g0 g9 => ⟨(hT u g0 g9).1, fun j z0 z1 => ?_⟩, fun k hk hk2 => rfl, fun k hk hk2 => u2_ne _ _ hk⟩
        show up2 m.2 230 (60 * t + i).toNat (fitV (P.1 t).1 v) 230 (60 * u + j).toNat = if u = t ∧ j = i then fitV (P.1 t).1 v else P.2 u j
        rw [u2_at]
        by_cases e : u = t ∧ j = i
        · rw [if_pos e, e.1, e.2, if_pos rfl]
        · rw [if_neg e, if_neg (by omega)]
          exact (hT u g0 g9).2 j z0 z1
      · rw [if_neg c3, if_neg c3, if_neg c3]
        exact ⟨m, rfl, hT, FrU.rf⟩
  · rw [if_neg c1, if_neg c1, if_neg c1]
    exact ⟨m, rfl, hT, FrU.rf⟩
theorem S_204 (hT : TapN P m) (hI : TapI P) {t i : Int} (h1 : -2147483648 ≤ t ∧ t ≤ 2147483647) (h2 : -2147483648 ≤ i ∧ i ≤ 2147483647) : cB Q0 (d + 3) 204 [.ref 177, .int (J t), .int (J i)] m = some (some (.long (readA P t i)), m) := by
  have e1 := S_200 (m := m) (d := d) h1.1 h1.2
  rw [cB_eq]
  show rB Q0 204 (cB Q0 (d + 2)) 0 [some (.ref 177), some (.int (J t)), some (.int (J i))] m = _
  rw [T_204_0, e1, bI_e, nz_bi]
  unfold readA
  by_cases c1 : 0 ≤ t ∧ t ≤ 5
  · obtain ⟨⟨r0, r1⟩, r2⟩ := hT t c1.1 (by omega)
    have hi := hI t c1.1 (by omega)
    have o1 : ∀ {α : Type} (u v : α), bT (okI Q0 (.inr (0, 6)) (J t)) u v = u := fun u v => cI_J (n := 6) c1.1 (show t < 6 by omega) (by omega) u v
    have o2 : (J t).toNatClampNeg = t.toNat := J_clamp c1.1 (by omega)
    have s0 : ∀ {α : Type} (u v : α), bT (Q0.1 1 (J (P.1 t).1) 0) u v = if (P.1 t).1 < 0 then u else v := fun u v => q1_J (b := 0) (by omega) (by omega) (by omega) (by omega) u v
    rw [if_pos c1, if_pos c1, o1, bX_e, o2, r0, s0]
    by_cases c2 : (P.1 t).1 < 0
    · rw [if_pos c2, if_neg (show ¬ (0 ≤ i ∧ i ≤ (P.1 t).2 - 1) by omega)]
    · have e2 := S_109 (m := m) (d := d + 1) h2.1 h2.2 (show -2147483648 ≤ (0 : Int) by omega) (by omega) (show -2147483648 ≤ (P.1 t).2 - 1 by omega) (by omega)
      rw [if_neg c2, o1, bX_e, r1, show J (P.1 t).2 - 1 = J ((P.1 t).2 - 1) from J_sub _ 1, show cB Q0 (d + 2) 109 [.ref 177, .int (J i), .int 0, .int (J ((P.1 t).2 - 1))] m = _ from e2, bI_e, nz_bi]
      by_cases c3 : 0 ≤ i ∧ i ≤ (P.1 t).2 - 1
      · rw [if_pos c3, if_pos c3, show (60 : Int32) * J t + J i = J (60 * t + i) by rw [show (60 : Int32) = J 60 from rfl, J_mul, J_add], c1_J (n := 360) (by omega) (show 60 * t + i < 360 by omega) (by omega), bX_e, J_clamp (by omega) (by omega), r2 i c3.1 (by omega)]
      · rw [if_neg c3, if_neg c3]
  · rw [if_neg c1, if_neg c1]
theorem L_185 (hR : ShN sh A m) (hI : TapI P) {t i : Int} (c1 : 0 ≤ t ∧ t ≤ 5) (hT : TapN P m) (h2 : -2147483648 ≤ i ∧ i ≤ 2147483647) {cf : Nat → List Value → SM → Rs SM} : ∀ (k : Nat) (c : Int), 0 ≤ c → c + k = 8 → rB Q0 185 cf 34 [some (.ref 177), some (.int (J t)), some (.int (J i)), some (.int (J c))] m = some (some (.int (J (judF (P.2 t) A (P.1 t).2 i k c))), m) := by
  obtain ⟨⟨r0, r1⟩, r2⟩ := hT t c1.1 (by omega)
  have hi := hI t c1.1 (by omega)
  have o1 : ∀ {α : Type} (u v : α), bT (okI Q0 (.inr (0, 6)) (J t)) u v = u := fun u v => cI_J (n := 6) c1.1 (show t < 6 by omega) (by omega) u v
  have o2 : (J t).toNatClampNeg = t.toNat := J_clamp c1.1 (by omega)
  have s0 : ∀ {α : Type} (u v : α), bT (Q0.1 1 (J (P.1 t).1) 0) u v = if (P.1 t).1 < 0 then u else v := fun u v => q1_J (b := 0) (by omega) (by omega) (by omega) (by omega) u v
  intro k
  induction k with
  | zero =>
    intro c h0 h1
    obtain rfl : c = 8 := by omega
    rw [T_185_34]
    rfl
  | succ k ih =>
    intro c h0 h1
    have s3 : m.1 180 c.toNat = J (A.1 3 c) := hR.2.1 3 (by omega) (by omega) c h0 (by omega)
    have n8 : ∀ {α : Type} (x y : α), bT (Q0.1 2 8 (J c)) x y = if 8 ≤ c then x else y := fun x y => q2_J (a := 8) (by omega) (by omega) (by omega) (by omega) x y
    have n0 : ∀ {α : Type} (x y : α), bT (Q0.1 1 (J i) 0) x y = if i < 0 then x else y := fun x y => q1_J (b := 0) (by omega) (by omega) (by omega) (by omega) x y
    have ej : judF (P.2 t) A (P.1 t).2 i (k + 1) c = if i < 0 then 100 + c else if i < (P.1 t).2 - c then bT (Q0.1 0 (Q0.2.2.1 (P.2 t (i + c)) (Int32.toInt64 (J (A.1 3 c)))) 0) (judF (P.2 t) A (P.1 t).2 i k (c + 1)) c else 100 + c := rfl
    rw [ej, T_185_34, n8, if_neg (show ¬ 8 ≤ c by omega), o1, bX_e, o2, r0, s0, n0]
    have h100 : (100 : Int32) + J c = J (100 + c) := J_add 100 c
    by_cases c4 : (P.1 t).1 < 0
    · rw [if_pos c4, h100]
      by_cases c2 : i < 0
      · rw [if_pos c2]
      · rw [if_neg c2, if_neg (show ¬ i < (P.1 t).2 - c by omega)]
    · rw [if_neg c4]
      by_cases c2 : i < 0
      · rw [if_pos c2, if_pos c2, h100]
      · rw [if_neg c2, if_neg c2, o1, bX_e, r1, J_sub, show J ((P.1 t).2 - c) - 1 = J ((P.1 t).2 - c - 1) from J_sub _ 1, q2_J (by omega) (by omega) (by omega) (by omega)]
        by_cases c3 : i < (P.1 t).2 - c
        · rw [if_pos (show i ≤ (P.1 t).2 - c - 1 by omega), if_pos c3, show (60 : Int32) * J t + J i + J c = J (60 * t + i + c) by rw [show (60 : Int32) = J 60 from rfl, J_mul, J_add, J_add], c1_J (n := 360) (by omega) (show 60 * t + i + c < 360 by omega) (by omega), bX_e, J_clamp (a := 60 * t + i + c) (by omega) (by omega), show 60 * t + i + c = 60 * t + (i + c) by omega, r2 (i + c) (by omega) (by omega), cI_J (n := 8) h0 (show c < 8 by omega) (by omega), bX_e, J_clamp h0 (by omega), s3, show J c + 1 = J (c + 1) from J_add c 1, ih (c + 1) (by omega) (by omega)]
          cases Q0.1 0 (Q0.2.2.1 (P.2 t (i + c)) (Int32.toInt64 (J (A.1 3 c)))) 0 <;> rfl
        · rw [if_neg (show ¬ i ≤ (P.1 t).2 - c - 1 by omega), if_neg c3, h100]
theorem S_185 (hR : ShN sh A m) (hT : TapN P m) (hI : TapI P) {t i : Int} (h1 : -2147483648 ≤ t ∧ t ≤ 2147483647) (h2 : -2147483648 ≤ i ∧ i ≤ 2147483647) : cB Q0 (d + 3) 185 [.ref 177, .int (J t), .int (J i)] m = some (some (.int (J (judA P A t i))), m) := by
  have e1 := S_200 (m := m) (d := d) h1.1 h1.2
  rw [cB_eq]
  show rB Q0 185 (cB Q0 (d + 2)) 0 [some (.ref 177), some (.int (J t)), some (.int (J i))] m = _
  rw [T_185_0, e1, bI_e, nz_bi]
  unfold judA
  by_cases c1 : 0 ≤ t ∧ t ≤ 5
  · obtain ⟨⟨r0, r1⟩, r2⟩ := hT t c1.1 (by omega)
    have hi := hI t c1.1 (by omega)
    have o1 : ∀ {α : Type} (u v : α), bT (okI Q0 (.inr (0, 6)) (J t)) u v = u := fun u v => cI_J (n := 6) c1.1 (show t < 6 by omega) (by omega) u v
    have o2 : (J t).toNatClampNeg = t.toNat := J_clamp c1.1 (by omega)
    have s0 : ∀ {α : Type} (u v : α), bT (Q0.1 1 (J (P.1 t).1) 0) u v = if (P.1 t).1 < 0 then u else v := fun u v => q1_J (b := 0) (by omega) (by omega) (by omega) (by omega) u v
    have n2 : ∀ {α : Type} (x y : α), bT (Q0.1 0 (J (P.1 t).1) 2) x y = if (P.1 t).1 = 2 then x else y := fun x y => q0_J (b := 2) (by omega) (by omega) (by omega) (by omega) x y
    have key := L_185 hR hI c1 hT h2 (cf := cB Q0 (d + 2)) 8 0 (by omega) (by omega)
    rw [if_pos c1, if_pos c1, o1, bX_e, o2, r0, s0, o1, bX_e, n2]
    by_cases c2 : (P.1 t).1 < 0
    · rw [if_pos c2, if_pos (show (P.1 t).1 = -1 ∨ (P.1 t).1 = 2 by omega)]
      exact key
    · rw [if_neg c2]
      by_cases c3 : (P.1 t).1 = 2
      · rw [if_pos c3, if_pos (Or.inr c3)]
        exact key
      · rw [if_neg c3, if_neg (by omega)]
        rfl
  · rw [if_neg c1, if_neg c1]
    rfl
end
