/-! ACT, TRACE, TAKEN, COUNT, asked of the reference -/
def LogN (l : List Int) (m : SM) : Prop := m.1 177 77 = J (l.length : Int) ∧ (∀ (j : Nat) (b : Int), l[j]? = some b → m.1 227 j = J b) ∧ l.length ≤ 20
def ActN (p k v : Int) (l : List Int) (m : SM) : Prop := (m.1 181 p.toNat = J k ∧ m.1 182 p.toNat = J v) ∧ LogN l m
def bK : Nat → Prop := fun k => k = 227
def bI' : Nat → Prop := fun i => i = 77
section
variable {m : SM} {d : Nat} {p k v : Int} {l : List Int} {x : Int32}
theorem S_188 (hA : ActN p k v l m) {b : Int} (hl : l.length < 20) : ∃ m', cB Q0 (d + 1) 188 [.ref 177, .int (J b)] m = some (none, m') ∧ ActN p k v (l ++ [b]) m' ∧ FrR bK bI' m m' := by
  obtain ⟨⟨z2, z3⟩, ⟨r0, r1, r2⟩⟩ := hA
  have k1 : FrR bK bI' m (up2 (up2 m.1 227 l.length (J b)) 177 77 (J ((l.length : Int) + 1)), m.2) := (FrR.put (K := bK) (KI := bI') (k := 227) (by exact rfl) (by omega) _ _).tr (FrR.put7 (K := bK) (KI := bI') (i := 77) (by exact rfl) _)
  refine ⟨(up2 (up2 m.1 227 l.length (J b)) 177 77 (J ((l.length : Int) + 1)), m.2), ?_, ⟨⟨?_, ?_⟩, ⟨?_, fun j c hj => ?_, ?_⟩⟩, k1⟩
  · rw [cB_eq]
    show rB Q0 188 (cB Q0 d) 0 [some (.ref 177), some (.int (J b))] m = _
    rw [T_188_0]
    simp only [lits]
    simp (disch := omega) only [kk, lits, q0_J, q1_J, q2_J, cI_J, cT_J, cB_J, cZ_J, cS_J, c1_J, cA_J, J_clamp, u2_at, reduceIte, r0, u2_ne, Int.toNat_natCast]
    rw [if_neg (by omega)]
  · rw [k1.1 181 (by unfold bK; omega) (by omega)]; exact z2
  · rw [k1.1 182 (by unfold bK; omega) (by omega)]; exact z3
  · show up2 (up2 m.1 227 l.length (J b)) 177 77 (J ((l.length : Int) + 1)) 177 77 = _
    rw [u2_at, if_pos rfl]
    simp
  · show up2 (up2 m.1 227 l.length (J b)) 177 77 (J ((l.length : Int) + 1)) 227 j = _
    rw [u2_ne _ _ (by omega), u2_at]
    rw [List.getElem?_append] at hj
    by_cases e : j = l.length
    · rw [if_pos e]
      rw [if_neg (by omega), e, Nat.sub_self] at hj
      have hj : some b = some c := hj
      rw [Option.some.inj hj]
    · rw [if_neg e]
      by_cases e2 : j < l.length
      · rw [if_pos e2] at hj
        exact r1 j c hj
      · rw [if_neg e2] at hj
        rw [show j - l.length = (j - l.length - 1) + 1 by omega] at hj
        exact absurd hj (by simp)
  · simp; omega
theorem S_189 (hA : ActN p k v l m) (hl : l.length < 20) : ∃ m', cB Q0 (d + 2) 189 [.ref 177, .int (J p), .int x] m = some (some (.int (a10 p x)), m') ∧ ActN p k v (l ++ [10]) m' ∧ FrR bK bI' m m' := by
  obtain ⟨m1, q1, q2, q3⟩ := S_188 (d := d) hA (b := 10) hl
  refine ⟨m1, ?_, q2, q3⟩
  rw [cB_eq]
  show rB Q0 189 (cB Q0 (d + 1)) 0 [some (.ref 177), some (.int (J p)), some (.int x)] m = _
  rw [T_189_0, show cB Q0 (d + 1) 188 [.ref 177, .int 10] m = _ from q1, bV_e]
  rfl
theorem S_190 (hA : ActN p k v l m) (hp : 0 ≤ p ∧ p < 6) (hk : 0 ≤ k ∧ k ≤ 6) (hl : l.length + 2 ≤ 20) : ∃ m', cB Q0 (d + 3) 190 [.ref 177, .int (J p), .int x] m = some (some (.int (aC p k v x)), m') ∧ ActN p k v (l ++ aLc k) m' ∧ FrR bK bI' m m' := by
  have nk : ∀ (j : Int) {α : Type} (x y : α), 0 ≤ j → j ≤ 6 → bT (Q0.1 0 (J k) (J j)) x y = if k = j then x else y := fun j α x y z0 z1 => q0_J (by omega) (by omega) (by omega) (by omega) x y
  have key : ∀ (b : Int) (y : Int32), ∃ m1 m2, cB Q0 (d + 2) 188 [.ref 177, .int (J b)] m = some (none, m1) ∧ cB Q0 (d + 2) 189 [.ref 177, .int (J p), .int y] m1 = some (some (.int (a10 p y)), m2) ∧ ActN p k v (l ++ [b, 10]) m2 ∧ FrR bK bI' m m2 := fun b y => by
    obtain ⟨m1, q1, q2, q3⟩ := S_188 (d := d + 1) hA (b := b) (by omega)
    obtain ⟨m2, w1, w2, w3⟩ := S_189 (d := d) (x := y) q2 (by simp; omega)
    rw [List.append_assoc] at w2
    exact ⟨m1, m2, q1, w1, w2, q3.tr w3⟩
  rw [cB_eq]
  show ∃ m', rB Q0 190 (cB Q0 (d + 2)) 0 [some (.ref 177), some (.int (J p)), some (.int x)] m = _ ∧ _
  rw [T_190_0, cI_J (n := 6) hp.1 hp.2 (by omega), bX_e, J_clamp hp.1 (by omega), hA.1.1, show (2 : Int32) = J 2 from rfl, show (4 : Int32) = J 4 from rfl, show (5 : Int32) = J 5 from rfl, show (6 : Int32) = J 6 from rfl, nk 2 _ _ (by omega) (by omega), nk 4 _ _ (by omega) (by omega), nk 5 _ _ (by omega) (by omega), nk 6 _ _ (by omega) (by omega)]
  unfold aC aLc
  by_cases c2 : k = 2
  · obtain ⟨m1, m2, q1, q2, q3, q4⟩ := key 30 (x * J 3)
    rw [if_pos c2, if_pos (Or.inl c2), if_pos (Or.inl c2), show cB Q0 (d + 2) 188 [.ref 177, .int 30] m = _ from q1, bV_e, show cB Q0 (d + 2) 189 [.ref 177, .int (J p), .int (x * 3)] m1 = _ from q2, bI_e]
    exact ⟨m2, rfl, q3, q4⟩
  · rw [if_neg c2]
    by_cases c4 : k = 4
    · obtain ⟨m1, m2, q1, q2, q3, q4⟩ := key 50 x
      rw [if_pos c4, if_neg (show ¬ (k = 2 ∨ k = 5) by omega), if_neg (show ¬ (k = 2 ∨ k = 5) by omega), if_pos c4, if_pos c4, show cB Q0 (d + 2) 188 [.ref 177, .int 50] m = _ from q1, bV_e, q2, bI_e]
      exact ⟨m2, rfl, q3, q4⟩
    · rw [if_neg c4]
      by_cases c5 : k = 5
      · obtain ⟨m1, m2, q1, q2, q3, q4⟩ := key 30 (x * J 3)
        rw [if_pos c5, if_pos (Or.inr c5), if_pos (Or.inr c5), show cB Q0 (d + 2) 188 [.ref 177, .int 30] m = _ from q1, bV_e, show cB Q0 (d + 2) 189 [.ref 177, .int (J p), .int (x * 3)] m1 = _ from q2, bI_e]
        exact ⟨m2, rfl, q3, q4⟩
      · rw [if_neg c5, if_neg (show ¬ (k = 2 ∨ k = 5) by omega), if_neg (show ¬ (k = 2 ∨ k = 5) by omega), if_neg c4, if_neg c4]
        by_cases c6 : k = 6
        · obtain ⟨m1, m2, q1, q2, q3, q4⟩ := key 71 x
          rw [if_pos c6, if_pos c6, if_pos c6, show cB Q0 (d + 2) 188 [.ref 177, .int 71] m = _ from q1, bV_e, q2, bI_e, cI_J (n := 6) hp.1 hp.2 (by omega), bX_e, q3.1.2]
          exact ⟨m2, rfl, q3, q4⟩
        · obtain ⟨m1, q1, q2, q3⟩ := S_189 (d := d) (x := x) hA (by omega)
          rw [if_neg c6, if_neg c6, if_neg c6, q1, bI_e]
          exact ⟨m1, rfl, q2, q3⟩
theorem S_191 (hA : ActN p k v l m) (hp : 0 ≤ p ∧ p < 6) (hk : 0 ≤ k ∧ k ≤ 6) (hl : l.length + 3 ≤ 20) : ∃ m', cB Q0 (d + 4) 191 [.ref 177, .int (J p), .int x] m = some (some (.int (a11 p k v x)), m') ∧ ActN p k v (l ++ (11 :: aLc k)) m' ∧ FrR bK bI' m m' := by
  obtain ⟨m1, q1, q2, q3⟩ := S_188 (d := d + 2) hA (b := 11) (by omega)
  obtain ⟨m2, w1, w2, w3⟩ := S_190 (d := d) (x := x) q2 hp hk (by simp; omega)
  have h2 := w2.1.2
  rw [List.append_assoc] at w2
  refine ⟨m2, ?_, w2, q3.tr w3⟩
  rw [cB_eq]
  show rB Q0 191 (cB Q0 (d + 3)) 0 [some (.ref 177), some (.int (J p)), some (.int x)] m = _
  rw [T_191_0, show cB Q0 (d + 3) 188 [.ref 177, .int 11] m = _ from q1, bV_e, w1, bI_e, cI_J (n := 6) hp.1 hp.2 (by omega), bX_e, J_clamp hp.1 (by omega), h2]
  rfl
theorem S_192 (hA : ActN p k v l m) (hp : 0 ≤ p ∧ p < 6) (hk : 0 ≤ k ∧ k ≤ 6) (hl : l.length + 4 ≤ 20) : ∃ m', cB Q0 (d + 5) 192 [.ref 177, .int (J p), .int x] m = some (some (.int (a20 p k v x)), m') ∧ ActN p k v (l ++ (20 :: 11 :: aLc k)) m' ∧ FrR bK bI' m m' := by
  obtain ⟨m1, q1, q2, q3⟩ := S_188 (d := d + 3) hA (b := 20) (by omega)
  obtain ⟨m2, w1, w2, w3⟩ := S_191 (d := d) (x := x) q2 hp hk (by simp; omega)
  rw [List.append_assoc] at w2
  refine ⟨m2, ?_, w2, q3.tr w3⟩
  rw [cB_eq]
  show rB Q0 192 (cB Q0 (d + 4)) 0 [some (.ref 177), some (.int (J p)), some (.int x)] m = _
  rw [T_192_0, show cB Q0 (d + 4) 188 [.ref 177, .int 20] m = _ from q1, bV_e, w1, bI_e]
  rfl
theorem S_193 (hA : ActN p k v l m) (hp : 0 ≤ p ∧ p < 6) (hk : 0 ≤ k ∧ k ≤ 6) (hl : l.length + 5 ≤ 20) : ∃ m', cB Q0 (d + 6) 193 [.ref 177, .int (J p), .int x] m = some (some (.int (aN p k v x)), m') ∧ ActN p k v (l ++ aLn k) m' ∧ FrR bK bI' m m' := by
  have cl := aLc_len k
  have nk : ∀ (j : Int) {α : Type} (x y : α), 0 ≤ j → j ≤ 6 → bT (Q0.1 0 (J k) (J j)) x y = if k = j then x else y := fun j α x y z0 z1 => q0_J (by omega) (by omega) (by omega) (by omega) x y
  rw [cB_eq]
  show ∃ m', rB Q0 193 (cB Q0 (d + 5)) 0 [some (.ref 177), some (.int (J p)), some (.int x)] m = _ ∧ _
  rw [T_193_0, cI_J (n := 6) hp.1 hp.2 (by omega), bX_e, J_clamp hp.1 (by omega), hA.1.1]
  rw [show ∀ (α : Type) (x y : α), bT (Q0.1 0 (J k) 1) x y = if k = 1 then x else y from fun α x y => nk 1 x y (by omega) (by omega), show ∀ (α : Type) (x y : α), bT (Q0.1 0 (J k) 4) x y = if k = 4 then x else y from fun α x y => nk 4 x y (by omega) (by omega), show ∀ (α : Type) (x y : α), bT (Q0.1 0 (J k) 6) x y = if k = 6 then x else y from fun α x y => nk 6 x y (by omega) (by omega)]
  unfold aN aLn
  by_cases c1 : k = 1
  · obtain ⟨m1, q1, q2, q3⟩ := S_192 (d := d) (x := x) hA hp hk (by omega)
    rw [if_pos c1, if_pos c1, if_pos c1, q1, bI_e]
    exact ⟨m1, rfl, q2, q3⟩
  · rw [if_neg c1, if_neg c1, if_neg c1]
    by_cases c4 : k = 4
    · obtain ⟨m1, q1, q2, q3⟩ := S_188 (d := d + 4) hA (b := 51) (by omega)
      obtain ⟨m2, w1, w2, w3⟩ := S_192 (d := d) (x := x + J 1) q2 hp hk (by simp; omega)
      rw [List.append_assoc] at w2
      rw [if_pos c4, if_pos c4, if_pos c4, show cB Q0 (d + 5) 188 [.ref 177, .int 51] m = _ from q1, bV_e, show cB Q0 (d + 5) 192 [.ref 177, .int (J p), .int (x + 1)] m1 = _ from w1, bI_e]
      exact ⟨m2, rfl, w2, q3.tr w3⟩
    · rw [if_neg c4, if_neg c4, if_neg c4]
      by_cases c6 : k = 6
      · obtain ⟨m1, q1, q2, q3⟩ := S_188 (d := d + 4) hA (b := 70) (by omega)
        obtain ⟨m2, w1, w2, w3⟩ := S_191 (d := d + 1) (x := x) q2 hp hk (by simp; omega)
        obtain ⟨m3, r1, r2, r3⟩ := S_189 (d := d + 3) (x := J 2) w2 (by simp; omega)
        rw [List.append_assoc, List.append_assoc] at r2
        rw [if_pos c6, if_pos c6, if_pos c6, show cB Q0 (d + 5) 188 [.ref 177, .int 70] m = _ from q1, bV_e, w1, bI_e, show cB Q0 (d + 5) 189 [.ref 177, .int (J p), .int 2] m2 = _ from r1, bI_e]
        exact ⟨m3, rfl, r2, (q3.tr w3).tr r3⟩
      · obtain ⟨m1, q1, q2, q3⟩ := S_191 (d := d + 1) (x := x) hA hp hk (by omega)
        rw [if_neg c6, if_neg c6, if_neg c6, q1, bI_e]
        exact ⟨m1, rfl, q2, q3⟩
theorem S_194 (hA : ActN p k v l m) (hp : 0 ≤ p ∧ p < 6) (hk : 0 ≤ k ∧ k ≤ 6) (hl : l.length + 6 ≤ 20) : ∃ m', cB Q0 (d + 7) 194 [.ref 177, .int (J p), .int x] m = some (some (.int (a12 p k v x)), m') ∧ ActN p k v (l ++ (12 :: aLn k)) m' ∧ FrR bK bI' m m' := by
  obtain ⟨m1, q1, q2, q3⟩ := S_188 (d := d + 5) hA (b := 12) (by omega)
  obtain ⟨m2, w1, w2, w3⟩ := S_193 (d := d) (x := x) q2 hp hk (by simp; omega)
  rw [List.append_assoc] at w2
  refine ⟨m2, ?_, w2, q3.tr w3⟩
  rw [cB_eq]
  show rB Q0 194 (cB Q0 (d + 6)) 0 [some (.ref 177), some (.int (J p)), some (.int x)] m = _
  rw [T_194_0, show cB Q0 (d + 6) 188 [.ref 177, .int 12] m = _ from q1, bV_e, w1, bI_e]
  rfl
theorem S_195 (hA : ActN p k v l m) (hp : 0 ≤ p ∧ p < 6) (hk : 0 ≤ k ∧ k ≤ 6) (hl : l.length + 12 ≤ 20) : ∃ m', cB Q0 (d + 8) 195 [.ref 177, .int (J p), .int x] m = some (some (.int (aT p k v x)), m') ∧ ActN p k v (l ++ aLt k) m' ∧ FrR bK bI' m m' := by
  have cl := aLn_len k
  have nk : ∀ (j : Int) {α : Type} (x y : α), 0 ≤ j → j ≤ 6 → bT (Q0.1 0 (J k) (J j)) x y = if k = j then x else y := fun j α x y z0 z1 => q0_J (by omega) (by omega) (by omega) (by omega) x y
  have both : ∃ m1 m2 m3, cB Q0 (d + 7) 188 [.ref 177, .int 40] m = some (none, m1) ∧ cB Q0 (d + 7) 194 [.ref 177, .int (J p), .int x] m1 = some (some (.int (a12 p k v x)), m2) ∧ cB Q0 (d + 7) 193 [.ref 177, .int (J p), .int 1] m2 = some (some (.int (aN p k v (J 1))), m3) ∧ ActN p k v (l ++ (40 :: 12 :: (aLn k ++ aLn k))) m3 ∧ FrR bK bI' m m3 := by
    obtain ⟨m1, q1, q2, q3⟩ := S_188 (d := d + 6) hA (b := 40) (by omega)
    obtain ⟨m2, w1, w2, w3⟩ := S_194 (d := d) (x := x) q2 hp hk (by simp; omega)
    obtain ⟨m3, r1, r2, r3⟩ := S_193 (d := d + 1) (x := J 1) w2 hp hk (by simp; omega)
    rw [List.append_assoc, List.append_assoc] at r2
    exact ⟨m1, m2, m3, q1, w1, r1, r2, (q3.tr w3).tr r3⟩
  rw [cB_eq]
  show ∃ m', rB Q0 195 (cB Q0 (d + 7)) 0 [some (.ref 177), some (.int (J p)), some (.int x)] m = _ ∧ _
  rw [T_195_0, cI_J (n := 6) hp.1 hp.2 (by omega), bX_e, J_clamp hp.1 (by omega), hA.1.1]
  rw [show ∀ (α : Type) (x y : α), bT (Q0.1 0 (J k) 3) x y = if k = 3 then x else y from fun α x y => nk 3 x y (by omega) (by omega), show ∀ (α : Type) (x y : α), bT (Q0.1 0 (J k) 5) x y = if k = 5 then x else y from fun α x y => nk 5 x y (by omega) (by omega), show ∀ (α : Type) (x y : α), bT (Q0.1 0 (J k) 6) x y = if k = 6 then x else y from fun α x y => nk 6 x y (by omega) (by omega)]
  unfold aT aLt
  by_cases c3 : k = 3
  · obtain ⟨m1, m2, m3, q1, w1, r1, r2, r3⟩ := both
    rw [if_pos c3, if_pos (Or.inl c3), if_pos (Or.inl c3), q1, bV_e, w1, bI_e, r1, bI_e]
    exact ⟨m3, rfl, r2, r3⟩
  · rw [if_neg c3]
    by_cases c5 : k = 5
    · obtain ⟨m1, q1, q2, q3⟩ := S_188 (d := d + 6) hA (b := 60) (by omega)
      obtain ⟨m2, w1, w2, w3⟩ := S_194 (d := d) (x := x - J p) q2 hp hk (by simp; omega)
      rw [List.append_assoc] at w2
      rw [if_pos c5, if_neg (show ¬ (k = 3 ∨ k = 6) by omega), if_neg (show ¬ (k = 3 ∨ k = 6) by omega), if_pos c5, if_pos c5, show cB Q0 (d + 7) 188 [.ref 177, .int 60] m = _ from q1, bV_e, w1, bI_e]
      exact ⟨m2, rfl, w2, q3.tr w3⟩
    · rw [if_neg c5]
      by_cases c6 : k = 6
      · obtain ⟨m1, m2, m3, q1, w1, r1, r2, r3⟩ := both
        rw [if_pos c6, if_pos (Or.inr c6), if_pos (Or.inr c6), q1, bV_e, w1, bI_e, r1, bI_e]
        exact ⟨m3, rfl, r2, r3⟩
      · obtain ⟨m1, q1, q2, q3⟩ := S_194 (d := d) (x := x) hA hp hk (by omega)
        rw [if_neg c6, if_neg (show ¬ (k = 3 ∨ k = 6) by omega), if_neg (show ¬ (k = 3 ∨ k = 6) by omega), if_neg c5, if_neg c5, q1, bI_e]
        exact ⟨m1, rfl, q2, q3⟩
end
section
variable {m : SM} {d : Nat} {A : Shp} {sh : Int} {l : List Int}
theorem S_196 (hI : ShI A) (hR : ShN sh A m) {p a : Int} {x : Int32} (h1 : -2147483648 ≤ p ∧ p ≤ 2147483647) (h2 : -2147483648 ≤ a ∧ a ≤ 2147483647) : ∃ m', cB Q0 (d + 9) 196 [.ref 177, .int (J p), .int (J a), .int x] m = some (some (.int (actA A p a x)), m') ∧ LogN (actL A p a) m' ∧ FrR bK bI' m m' := by
  have i0 := hI.1.1
  have a0 := hR.1.1
  generalize hm1 : ((up2 m.1 177 77 (J 0), m.2) : SM) = m1
  have k1 : FrR bK bI' m m1 := by rw [← hm1]; exact FrR.put7 (KI := bI') (i := 77) (by exact rfl) _
  have r1 : m1.1 177 77 = J 0 := by rw [← hm1]; show up2 m.1 177 77 (J 0) 177 77 = _; rw [u2_at, if_pos rfl]
  have b0 : m1.1 177 0 = J (A.1 0 0) := by rw [k1.2.1 0 (by unfold bI'; omega)]; exact a0
  have hl0 : LogN [] m1 := ⟨r1, fun j b hj => absurd hj (by simp), by simp⟩
  have e1 := S_114 (m := m1) (d := d + 6) b0 i0.1 i0.2 h1.1 h1.2
  have e2 := S_109 (m := m1) (d := d + 7) h2.1 h2.2 (show -2147483648 ≤ (0 : Int) by omega) (by omega) (show -2147483648 ≤ (2 : Int) by omega) (by omega)
  have n0 : ∀ {α : Type} (x y : α), bT (Q0.1 0 (J a) 0) x y = if a = 0 then x else y := fun x y => q0_J (b := 0) (by omega) (by omega) (by omega) (by omega) x y
  have n1 : ∀ {α : Type} (x y : α), bT (Q0.1 0 (J a) 1) x y = if a = 1 then x else y := fun x y => q0_J (b := 1) (by omega) (by omega) (by omega) (by omega) x y
  rw [cB_eq]
  show ∃ m', rB Q0 196 (cB Q0 (d + 8)) 0 [some (.ref 177), some (.int (J p)), some (.int (J a)), some (.int x)] m = _ ∧ _
  rw [T_196_0, bX_e, show ((up2 m.1 177 77 0, m.2) : SM) = m1 from hm1, e1, bI_e, nz_bi]
  unfold actA actL
  by_cases c1 : 0 ≤ p ∧ p ≤ A.1 0 0 - 1
  · rw [if_pos c1, if_pos c1, if_pos c1, show cB Q0 (d + 8) 109 [.ref 177, .int (J a), .int 0, .int 2] m1 = _ from e2, bI_e, nz_bi]
    by_cases c2 : 0 ≤ a ∧ a ≤ 2
    · have hi := (hI.2.2.1 p c1.1 (by omega)).1
      obtain ⟨⟨t0, t1, -⟩, -⟩ := hR.2.2.1 p c1.1 (by omega)
      have hA : ActN p (A.2.1 p 0 0) (A.2.1 p 0 1) [] m1 := ⟨⟨by rw [k1.1 181 (by unfold bK; omega) (by omega)]; exact t0, by rw [k1.1 182 (by unfold bK; omega) (by omega)]; exact t1⟩, hl0⟩
      obtain ⟨mc, c01, c02, c03⟩ := S_190 (d := d + 5) (x := x) hA ⟨c1.1, by omega⟩ hi.1 (by simp)
      obtain ⟨mn, n01, n02, n03⟩ := S_193 (d := d + 2) (x := x) hA ⟨c1.1, by omega⟩ hi.1 (by simp)
      obtain ⟨mt, t01, t02, t03⟩ := S_195 (d := d) (x := x) hA ⟨c1.1, by omega⟩ hi.1 (by simp)
      rw [if_pos c2, if_pos c2, if_pos c2, n0]
      by_cases c3 : a = 0
      · rw [if_pos c3, if_pos c3, if_pos c3, c01, bI_e]
        exact ⟨mc, rfl, c02.2, k1.tr c03⟩
      · rw [if_neg c3, if_neg c3, if_neg c3, n1]
        by_cases c4 : a = 1
        · rw [if_pos c4, if_pos c4, if_pos c4, n01, bI_e]
          exact ⟨mn, rfl, n02.2, k1.tr n03⟩
        · rw [if_neg c4, if_neg c4, if_neg c4, t01, bI_e]
          exact ⟨mt, rfl, t02.2, k1.tr t03⟩
    · rw [if_neg c2, if_neg c2, if_neg c2]
      exact ⟨m1, rfl, hl0, k1⟩
  · rw [if_neg c1, if_neg c1, if_neg c1]
    exact ⟨m1, rfl, hl0, k1⟩
theorem S_197 (hL : LogN l m) {i : Int} (h1 : -2147483648 ≤ i ∧ i ≤ 2147483647) : cB Q0 (d + 2) 197 [.ref 177, .int (J i)] m = some (some (.int (J (traceA l i))), m) := by
  obtain ⟨r0, r1, r2⟩ := hL
  have e2 := S_109 (m := m) (d := d) h1.1 h1.2 (show -2147483648 ≤ (0 : Int) by omega) (by omega) (show -2147483648 ≤ (19 : Int) by omega) (by omega)
  rw [cB_eq]
  show rB Q0 197 (cB Q0 (d + 1)) 0 [some (.ref 177), some (.int (J i))] m = _
  rw [T_197_0, show cB Q0 (d + 1) 109 [.ref 177, .int (J i), .int 0, .int 19] m = _ from e2, bI_e, nz_bi]
  unfold traceA
  by_cases c1 : 0 ≤ i ∧ i ≤ 19
  · rw [if_pos c1, bX_e, r0, q2_J (by omega) (by omega) (by omega) (by omega)]
    by_cases c2 : (l.length : Int) ≤ i
    · rw [if_pos c2, if_neg (by omega)]; rfl
    · have hj : l[i.toNat]? = some (l.getD i.toNat 0) := by
        have : i.toNat < l.length := by omega
        simp [List.getD, this]
      rw [if_neg c2, cI_J (n := 20) (show 0 ≤ i by omega) (by omega) (by omega), bX_e, J_clamp (by omega) (by omega), r1 _ _ hj, if_pos (by omega)]
  · rw [if_neg c1, if_neg (by omega)]; rfl
theorem und_ok : (List.range 7).all (fun k => (List.range 7).all fun o => decide (undF (k : Int) 7 (o : Int) = decide (k = 0 ∨ o = k ∨ (k = 1 ∧ o = 4) ∨ (k = 2 ∧ o = 5) ∨ (k = 3 ∧ o = 6)))) = true := by decide +kernel
theorem und_at {k o : Int} (hk : 0 ≤ k ∧ k ≤ 6) (ho : 0 ≤ o ∧ o ≤ 6) : (undF k 7 o = true) = (k = 0 ∨ o = k ∨ (k = 1 ∧ o = 4) ∨ (k = 2 ∧ o = 5) ∨ (k = 3 ∧ o = 6)) := by
  have h := List.all_eq_true.mp (List.all_eq_true.mp und_ok k.toNat (List.mem_range.mpr (by omega))) o.toNat (List.mem_range.mpr (by omega))
  rw [Int.toNat_of_nonneg hk.1, Int.toNat_of_nonneg ho.1] at h
  have h := of_decide_eq_true h
  rw [h, decide_eq_true_eq]
  apply propext
  omega
theorem S_198 (hI : ShI A) (hR : ShN sh A m) {p k : Int} (h1 : -2147483648 ≤ p ∧ p ≤ 2147483647) (h2 : -2147483648 ≤ k ∧ k ≤ 2147483647) : cB Q0 (d + 3) 198 [.ref 177, .int (J p), .int (J k)] m = some (some (.int (J (takenA A p k))), m) := by
  have i0 := hI.1.1
  have a0 := hR.1.1
  have e1 := S_114 (m := m) (d := d) a0 i0.1 i0.2 h1.1 h1.2
  have e2 := S_109 (m := m) (d := d + 1) h2.1 h2.2 (show -2147483648 ≤ (0 : Int) by omega) (by omega) (show -2147483648 ≤ (6 : Int) by omega) (by omega)
  rw [cB_eq]
  show rB Q0 198 (cB Q0 (d + 2)) 0 [some (.ref 177), some (.int (J p)), some (.int (J k))] m = _
  rw [T_198_0, show cB Q0 (d + 2) 109 [.ref 177, .int (J k), .int 0, .int 6] m = _ from e2, bI_e, nz_bi]
  unfold takenA
  by_cases c1 : 0 ≤ k ∧ k ≤ 6
  · rw [if_pos c1, if_pos c1, e1, bI_e, nz_bi]
    by_cases c2 : 0 ≤ p ∧ p ≤ A.1 0 0 - 1
    · have hi := (hI.2.2.1 p c2.1 (by omega)).1.1
      obtain ⟨⟨t0, -⟩, -⟩ := hR.2.2.1 p c2.1 (by omega)
      rw [if_pos c2, if_pos c2, cI_J (n := 6) c2.1 (show p < 6 by omega) (by omega), bX_e, J_clamp c2.1 (by omega), t0]
      have hu := und_at c1 hi
      generalize A.2.1 p 0 0 = o at *
      have hv : (if undF k 7 o = true then o else -12) = if k = 0 ∨ o = k ∨ (k = 1 ∧ o = 4) ∨ (k = 2 ∧ o = 5) ∨ (k = 3 ∧ o = 6) then o else -12 := by
        simp only [hu]
      rw [hv]
      simp only [lits]
      simp (disch := omega) only [kk, lits, q0_J, q1_J, q2_J, cI_J, cT_J, cB_J, cZ_J, cS_J, c1_J, cA_J, J_clamp, u2_at, reduceIte]
      by_cases d0 : k = 0
      · rw [if_pos d0, if_pos (Or.inl d0)]
      · by_cases d1 : o = k
        · rw [if_neg d0, if_pos d1, if_pos (Or.inr (Or.inl d1))]
        · rw [if_neg d0, if_neg d1]
          by_cases k1 : k = 1
          · rw [if_pos k1, if_neg (show ¬ k = 2 by omega), if_neg (show ¬ k = 3 by omega)]
            by_cases d4 : o = 4
            · rw [if_pos d4, if_pos (by omega)]
            · rw [if_neg d4, if_neg (by omega)]
          · rw [if_neg k1]
            by_cases k2 : k = 2
            · rw [if_pos k2, if_neg (show ¬ k = 3 by omega)]
              by_cases d4 : o = 5
              · rw [if_pos d4, if_pos (by omega)]
              · rw [if_neg d4, if_neg (by omega)]
            · rw [if_neg k2]
              by_cases k3 : k = 3
              · rw [if_pos k3]
                by_cases d4 : o = 6
                · rw [if_pos d4, if_pos (by omega)]
                · rw [if_neg d4, if_neg (by omega)]
              · rw [if_neg k3, if_neg (by omega)]
    · rw [if_neg c2, if_neg c2]; rfl
  · rw [if_neg c1, if_neg c1]; rfl
theorem S_199 (hR : ShN sh A m) (hW : RwN A m) {n tx : Int} (hn : m.1 177 14 = J n) (ht : m.1 177 16 = J tx) (hL : LogN l m) {w : Int} (h1 : -2147483648 ≤ w ∧ w ≤ 2147483647) : cB Q0 (d + 1) 199 [.ref 177, .int (J w)] m = some (some (.int (J (countA A n tx l w))), m) := by
  have nk : ∀ (k : Int) {α : Type} (x y : α), 0 ≤ k → k ≤ 6 → bT (Q0.1 0 (J w) (J k)) x y = if w = k then x else y := fun k α x y z0 z1 => q0_J (by omega) (by omega) (by omega) (by omega) x y
  rw [cB_eq]
  show rB Q0 199 (cB Q0 d) 0 [some (.ref 177), some (.int (J w))] m = _
  rw [T_199_0, bX_e, bX_e, bX_e, bX_e, bX_e, bX_e, bX_e, hR.1.1, hn, hW.1.1, hW.2.1.1, hW.2.2.1, ht, hL.1, show (0 : Int32) = J 0 from rfl, show (1 : Int32) = J 1 from rfl, show (2 : Int32) = J 2 from rfl, show (3 : Int32) = J 3 from rfl, show (4 : Int32) = J 4 from rfl, show (5 : Int32) = J 5 from rfl, show (6 : Int32) = J 6 from rfl, nk 0 _ _ (by omega) (by omega), nk 1 _ _ (by omega) (by omega), nk 2 _ _ (by omega) (by omega), nk 3 _ _ (by omega) (by omega), nk 4 _ _ (by omega) (by omega), nk 5 _ _ (by omega) (by omega), nk 6 _ _ (by omega) (by omega)]
  unfold countA
  by_cases c0 : w = 0
  · rw [if_pos c0, if_pos c0]
  · rw [if_neg c0, if_neg c0]
    by_cases c1 : w = 1
    · rw [if_pos c1, if_pos c1]
    · rw [if_neg c1, if_neg c1]
      by_cases c2 : w = 2
      · rw [if_pos c2, if_pos c2]
      · rw [if_neg c2, if_neg c2]
        by_cases c3 : w = 3
        · rw [if_pos c3, if_pos c3]
        · rw [if_neg c3, if_neg c3]
          by_cases c4 : w = 4
          · rw [if_pos c4, if_pos c4]
          · rw [if_neg c4, if_neg c4]
            by_cases c5 : w = 5
            · rw [if_pos c5, if_pos c5]
            · rw [if_neg c5, if_neg c5]
              by_cases c6 : w = 6
              · rw [if_pos c6, if_pos c6]
              · rw [if_neg c6, if_neg c6]
                rfl
end
