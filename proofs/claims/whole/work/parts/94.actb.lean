/-! ACT, TRACE, TAKEN, COUNT, asked of the class -/
def actA (A : Shp) (p a : Int) (x : Int32) : Int32 := if 0 ≤ p ∧ p ≤ A.1 0 0 - 1 then (if 0 ≤ a ∧ a ≤ 2 then (if a = 0 then aC p (A.2.1 p 0 0) (A.2.1 p 0 1) x else if a = 1 then aN p (A.2.1 p 0 0) (A.2.1 p 0 1) x else aT p (A.2.1 p 0 0) (A.2.1 p 0 1) x) else J 0) else J 0
def actL (A : Shp) (p a : Int) : List Int := if 0 ≤ p ∧ p ≤ A.1 0 0 - 1 then (if 0 ≤ a ∧ a ≤ 2 then (if a = 0 then aLc (A.2.1 p 0 0) else if a = 1 then aLn (A.2.1 p 0 0) else aLt (A.2.1 p 0 0)) else []) else []
def traceA (l : List Int) (i : Int) : Int := if 0 ≤ i ∧ i < l.length then l.getD i.toNat 0 else -1
def abv (k : Int) : Int := if k = 0 then -1 else if k ≤ 3 then 0 else k - 3
def undF (k : Int) : Nat → Int → Bool
  | 0, _ => false
  | n + 1, o => if o = -1 then false else if o = k then true else undF k n (abv o)
def takenA (A : Shp) (p k : Int) : Int := if 0 ≤ k ∧ k ≤ 6 then (if 0 ≤ p ∧ p ≤ A.1 0 0 - 1 then (if undF k 7 (A.2.1 p 0 0) = true then A.2.1 p 0 0 else -12) else -11) else -2
def countA (A : Shp) (n tx : Int) (l : List Int) (w : Int) : Int := if w = 0 then A.1 0 0 else if w = 1 then n else if w = 2 then A.2.2 0 0 0 else if w = 3 then A.2.2 1 0 0 else if w = 4 then A.2.2 2 0 0 else if w = 5 then tx else if w = 6 then (l.length : Int) else -2
section
variable {m : SM} {d : Nat} {A : Shp} {l : List Int}
theorem S_77 (hI : ShI A) (hR : ShR 1 A m) (hC : ConC m) {p a : Int} {x : Int32} (h1 : -2147483648 ≤ p ∧ p ≤ 2147483647) (h2 : -2147483648 ≤ a ∧ a ≤ 2147483647) : ∃ m', cB Q0 (d + 9) 77 [.ref 0, .int (J p), .int (J a), .int x] m = some (some (.int (actA A p a x)), m') ∧ LogC (actL A p a) m' ∧ Fr aK m m' := by
  have i0 := hI.1.1
  have a0 := hR.1.1
  generalize hm1 : ((up2 m.1 132 1 (J 0), m.2) : SM) = m1
  have k1 : Fr aK m m1 := by rw [← hm1]; exact Fr.put (K := aK) (k := 132) (by unfold aK; omega) _ _
  have r1 : m1.1 132 1 = J 0 := by rw [← hm1]; show up2 m.1 132 1 (J 0) 132 1 = _; rw [u2_at, if_pos rfl]
  have b0 : m1.1 1 4 = J (A.1 0 0) := by rw [k1.1 1 (by unfold aK; omega)]; exact a0
  have hl0 : LogC [] m1 := ⟨r1, fun j b hj => absurd hj (by simp), by simp⟩
  have e1 := S_87 (m := m1) (d := d + 6) b0 i0.1 i0.2 h1.1 h1.2
  have e2 := S_85 (m := m1) (d := d + 7) h2.1 h2.2 (show -2147483648 ≤ (0 : Int) by omega) (by omega) (show -2147483648 ≤ (2 : Int) by omega) (by omega)
  have n0 : ∀ {α : Type} (x y : α), bT (Q0.1 0 (J a) 0) x y = if a = 0 then x else y := fun x y => q0_J (b := 0) (by omega) (by omega) (by omega) (by omega) x y
  have n1 : ∀ {α : Type} (x y : α), bT (Q0.1 0 (J a) 1) x y = if a = 1 then x else y := fun x y => q0_J (b := 1) (by omega) (by omega) (by omega) (by omega) x y
  rw [cB_eq]
  show ∃ m', rB Q0 77 (cB Q0 (d + 8)) 0 [some (.ref 0), some (.int (J p)), some (.int (J a)), some (.int x)] m = _ ∧ _
  rw [T_77_0, bX_e, show ((up2 m.1 132 1 0, m.2) : SM) = m1 from hm1, e1, bI_e, nz_bi]
  unfold actA actL
  by_cases c1 : 0 ≤ p ∧ p ≤ A.1 0 0 - 1
  · rw [if_pos c1, if_pos c1, if_pos c1, show cB Q0 (d + 8) 85 [.int (J a), .int 0, .int 2] m1 = _ from e2, bI_e, nz_bi]
    by_cases c2 : 0 ≤ a ∧ a ≤ 2
    · have hF := hd_F (Or.inl rfl : isS 1) c1.1 (by omega)
      have g5 : GRt 5 p.toNat = some (hd 1 p) := hd_g (Or.inl rfl : isS 1) c1.1 (by omega)
      have hi := (hI.2.2.1 p c1.1 (by omega)).1
      have hh : hd 1 p ≠ 132 ∧ hd 1 p ≠ 133 := by unfold hd; omega
      obtain ⟨⟨t0, t1, -⟩, -⟩ := hR.2.2.1 p c1.1 (by omega)
      generalize hm2 : ((up2 (up2 (up2 m1.1 132 2 (J p)) 132 3 (J (A.2.1 p 0 0))) 132 4 (J (A.2.1 p 0 1)), m1.2) : SM) = m2
      have k2 : Fr aK m1 m2 := by
        rw [← hm2]
        exact ((Fr.put (K := aK) (k := 132) (by unfold aK; omega) _ _).tr (Fr.put (K := aK) (k := 132) (by unfold aK; omega) _ _)).tr (Fr.put (K := aK) (k := 132) (by unfold aK; omega) _ _)
      have k12 := k1.tr k2
      have u0 : m1.1 (hd 1 p) 0 = J (A.2.1 p 0 0) := by rw [k1.1 _ (by unfold aK; omega)]; exact t0
      have u1 : m1.1 (hd 1 p) 1 = J (A.2.1 p 0 1) := by rw [k1.1 _ (by unfold aK; omega)]; exact t1
      have hA : ActC p (A.2.1 p 0 0) (A.2.1 p 0 1) [] m2 := by
        refine ⟨⟨?_, ?_, ?_⟩, ⟨?_, fun j b hj => absurd hj (by simp), by simp⟩, fun k h0 h1 => ?_⟩
        · rw [← hm2]; rfl
        · rw [← hm2]; rfl
        · rw [← hm2]; rfl
        · rw [← hm2]; exact r1
        · rw [k12.1 1001 (by unfold aK; omega), k12.1 1002 (by unfold aK; omega), k12.1 1003 (by unfold aK; omega)]
          exact hC k h0 h1
      have z0 : m2.1 (hd 1 p) 0 = J (A.2.1 p 0 0) := by rw [k2.1 _ (by unfold aK; omega)]; exact u0
      obtain ⟨y1, y2, y3⟩ := hA.2.2 (A.2.1 p 0 0) hi.1.1 hi.1.2
      obtain ⟨mc, c01, c02, c03⟩ := CC (d := d + 5) (x := x) hA hi.1 (dep := 0) (by omega) (by simp)
      obtain ⟨mn, n01, n02, n03⟩ := CN (d := d + 2) (x := x) hA hi.1 (dep := 0) (by omega) (by simp)
      obtain ⟨mt, t01, t02, t03⟩ := CT (d := d) (x := x) hA hi.1 (dep := 0) (by omega) (by simp)
      have hb : ∀ F : SM → Rs SM, (bX ((up2 m1.1 132 2 (J p), m1.2) : SM) fun m7 => bT (okO (SHt (hd 1 p)) 1) (bX (m7.1 (hd 1 p) 0) fun z8 => bX (up2 m7.1 132 3 z8, m7.2) fun m9 => bT (okO (SHt (hd 1 p)) 1) (bX (m9.1 (hd 1 p) 1) fun z10 => bX (up2 m9.1 132 4 z10, m9.2) F) none) none) = F m2 := by
        intro F
        have x0 : up2 m1.1 132 2 (J p) (hd 1 p) 0 = J (A.2.1 p 0 0) := by rw [u2_ne _ _ hh.1]; exact u0
        have x1 : up2 (up2 m1.1 132 2 (J p)) 132 3 (J (A.2.1 p 0 0)) (hd 1 p) 1 = J (A.2.1 p 0 1) := by rw [u2_ne _ _ hh.1, u2_ne _ _ hh.1]; exact u1
        simp only [bX_e, hF.1.1, cO_J]
        show F (up2 (up2 (up2 m1.1 132 2 (J p)) 132 3 (up2 m1.1 132 2 (J p) (hd 1 p) 0)) 132 4 (up2 (up2 m1.1 132 2 (J p)) 132 3 (up2 m1.1 132 2 (J p) (hd 1 p) 0) (hd 1 p) 1), m1.2) = F m2
        rw [x0, x1, hm2]
      rw [if_pos c2, if_pos c2, if_pos c2, cA_J (n := 6) (by omega) (by omega) c1.1 (show p < 6 by omega) (by omega), J_clamp c1.1 (by omega), g5, bO_e, hb, hF.1.1, n0]
      by_cases c3 : a = 0
      · rw [if_pos c3, if_pos c3, if_pos c3, cO_J, z0, bX_e, cT_J (n := 7) hi.1.1 (by omega) (by omega), bX_e, J_clamp hi.1.1 (by omega), y1, show cB Q0 (d + 8) 2 [.ref 132, .int (J (curls (A.2.1 p 0 0))), .int x, .int 0] m2 = _ from c01, bI_e]
        exact ⟨mc, rfl, c02.2.1, k12.tr c03⟩
      · rw [if_neg c3, if_neg c3, if_neg c3, n1]
        by_cases c4 : a = 1
        · rw [if_pos c4, if_pos c4, if_pos c4, cO_J, z0, bX_e, cT_J (n := 7) hi.1.1 (by omega) (by omega), bX_e, J_clamp hi.1.1 (by omega), y2, show cB Q0 (d + 8) 2 [.ref 132, .int (J (nods (A.2.1 p 0 0))), .int x, .int 0] m2 = _ from n01, bI_e]
          exact ⟨mn, rfl, n02.2.1, k12.tr n03⟩
        · rw [if_neg c4, if_neg c4, if_neg c4, cO_J, z0, bX_e, cT_J (n := 7) hi.1.1 (by omega) (by omega), bX_e, J_clamp hi.1.1 (by omega), y3, show cB Q0 (d + 8) 2 [.ref 132, .int (J (tells (A.2.1 p 0 0))), .int x, .int 0] m2 = _ from t01, bI_e]
          exact ⟨mt, rfl, t02.2.1, k12.tr t03⟩
    · rw [if_neg c2, if_neg c2, if_neg c2]
      exact ⟨m1, rfl, hl0, k1⟩
  · rw [if_neg c1, if_neg c1, if_neg c1]
    exact ⟨m1, rfl, hl0, k1⟩
theorem S_78 (hL : LogC l m) {i : Int} (h1 : -2147483648 ≤ i ∧ i ≤ 2147483647) : cB Q0 (d + 1) 78 [.ref 0, .int (J i)] m = some (some (.int (J (traceA l i))), m) := by
  obtain ⟨r0, r1, r2⟩ := hL
  have n0 : ∀ {α : Type} (x y : α), bT (Q0.1 1 (J i) 0) x y = if i < 0 then x else y := fun x y => q1_J (b := 0) (by omega) (by omega) (by omega) (by omega) x y
  have n20 : ∀ {α : Type} (x y : α), bT (Q0.1 2 20 (J i)) x y = if 20 ≤ i then x else y := fun x y => q2_J (a := 20) (by omega) (by omega) (by omega) (by omega) x y
  rw [cB_eq]
  show rB Q0 78 (cB Q0 d) 0 [some (.ref 0), some (.int (J i))] m = _
  rw [T_78_0, n0]
  unfold traceA
  by_cases c1 : i < 0
  · rw [if_pos c1, if_neg (by omega)]; rfl
  · rw [if_neg c1, bX_e, r0, q2_J (by omega) (by omega) (by omega) (by omega)]
    by_cases c2 : (l.length : Int) ≤ i
    · rw [if_pos c2, if_neg (by omega)]; rfl
    · have hj : l[i.toNat]? = some (l.getD i.toNat 0) := by
        have : i.toNat < l.length := by omega
        simp [List.getD, this]
      rw [if_neg c2, n20, if_neg (by omega), cI_J (n := 20) (show 0 ≤ i by omega) (by omega) (by omega), bX_e, J_clamp (by omega) (by omega), r1 _ _ hj, if_pos (by omega)]
theorem L_91 (hC : ∀ k : Int, 0 ≤ k → k ≤ 6 → m.1 1004 k.toNat = J (abv k)) {k : Int} (hk : 0 ≤ k ∧ k ≤ 6) {cf : Nat → List Value → SM → Rs SM} : ∀ (n : Nat) (c o : Int), 0 ≤ c → c + n = 7 → (-1 ≤ o ∧ o ≤ 6) → rB Q0 91 cf 4 [none, some (.int (J k)), some (.int (J o)), some (.int (J c))] m = some (some (.int (bi (undF k n o = true))), m) := by
  intro n
  induction n with
  | zero =>
    intro c o h0 h1 h2
    obtain rfl : c = 7 := by omega
    rw [T_91_4, show Q0.1 2 (Int32.ofNat 7) (J 7) = Q0.1 2 (J 7) (J 7) from rfl, q2_J (by omega) (by omega) (by omega) (by omega), if_pos (by omega), nr_0]
    rfl
  | succ n ih =>
    intro c o h0 h1 h2
    have nm : ∀ {α : Type} (x y : α), bT (Q0.1 0 (J o) (-1)) x y = if o = -1 then x else y := fun x y => q0_J (b := -1) (by omega) (by omega) (by omega) (by omega) x y
    rw [T_91_4, show Q0.1 2 (Int32.ofNat 7) (J c) = Q0.1 2 (J 7) (J c) from rfl, q2_J (by omega) (by omega) (by omega) (by omega), if_neg (by omega), nm]
    have eu : undF k (n + 1) o = if o = -1 then false else if o = k then true else undF k n (abv o) := rfl
    rw [eu]
    by_cases c1 : o = -1
    · rw [if_pos c1, nr_0, if_pos c1]; rfl
    · rw [if_neg c1, q0_J (by omega) (by omega) (by omega) (by omega), if_neg c1]
      by_cases c2 : o = k
      · rw [if_pos c2, nr_1, if_pos c2]; rfl
      · rw [if_neg c2, cT_J (n := 7) (show 0 ≤ o by omega) (by omega) (by omega), bX_e, J_clamp (by omega) (by omega), hC o (by omega) h2.2, show J c + 1 = J (c + 1) from J_add c 1, ih (c + 1) (abv o) (by omega) (by omega) (by unfold abv; (repeat' split) <;> omega)]
        simp only [if_neg c2]
theorem S_79 (hI : ShI A) (hR : ShR 1 A m) (hC : ∀ k : Int, 0 ≤ k → k ≤ 6 → m.1 1004 k.toNat = J (abv k)) {p k : Int} (h1 : -2147483648 ≤ p ∧ p ≤ 2147483647) (h2 : -2147483648 ≤ k ∧ k ≤ 2147483647) : cB Q0 (d + 3) 79 [.ref 0, .int (J p), .int (J k)] m = some (some (.int (J (takenA A p k))), m) := by
  have i0 := hI.1.1
  have a0 := hR.1.1
  have e1 := S_87 (m := m) (d := d) a0 i0.1 i0.2 h1.1 h1.2
  have e2 := S_85 (m := m) (d := d + 1) h2.1 h2.2 (show -2147483648 ≤ (0 : Int) by omega) (by omega) (show -2147483648 ≤ (6 : Int) by omega) (by omega)
  rw [cB_eq]
  show rB Q0 79 (cB Q0 (d + 2)) 0 [some (.ref 0), some (.int (J p)), some (.int (J k))] m = _
  rw [T_79_0, show cB Q0 (d + 2) 85 [.int (J k), .int 0, .int 6] m = _ from e2, bI_e, nz_bi]
  unfold takenA
  by_cases c1 : 0 ≤ k ∧ k ≤ 6
  · rw [if_pos c1, if_pos c1, e1, bI_e, nz_bi]
    by_cases c2 : 0 ≤ p ∧ p ≤ A.1 0 0 - 1
    · have hF := hd_F (Or.inl rfl : isS 1) c2.1 (by omega)
      have g5 : GRt 5 p.toNat = some (hd 1 p) := hd_g (Or.inl rfl : isS 1) c2.1 (by omega)
      have hi := (hI.2.2.1 p c2.1 (by omega)).1
      obtain ⟨⟨t0, -⟩, -⟩ := hR.2.2.1 p c2.1 (by omega)
      have e91 : cB Q0 (d + 2) 91 [.int (J (A.2.1 p 0 0)), .int (J k)] m = some (some (.int (bi (undF k 7 (A.2.1 p 0 0) = true))), m) := by
        rw [cB_eq]
        show rB Q0 91 (cB Q0 (d + 1)) 0 [some (.int (J (A.2.1 p 0 0))), some (.int (J k))] m = _
        rw [T_91_0]
        exact L_91 hC c1 7 0 _ (by omega) (by omega) (by omega)
      rw [if_pos c2, if_pos c2, cA_J (n := 6) (by omega) (by omega) c2.1 (show p < 6 by omega) (by omega), J_clamp c2.1 (by omega), g5, bO_e, hF.1.1, cO_J, bX_e, t0, e91, bI_e, nz_bi]
      by_cases c3 : undF k 7 (A.2.1 p 0 0) = true
      · rw [if_pos c3, if_pos c3]
      · rw [if_neg c3, if_neg c3]; rfl
    · rw [if_neg c2, if_neg c2]; rfl
  · rw [if_neg c1, if_neg c1]; rfl
theorem S_80 (hR : ShR 1 A m) {n tx : Int} (hn : m.1 0 6 = J n) (ht : m.1 129 1 = J tx) (hL : LogC l m) {w : Int} (h1 : -2147483648 ≤ w ∧ w ≤ 2147483647) : cB Q0 (d + 1) 80 [.ref 0, .int (J w)] m = some (some (.int (J (countA A n tx l w))), m) := by
  have nk : ∀ (k : Int) {α : Type} (x y : α), 0 ≤ k → k ≤ 6 → bT (Q0.1 0 (J w) (J k)) x y = if w = k then x else y := fun k α x y z0 z1 => q0_J (by omega) (by omega) (by omega) (by omega) x y
  have q0 : m.1 6 0 = J (A.2.2 0 0 0) := (hR.2.2.2 0 (by omega)).1
  have q1 : m.1 10 0 = J (A.2.2 1 0 0) := (hR.2.2.2 1 (by omega)).1
  have q2 : m.1 14 0 = J (A.2.2 2 0 0) := (hR.2.2.2 2 (by omega)).1
  rw [cB_eq]
  show rB Q0 80 (cB Q0 d) 0 [some (.ref 0), some (.int (J w))] m = _
  rw [T_80_0, bX_e, bX_e, bX_e, bX_e, bX_e, bX_e, bX_e, hR.1.1, hn, q0, q1, q2, ht, hL.1, show (0 : Int32) = J 0 from rfl, show (1 : Int32) = J 1 from rfl, show (2 : Int32) = J 2 from rfl, show (3 : Int32) = J 3 from rfl, show (4 : Int32) = J 4 from rfl, show (5 : Int32) = J 5 from rfl, show (6 : Int32) = J 6 from rfl, nk 0 _ _ (by omega) (by omega), nk 1 _ _ (by omega) (by omega), nk 2 _ _ (by omega) (by omega), nk 3 _ _ (by omega) (by omega), nk 4 _ _ (by omega) (by omega), nk 5 _ _ (by omega) (by omega), nk 6 _ _ (by omega) (by omega)]
  unfold countA
  by_cases c0 : w = 0
  · rw [if_pos c0, if_pos c0]
  · rw [if_neg c0, if_neg c0]
    by_cases c1 : w = 1
    · rw [if_pos c1, if_pos c1]
    · rw [if_neg c1, if_neg c1]
      by_cases c2 : w = 2
      · rw [if_pos c2, if_pos c2]
      · rw [if_neg c2, if_neg c2]
        by_cases c3 : w = 3
        · rw [if_pos c3, if_pos c3]
        · rw [if_neg c3, if_neg c3]
          by_cases c4 : w = 4
          · rw [if_pos c4, if_pos c4]
          · rw [if_neg c4, if_neg c4]
            by_cases c5 : w = 5
            · rw [if_pos c5, if_pos c5]
            · rw [if_neg c5, if_neg c5]
              by_cases c6 : w = 6
              · rw [if_pos c6, if_pos c6]
              · rw [if_neg c6, if_neg c6]
                rfl
end
