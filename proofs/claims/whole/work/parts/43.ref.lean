/-! THE REFERENCE: small methods, bits, begin, behind, rain -/
def FrR (K KI : Nat → Prop) (m m' : SM) : Prop := (∀ k, ¬ K k → k ≠ 177 → m'.1 k = m.1 k) ∧ (∀ i, ¬ KI i → m'.1 177 i = m.1 177 i) ∧ m'.2 = m.2
theorem FrR.rf {K KI : Nat → Prop} {m : SM} : FrR K KI m m := ⟨fun _ _ _ => rfl, fun _ _ => rfl, rfl⟩
theorem FrR.tr {K KI : Nat → Prop} {a b c : SM} (h1 : FrR K KI a b) (h2 : FrR K KI b c) : FrR K KI a c := ⟨fun k hk h => (h2.1 k hk h).trans (h1.1 k hk h), fun i hi => (h2.2.1 i hi).trans (h1.2.1 i hi), h2.2.2.trans h1.2.2⟩
theorem FrR.mono {K KI L LI : Nat → Prop} {a b : SM} (h : FrR K KI a b) (hKL : ∀ k, K k → L k) (hI : ∀ i, KI i → LI i) : FrR L LI a b := ⟨fun k hk h1 => h.1 k (fun z => hk (hKL k z)) h1, fun i hi => h.2.1 i fun z => hi (hI i z), h.2.2⟩
theorem FrR.put {K KI : Nat → Prop} {m : SM} {k : Nat} (hk : K k) (h7 : k ≠ 177) (i : Nat) (v : Int32) : FrR K KI m (up2 m.1 k i v, m.2) := ⟨fun j hj _ => u2_ne i v fun e => hj (by rw [e]; exact hk), fun j _ => by
  show up2 m.1 k i v 177 j = _
  rw [u2_ne i v (fun e => h7 e.symm)], rfl⟩
theorem FrR.put7 {K KI : Nat → Prop} {m : SM} {i : Nat} (hi : KI i) (v : Int32) : FrR K KI m (up2 m.1 177 i v, m.2) := ⟨fun j _ h => u2_ne i v h, fun j hj => by
  show up2 m.1 177 i v 177 j = _
  rw [u2_at, if_neg (fun e => hj (by rw [e]; exact hi))], rfl⟩
section
variable {m : SM} {d : Nat}
theorem S_109 {n a b : Int} (h1 : -2147483648 ≤ n) (h2 : n ≤ 2147483647) (h3 : -2147483648 ≤ a) (h4 : a ≤ 2147483647) (h5 : -2147483648 ≤ b) (h6 : b ≤ 2147483647) : cB Q0 (d + 1) 109 [.ref 177, .int (J n), .int (J a), .int (J b)] m = some (some (.int (bi (a ≤ n ∧ n ≤ b))), m) := by
  rw [cB_eq]
  show rB Q0 109 (cB Q0 d) 0 [some (.ref 177), some (.int (J n)), some (.int (J a)), some (.int (J b))] m = _
  rw [T_109_0]
  simp (disch := omega) only [kk, lits, q0_J, q1_J, q2_J, cI_J, cT_J, cB_J, cZ_J, cS_J, c1_J, cA_J, J_clamp, u2_at, reduceIte]
  unfold bi
  by_cases e1 : n < a
  · rw [if_pos e1, if_neg (by omega)]; rfl
  · by_cases e2 : b < n
    · rw [if_neg e1, if_pos e2, if_neg (by omega)]; rfl
    · rw [if_neg e1, if_neg e2, if_pos (by omega)]; rfl
theorem pbits_ok : (List.range 64).all (fun n => (List.range 6).all fun p => eqI ((J n >>> (J p &&& J 31)) &&& J 1) (J ((n / 2 ^ p % 2 : Nat) : Int)) && (eqI (J n &&& ((J 1 <<< (J p &&& J 31)) ^^^ J (-1))) (J ((n - (n / 2 ^ p % 2) * 2 ^ p : Nat) : Int)) && eqI (J n ||| (J 1 <<< (J p &&& J 31))) (J ((n + (1 - n / 2 ^ p % 2) * 2 ^ p : Nat) : Int)))) = true := by decide +kernel
def bitP (x p : Int) : Int := ((x.toNat / 2 ^ p.toNat % 2 : Nat) : Int)
def clrP (x p : Int) : Int := ((x.toNat - (x.toNat / 2 ^ p.toNat % 2) * 2 ^ p.toNat : Nat) : Int)
def setP (x p : Int) : Int := ((x.toNat + (1 - x.toNat / 2 ^ p.toNat % 2) * 2 ^ p.toNat : Nat) : Int)
theorem pbits_at {x p : Int} (h0 : 0 ≤ x) (h1 : x < 64) (h2 : 0 ≤ p) (h3 : p < 6) : (J x >>> (J p &&& J 31)) &&& J 1 = J (bitP x p) ∧ J x &&& ((J 1 <<< (J p &&& J 31)) ^^^ J (-1)) = J (clrP x p) ∧ J x ||| (J 1 <<< (J p &&& J 31)) = J (setP x p) := by
  have h := List.all_eq_true.mp (List.all_eq_true.mp pbits_ok x.toNat (List.mem_range.mpr (by omega))) p.toNat (List.mem_range.mpr (by omega))
  simp only [Bool.and_eq_true] at h
  rw [Int.toNat_of_nonneg h0, Int.toNat_of_nonneg h2] at h
  exact ⟨eqI_spec h.1, eqI_spec h.2.1, eqI_spec h.2.2⟩
theorem pbits_of : (List.range 64).all (fun n => (List.range 6).all fun p => (List.range 6).all fun q => decide (bitP (clrP n p) q = if p = q then 0 else bitP n q) && (decide (bitP (setP n p) q = if p = q then 1 else bitP n q) && (decide (0 ≤ clrP n p) && (decide (clrP n p < 64) && (decide (0 ≤ setP n p) && decide (setP n p < 64)))))) = true := by decide +kernel
theorem pbits_q {x p q : Int} (h0 : 0 ≤ x) (h1 : x < 64) (h2 : 0 ≤ p) (h3 : p < 6) (h4 : 0 ≤ q) (h5 : q < 6) : bitP (clrP x p) q = (if p = q then 0 else bitP x q) ∧ bitP (setP x p) q = (if p = q then 1 else bitP x q) ∧ 0 ≤ clrP x p ∧ clrP x p < 64 ∧ 0 ≤ setP x p ∧ setP x p < 64 := by
  have h := List.all_eq_true.mp (List.all_eq_true.mp (List.all_eq_true.mp pbits_of x.toNat (List.mem_range.mpr (by omega))) p.toNat (List.mem_range.mpr (by omega))) q.toNat (List.mem_range.mpr (by omega))
  simp only [Bool.and_eq_true, decide_eq_true_eq] at h
  rw [Int.toNat_of_nonneg h0, Int.toNat_of_nonneg h2, Int.toNat_of_nonneg h4] at h
  have e : (p.toNat = q.toNat) = (p = q) := by
    apply propext
    omega
  simp only [e] at h
  exact ⟨h.1, h.2.1, h.2.2.1, h.2.2.2.1, h.2.2.2.2.1, h.2.2.2.2.2⟩
theorem bitP_in (x p : Int) : bitP x p = 0 ∨ bitP x p = 1 := by
  unfold bitP
  omega
theorem S_110 {x p : Int} (h0 : 0 ≤ x) (h1 : x < 64) (h2 : 0 ≤ p) (h3 : p < 6) : cB Q0 (d + 1) 110 [.ref 177, .int (J x), .int (J p)] m = some (some (.int (bi (bitP x p = 1))), m) := by
  have hb := (pbits_at h0 h1 h2 h3).1
  have hi := bitP_in x p
  rw [cB_eq]
  show rB Q0 110 (cB Q0 d) 0 [some (.ref 177), some (.int (J x)), some (.int (J p))] m = _
  rw [T_110_0]
  simp only [lits, hb]
  simp (disch := omega) only [kk, lits, q0_J, q1_J, q2_J, cI_J, cT_J, cB_J, cZ_J, cS_J, c1_J, cA_J, J_clamp, u2_at, reduceIte]
  unfold bi
  split <;> rfl
theorem S_111 {x y : Int} (h1 : -2147483648 ≤ x) (h2 : x ≤ 2147483647) (h3 : -2147483648 ≤ y) (h4 : y ≤ 2147483647) : cB Q0 (d + 1) 111 [.ref 177, .int (J x), .int (J y)] m = some (some (.int (J (if x < y then x else y))), m) := by
  rw [cB_eq]
  show rB Q0 111 (cB Q0 d) 0 [some (.ref 177), some (.int (J x)), some (.int (J y))] m = _
  rw [T_111_0]
  simp (disch := omega) only [kk, lits, q0_J, q1_J, q2_J, cI_J, cT_J, cB_J, cZ_J, cS_J, c1_J, cA_J, J_clamp, u2_at, reduceIte]
  by_cases e : x < y
  · rw [if_neg (by omega), if_pos e]
  · rw [if_pos (by omega), if_neg e]
theorem S_112 {x y : Int} (h1 : -1000000000 ≤ x) (h2 : x ≤ 1000000000) (h3 : -1000000000 ≤ y) (h4 : y ≤ 1000000000) : cB Q0 (d + 1) 112 [.ref 177, .int (J x), .int (J y)] m = some (some (.int (J (ab (x - y)))), m) := by
  rw [cB_eq]
  show rB Q0 112 (cB Q0 d) 0 [some (.ref 177), some (.int (J x)), some (.int (J y))] m = _
  rw [T_112_0]
  simp (disch := omega) only [kk, lits, q0_J, q1_J, q2_J, cI_J, cT_J, cB_J, cZ_J, cS_J, c1_J, cA_J, J_clamp, u2_at, reduceIte]
  unfold ab
  by_cases e : y ≤ x
  · rw [if_pos e, if_pos (by omega)]
  · rw [if_neg e, if_neg (by omega)]
    rw [show y - x = -(x - y) by omega]
theorem S_114 {n p : Int} (hc : m.1 177 0 = J n) (h0 : 0 ≤ n) (h9 : n ≤ 6) (h1 : -2147483648 ≤ p) (h2 : p ≤ 2147483647) : cB Q0 (d + 2) 114 [.ref 177, .int (J p)] m = some (some (.int (bi (0 ≤ p ∧ p ≤ n - 1))), m) := by
  rw [cB_eq]
  show rB Q0 114 (cB Q0 (d + 1)) 0 [some (.ref 177), some (.int (J p))] m = _
  rw [T_114_0]
  simp (disch := omega) only [kk, lits, q0_J, q1_J, q2_J, cI_J, cT_J, cB_J, cZ_J, cS_J, c1_J, cA_J, J_clamp, u2_at, reduceIte, hc, S_109]
theorem S_115 {p : Int} (h1 : -2147483648 ≤ p) (h2 : p ≤ 2147483647) : cB Q0 (d + 2) 115 [.ref 177, .int (J p)] m = some (some (.int (bi (0 ≤ p ∧ p ≤ 7))), m) := by
  rw [cB_eq]
  show rB Q0 115 (cB Q0 (d + 1)) 0 [some (.ref 177), some (.int (J p))] m = _
  rw [T_115_0]
  simp (disch := omega) only [kk, lits, q0_J, q1_J, q2_J, cI_J, cT_J, cB_J, cZ_J, cS_J, c1_J, cA_J, J_clamp, u2_at, reduceIte, S_109]
theorem S_116 {p : Int} (h1 : -2147483648 ≤ p) (h2 : p ≤ 2147483647) : cB Q0 (d + 2) 116 [.ref 177, .int (J p)] m = some (some (.int (bi (0 ≤ p ∧ p ≤ 7))), m) := by
  rw [cB_eq]
  show rB Q0 116 (cB Q0 (d + 1)) 0 [some (.ref 177), some (.int (J p))] m = _
  rw [T_116_0]
  simp (disch := omega) only [kk, lits, q0_J, q1_J, q2_J, cI_J, cT_J, cB_J, cZ_J, cS_J, c1_J, cA_J, J_clamp, u2_at, reduceIte, S_109]
theorem S_117 {p : Int} (h1 : -2147483648 ≤ p) (h2 : p ≤ 2147483647) : cB Q0 (d + 2) 117 [.ref 177, .int (J p)] m = some (some (.int (bi (0 ≤ p ∧ p ≤ 99))), m) := by
  rw [cB_eq]
  show rB Q0 117 (cB Q0 (d + 1)) 0 [some (.ref 177), some (.int (J p))] m = _
  rw [T_117_0]
  simp (disch := omega) only [kk, lits, q0_J, q1_J, q2_J, cI_J, cT_J, cB_J, cZ_J, cS_J, c1_J, cA_J, J_clamp, u2_at, reduceIte, S_109]
theorem S_118 {p : Int} (h1 : -2147483648 ≤ p) (h2 : p ≤ 2147483647) : cB Q0 (d + 2) 118 [.ref 177, .int (J p)] m = some (some (.int (bi (0 ≤ p ∧ p ≤ 60))), m) := by
  rw [cB_eq]
  show rB Q0 118 (cB Q0 (d + 1)) 0 [some (.ref 177), some (.int (J p))] m = _
  rw [T_118_0]
  simp (disch := omega) only [kk, lits, q0_J, q1_J, q2_J, cI_J, cT_J, cB_J, cZ_J, cS_J, c1_J, cA_J, J_clamp, u2_at, reduceIte, S_109]
theorem S_200 {p : Int} (h1 : -2147483648 ≤ p) (h2 : p ≤ 2147483647) : cB Q0 (d + 2) 200 [.ref 177, .int (J p)] m = some (some (.int (bi (0 ≤ p ∧ p ≤ 5))), m) := by
  rw [cB_eq]
  show rB Q0 200 (cB Q0 (d + 1)) 0 [some (.ref 177), some (.int (J p))] m = _
  rw [T_200_0]
  simp (disch := omega) only [kk, lits, q0_J, q1_J, q2_J, cI_J, cT_J, cB_J, cZ_J, cS_J, c1_J, cA_J, J_clamp, u2_at, reduceIte, S_109]
/-! THEATRES of the reference: clauses with their kinds (0 warm, 1 cool, 2 rain), numbers, steps (in the class's numbers) -/
abbrev Cla : Type := List (Int × Int × List Int)
def rainL : Int → Cla → Int
  | n, [] => n
  | n, (w, k, _) :: r => rainL (if w = 2 then k else n) r
def clsL : Cla → Cls
  | [] => []
  | (w, k, ts) :: r => if w = 2 then clsL r else ((if w = 0 then k else -k), ts) :: clsL r
/-- a step's number in the reference -/
def rco (t : Int) : Int := if t = -1 then -33 else if t = -2 then -38 else if t = -3 then -124 else 1000 * (t / 300) + 100 * (t / 100 % 3) + t % 100
def SigAt (m : SM) : Int → List Int → Prop
  | _, [] => True
  | i, t :: ts => m.1 194 i.toNat = J (rco t) ∧ SigAt m (i + 1) ts
def CluAt (m : SM) : Int → Cla → Prop
  | _, [] => True
  | i, (w, k, ts) :: r => (m.1 190 i.toNat = J w ∧ m.1 191 i.toNat = J k ∧ (w ≠ 2 → ∃ a : Int, m.1 192 i.toNat = J a ∧ m.1 193 i.toNat = J (a + ts.length) ∧ 0 ≤ a ∧ a + ts.length ≤ 600 ∧ SigAt m a ts)) ∧ CluAt m (i + 1) r
def ClaI : Cla → Prop
  | [] => True
  | (w, k, ts) :: r => (0 ≤ w ∧ w ≤ 2) ∧ (0 ≤ k ∧ k ≤ 99) ∧ (w ≠ 2 → ts ≠ [] ∧ WfT ts 0) ∧ ClaI r
/-- the stage of the reference -/
def StgN (h : Int) (L : Cla) (m : SM) : Prop := m.1 177 15 = J h ∧ ((h = -1 ∧ L = []) ∨ ((0 ≤ h ∧ h ≤ 5) ∧ m.1 189 h.toNat = J (L.length : Int) ∧ L.length ≤ 10 ∧ CluAt m (10 * h) L)) ∧ ClaI L
def begL (h : Int) : Int := if h < 0 then 0 else 10 * h
theorem S_143 {h : Int} {L : Cla} (hS : StgN h L m) : cB Q0 (d + 1) 143 [.ref 177] m = some (some (.int (J (begL h))), m) := by
  have h15 := hS.1
  have hr : -1 ≤ h ∧ h ≤ 5 := by rcases hS.2.1 with ⟨e, -⟩ | ⟨e, -⟩ <;> omega
  rw [cB_eq]
  show rB Q0 143 (cB Q0 d) 0 [some (.ref 177)] m = _
  rw [T_143_0]
  simp (disch := omega) only [kk, lits, q0_J, q1_J, q2_J, cI_J, cT_J, cB_J, cZ_J, cS_J, c1_J, cA_J, J_clamp, u2_at, reduceIte, h15]
  unfold begL
  by_cases e : 0 ≤ h
  · rw [if_pos e, if_neg (by omega)]
  · rw [if_neg e, if_pos (by omega)]
theorem S_144 {h : Int} {L : Cla} (hS : StgN h L m) : cB Q0 (d + 1) 144 [.ref 177] m = some (some (.int (J (begL h + L.length))), m) := by
  have h15 := hS.1
  rw [cB_eq]
  show rB Q0 144 (cB Q0 d) 0 [some (.ref 177)] m = _
  rw [T_144_0]
  unfold begL
  rcases hS.2.1 with ⟨e, e2⟩ | ⟨e, e2, -⟩
  · subst e e2
    simp (disch := omega) only [kk, lits, q0_J, q1_J, q2_J, cI_J, cT_J, cB_J, cZ_J, cS_J, c1_J, cA_J, J_clamp, u2_at, reduceIte, h15]
    rfl
  · simp (disch := omega) only [kk, lits, q0_J, q1_J, q2_J, cI_J, cT_J, cB_J, cZ_J, cS_J, c1_J, cA_J, J_clamp, u2_at, reduceIte, h15, e2]
    rw [if_pos e.1, if_neg (by omega)]
theorem L_145 {h : Int} {L : Cla} (hS : StgN h L m) : ∀ (r : Cla) (i n : Int), 0 ≤ i → i + r.length = begL h + L.length → begL h + L.length ≤ 60 → CluAt m i r → ClaI r → rB Q0 145 (cB Q0 (d + 1)) 7 [some (.ref 177), some (.int (J n)), some (.int (J i))] m = some (some (.int (J (rainL n r))), m)
  | [], i, n, h0, h1, h6, _, _ => by
    have h1 : i + ((0 : Nat) : Int) = begL h + L.length := h1
    rw [T_145_7]
    simp (disch := omega) only [kk, lits, q0_J, q1_J, q2_J, cI_J, cT_J, cB_J, cZ_J, cS_J, c1_J, cA_J, J_clamp, u2_at, reduceIte, S_144 hS]
    rw [if_pos (by omega)]
    rfl
  | (w, k, ts) :: r, i, n, h0, h1, h6, hA, hI => by
    have h1 : i + ((r.length + 1 : Nat) : Int) = begL h + L.length := h1
    have ha := hA.1
    have hi := hI
    unfold ClaI at hi
    rw [T_145_7]
    simp (disch := omega) only [kk, lits, q0_J, q1_J, q2_J, cI_J, cT_J, cB_J, cZ_J, cS_J, c1_J, cA_J, J_clamp, u2_at, reduceIte, S_144 hS, ha.1, ha.2.1]
    rw [if_neg (by omega)]
    have e9 : rainL n ((w, k, ts) :: r) = rainL (if w = 2 then k else n) r := rfl
    rw [e9]
    by_cases e : w = 2
    · rw [if_pos e, if_pos e]
      exact L_145 hS r (i + 1) k (by omega) (by omega) h6 hA.2 hi.2.2.2
    · rw [if_neg e, if_neg e]
      exact L_145 hS r (i + 1) n (by omega) (by omega) h6 hA.2 hi.2.2.2
theorem S_145 {h : Int} {L : Cla} (hS : StgN h L m) : cB Q0 (d + 2) 145 [.ref 177] m = some (some (.int (J (rainL 0 L))), m) := by
  rw [cB_eq]
  show rB Q0 145 (cB Q0 (d + 1)) 0 [some (.ref 177)] m = _
  rw [T_145_0]
  simp (disch := omega) only [kk, lits, q0_J, q1_J, q2_J, cI_J, cT_J, cB_J, cZ_J, cS_J, c1_J, cA_J, J_clamp, u2_at, reduceIte, S_143 hS]
  rcases hS.2.1 with ⟨e, e2⟩ | ⟨e, e2, e3, e4⟩
  · subst e e2
    exact L_145 (d := d) hS [] _ 0 (by unfold begL; omega) (by simp) (by unfold begL; simp) trivial trivial
  · have hb : begL h = 10 * h := by unfold begL; rw [if_neg (by omega)]
    exact L_145 (d := d) hS L _ 0 (by omega) (by omega) (by omega) (by rw [hb]; exact e4) hS.2.2
end
