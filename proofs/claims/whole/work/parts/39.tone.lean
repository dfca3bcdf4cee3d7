/-! what a THEATRE warms; the shade of a DRAWER on a HEAD (class) -/
abbrev Cls : Type := List (Int × List Int)
def totC : Cls → Int
  | [] => 0
  | (_, ts) :: r => ts.length + totC r
def warm (lt : Int → Int) : Cls → Int
  | [] => 0
  | (w, ts) :: r => hd1 (evL lt ts []) * w + warm lt r
def ClsAt (q : Nat) (m : SM) : Int → Int → Cls → Prop
  | _, _, [] => True
  | k, i, (w, ts) :: r => m.1 (q + 1) k.toNat = J w ∧ m.1 (q + 2) k.toNat = J (i + ts.length) ∧ StepsAt q m i ts ∧ ClsAt q m (k + 1) (i + ts.length) r
def ClsI : Cls → Prop
  | [] => True
  | (w, ts) :: r => (-99 ≤ w ∧ w ≤ 99) ∧ ts ≠ [] ∧ WfT ts 0 ∧ ClsI r
def TheC (q : Nat) (T : Int × Cls) (m : SM) : Prop := m.1 q 0 = J T.1 ∧ m.1 q 1 = J (T.2.length : Int) ∧ m.1 q 2 = J (totC T.2) ∧ ClsAt q m 0 0 T.2
def ThI (T : Int × Cls) : Prop := (0 ≤ T.1 ∧ T.1 ≤ 99) ∧ T.2.length ≤ 10 ∧ totC T.2 ≤ 100 ∧ ClsI T.2
theorem totC_nn : ∀ c : Cls, 0 ≤ totC c
  | [] => Int.le_refl _
  | (_, ts) :: r => by
    have := totC_nn r
    unfold totC
    omega
theorem hd1_in (st : List Bool) : hd1 st = 0 ∨ hd1 st = 1 := by
  cases st with
  | nil => exact Or.inl rfl
  | cons b r => cases b <;> simp [hd1]
theorem warm_bd (lt : Int → Int) : ∀ c : Cls, ClsI c → -(99 * (c.length : Int)) ≤ warm lt c ∧ warm lt c ≤ 99 * c.length
  | [], _ => by simp [warm]
  | (w, ts) :: r, h => by
    have h1 := warm_bd lt r h.2.2.2
    have h2 := h.1
    unfold warm
    rw [List.length_cons]
    rcases hd1_in (evL lt ts []) with e | e <;> rw [e] <;> omega
theorem StepsAt.fr {q : Nat} {m m' : SM} (h : m'.1 (q + 3) = m.1 (q + 3)) : ∀ (ts : List Int) (i : Int), StepsAt q m i ts → StepsAt q m' i ts
  | [], _, _ => trivial
  | t :: ts, i, g => ⟨by rw [h]; exact g.1, StepsAt.fr h ts (i + 1) g.2⟩
theorem ClsAt.fr {q : Nat} {m m' : SM} (h1 : m'.1 (q + 1) = m.1 (q + 1)) (h2 : m'.1 (q + 2) = m.1 (q + 2)) (h3 : m'.1 (q + 3) = m.1 (q + 3)) : ∀ (c : Cls) (k i : Int), ClsAt q m k i c → ClsAt q m' k i c
  | [], _, _, _ => trivial
  | (w, ts) :: r, k, i, g => ⟨by rw [h1]; exact g.1, by rw [h2]; exact g.2.1, StepsAt.fr h3 ts i g.2.2.1, ClsAt.fr h1 h2 h3 r _ _ g.2.2.2⟩
theorem TheC.fr {q : Nat} {T : Int × Cls} {m m' : SM} {K : Nat → Prop} (h : TheC q T m) (hF : Fr K m m') (hK : ∀ k, q ≤ k → k ≤ q + 3 → ¬ K k) : TheC q T m' := by
  have e0 := hF.1 q (hK _ (by omega) (by omega))
  have e1 := hF.1 (q + 1) (hK _ (by omega) (by omega))
  have e2 := hF.1 (q + 2) (hK _ (by omega) (by omega))
  have e3 := hF.1 (q + 3) (hK _ (by omega) (by omega))
  exact ⟨by rw [e0]; exact h.1, by rw [e0]; exact h.2.1, by rw [e0]; exact h.2.2.1, ClsAt.fr e1 e2 e3 _ _ _ h.2.2.2⟩
section
variable {q : Nat} {m : SM} {d : Nat} {lt : Int → Int}
theorem L_47c (hF : ThF q) (hL : LetR lt m) (hb : ∀ j : Int, 0 ≤ j → j < 6 → -1000000 ≤ lt j ∧ lt j ≤ 1000000) {n tot : Int} (h1 : m.1 q 1 = J n) (h2 : m.1 q 2 = J tot) (hn : n ≤ 10) (ht : tot ≤ 100) : ∀ (c : Cls) (k i sum : Int), 0 ≤ k → 0 ≤ i → k + c.length = n → i + totC c = tot → ClsI c → ClsAt q m k i c → rB Q0 47 (cB Q0 (d + 1)) 10 [some (.ref q), some (.ref 137), some (.int (J sum)), some (.int (J k)), some (.int (J 0)), some (.int (J i))] m = some (some (.int (J (sum + warm lt c))), m)
  | [], k, i, sum, hk, hi, e1, e2, _, _ => by
    have f1 := hF.1
    unfold totC at e2
    rw [T_47_10]
    simp (disch := omega) only [kk, lits, q0_J, q1_J, q2_J, cI_J, cT_J, cB_J, cZ_J, cS_J, c1_J, cA_J, J_clamp, u2_at, reduceIte, f1, h1, h2]
    rw [if_pos (by omega)]
    simp [warm]
  | (w, ts) :: r, k, i, sum, hk, hi, e1, e2, hI, hA => by
    have e2 : i + (ts.length + totC r) = tot := e2
    have e1 : k + ((r.length + 1 : Nat) : Int) = n := e1
    have hr := totC_nn r
    have key := L_47t (d := d) hF hL hb h1 h2 (k := k) (w := w) (E := i + ts.length) ⟨hk, by omega⟩ hn ht (by omega) hA.1 hA.2.1 ts [] i sum hI.2.1 hi rfl hI.2.2.1 (by simp) hA.2.2.1
    have : enc [] = 0 := rfl
    rw [this] at key
    rw [key, L_47c hF hL hb h1 h2 hn ht r (k + 1) (i + ts.length) _ (by omega) (by omega) (by omega) (by omega) hI.2.2.2 hA.2.2.2]
    have e9 : warm lt ((w, ts) :: r) = hd1 (evL lt ts []) * w + warm lt r := rfl
    rw [e9, Int.add_assoc]
theorem S_47 (hF : ThF q) (hL : LetR lt m) (hb : ∀ j : Int, 0 ≤ j → j < 6 → -1000000 ≤ lt j ∧ lt j ≤ 1000000) {T : Int × Cls} (hT : TheC q T m) (hI : ThI T) : cB Q0 (d + 2) 47 [.ref q, .ref 137] m = some (some (.int (J (warm lt T.2))), m) := by
  rw [cB_eq]
  show rB Q0 47 (cB Q0 (d + 1)) 0 [some (.ref q), some (.ref 137)] m = _
  rw [T_47_0]
  have := L_47c (d := d) hF hL hb hT.2.1 hT.2.2.1 (by have := hI.2.1; omega) hI.2.2.1 T.2 0 0 0 (by omega) (by omega) (by omega) (by omega) hI.2.2.2 hT.2.2.2
  rw [Int.zero_add] at this
  exact this
end
/-- the stage of a SHOP: how many THEATRES, and what its own says -/
def Stg (n : Int) (T : Int × Cls) (A : Shp) (m : SM) : Prop := (m.1 0 6 = J n ∧ 0 ≤ n ∧ n ≤ 6) ∧ TheC (thS (A.1 0 3) n) T m ∧ ThI T
theorem thS_in (h n : Int) (hn : n ≤ 6) : (125 ≤ thS h n ∧ thS h n + 3 ≤ 128) ∨ (141 ≤ thS h n ∧ thS h n + 3 ≤ 164) := by
  unfold thS
  split <;> omega
theorem Stg.fr {n : Int} {T : Int × Cls} {A : Shp} {m m' : SM} {K : Nat → Prop} (h : Stg n T A m) (hF : Fr K m m') (hK : ∀ k, (k = 0 ∨ (125 ≤ k ∧ k ≤ 128) ∨ (141 ≤ k ∧ k ≤ 164)) → ¬ K k) : Stg n T A m' := by
  have h6 := h.1.2.2
  have := thS_in (A.1 0 3) n h6
  exact ⟨⟨by rw [hF.1 0 (hK 0 (Or.inl rfl))]; exact h.1.1, h.1.2⟩, h.2.1.fr hF fun k h1 h2 => hK k (by omega), h.2.2⟩
def lets (A : Shp) (p dr l : Int) : Int → Int := fun j => if j = 0 then p else if j = 1 then A.2.1 p 0 0 else if j = 2 then A.2.1 p 0 1 else if j = 3 then dr else if j = 4 then l else A.1 0 1 % 10
def plainA (A : Shp) (dr l : Int) : Int := if l = 0 then A.1 1 dr else A.1 2 dr
def toneA (A : Shp) (c : Cls) (p dr l : Int) : Int := toneH (A.2.1 p) (plainA A dr l + warm (lets A p dr l) c) dr l (A.1 0 1)
theorem toneH_bd {H : Nat → Int → Int} (hI : HeadI H) {s dr l n : Int} (hs : -2000 ≤ s ∧ s ≤ 2000) (hn : 0 ≤ n) (hd : 0 ≤ dr) : -3000 ≤ toneH H s dr l n ∧ toneH H s dr l n ≤ 3000 := by
  have i1 := hI.1.2.1
  have i2 := hI.1.2.2.1
  have i3 := hI.2.1 (dr % 4) (by omega) (by omega)
  have hq : -2000 ≤ s.tdiv 2 ∧ s.tdiv 2 ≤ 2000 := by
    rcases Int.le_total 0 s with h | h
    · rw [Int.tdiv_eq_ediv_of_nonneg h]; omega
    · have e : s.tdiv 2 = -((-s) / 2) := by
        have := Int.tdiv_eq_ediv_of_nonneg (a := -s) (b := 2) (by omega)
        rw [Int.neg_tdiv] at this
        omega
      omega
  unfold toneH byFront
  split
  · split <;> omega
  · split
    · omega
    · split
      · split <;> omega
      · split
        · split
          · omega
          · split <;> omega
        · split
          · omega
          · split
            · split <;> omega
            · omega
theorem plain_in {A : Shp} (hI : ShI A) {dr l : Int} (hd : 0 ≤ dr ∧ dr ≤ 7) : 0 ≤ plainA A dr l ∧ plainA A dr l ≤ 99 := by
  unfold plainA
  split
  · exact hI.2.1 1 (by omega) (by omega) dr hd.1 (by omega)
  · exact hI.2.1 2 (by omega) (by omega) dr hd.1 (by omega)
theorem toneA_bd {A : Shp} (hI : ShI A) {T : Int × Cls} (hT : ThI T) {p dr l : Int} (hp : 0 ≤ p ∧ p < A.1 0 0) (hd : 0 ≤ dr ∧ dr ≤ 7) : -3000 ≤ toneA A T.2 p dr l ∧ toneA A T.2 p dr l ≤ 3000 := by
  have h1 := plain_in hI (l := l) hd
  have h2 := warm_bd (lets A p dr l) T.2 hT.2.2.2
  have h3 := hT.2.1
  have h4 := hI.1.2.1
  exact toneH_bd (hI.2.2.1 p hp.1 hp.2) (by omega) (by omega) hd.1
section
variable {s : Nat} {A : Shp} {m : SM} {d : Nat} {n : Int} {T : Int × Cls}
theorem S_93 (hs : isS s) (hR : ShR s A m) (hI : ShI A) (hG : Stg n T A m) {p dr l : Int} (hp : 0 ≤ p ∧ p < A.1 0 0) (hdr : 0 ≤ dr ∧ dr ≤ 7) (hl : 0 ≤ l ∧ l ≤ 1) : ∃ m', cB Q0 (d + 3) 93 [.ref 0, .ref s, .int (J p), .int (J dr), .int (J l)] m = some (some (.int (J (toneA A T.2 p dr l))), m') ∧ Fr (fun k => k = 137) m m' := by
  have i0 := hI.1.1
  have i1 := hI.1.2.1
  have i3 := hI.1.2.2.2
  have hF := hd_F hs hp.1 (by omega)
  have hgp := hd_g hs hp.1 (show p < 6 by omega)
  have hH := hR.2.2.1 p hp.1 hp.2
  have hHI := hI.2.2.1 p hp.1 hp.2
  obtain ⟨⟨f1, g1, g2, -, g4, -⟩, ⟨f5, f6, -, f8⟩, -⟩ := shF hs
  have a0 := hH.1.1
  have a1 := hH.1.2.1
  have an := hR.1.2.1
  have ah := hR.1.2.2.2
  have b0 := hHI.1.1
  have b1 := hHI.1.2.1
  have e10 : A.1 0 1 - (A.1 0 1).tdiv 10 * 10 = A.1 0 1 % 10 := by rw [Int.tdiv_eq_ediv_of_nonneg i1.1]; omega
  have hsr : s < 137 ∧ s ≠ 137 := by rcases hs with h | h | h <;> omega
  have hhp : hd s p ≠ 137 ∧ hd s p + 3 < 137 := by unfold hd; rcases hs with h | h | h <;> omega
  have hsk : s + 40 < 137 := by rcases hs with h | h | h <;> omega
  have hlm : ∀ j : Int, 0 ≤ j → j < 8 → m.1 (s + 1) j.toNat = J (A.1 1 j) := fun j h0 h1 => hR.2.1 1 (by omega) (by omega) j h0 h1
  have hdm : ∀ j : Int, 0 ≤ j → j < 8 → m.1 (s + 2) j.toNat = J (A.1 2 j) := fun j h0 h1 => hR.2.1 2 (by omega) (by omega) j h0 h1
  have hpl := plain_in hI (l := l) hdr
  have hw := warm_bd (lets A p dr l) T.2 hG.2.2.2.2.2
  have hT10 := hG.2.2.2.1
  -- the letters are written
  generalize hm1 : (up2 (up2 (up2 (up2 (up2 (up2 m.1 137 (Int.toNat 0) (J p)) 137 (Int.toNat 1) (J (A.2.1 p 0 0))) 137 (Int.toNat 2) (J (A.2.1 p 0 1))) 137 (Int.toNat 3) (J dr)) 137 (Int.toNat 4) (J l)) 137 (Int.toNat 5) (J (A.1 0 1 % 10)), m.2) = m1
  have hfr : Fr (fun k => k = 137) m m1 := by
    rw [← hm1]
    refine ⟨fun k hk => ?_, rfl⟩
    simp (disch := omega) only [u2_ne]
  have hL : LetR (lets A p dr l) m1 := by
    intro j h0 h1
    rw [← hm1]
    rcases (show j = 0 ∨ j = 1 ∨ j = 2 ∨ j = 3 ∨ j = 4 ∨ j = 5 by omega) with rfl | rfl | rfl | rfl | rfl | rfl <;> simp [u2_at, lets]
  have hR1 : ShR s A m1 := hR.fr (by omega) hfr fun k h1 h2 => by omega
  have hG1 : Stg n T A m1 := hG.fr hfr fun k h => by omega
  have hlb : ∀ j : Int, 0 ≤ j → j < 6 → -1000000 ≤ lets A p dr l j ∧ lets A p dr l j ≤ 1000000 := by
    intro j h0 h1
    rcases (show j = 0 ∨ j = 1 ∨ j = 2 ∨ j = 3 ∨ j = 4 ∨ j = 5 by omega) with rfl | rfl | rfl | rfl | rfl | rfl <;> simp [lets] <;> omega
  have e92 := S_92 (d := d) hs hR1.1.2.2.2 hG1.1.1 i3 hG1.1.2
  have e47 := S_47 (d := d) (thS_F (A.1 0 3) n hG.1.2.2) hL hlb hG1.2.1 hG1.2.2
  have e11 := fun x (hx : -1000000 ≤ x ∧ x ≤ 1000000) => S_11 (d := d) hF (hR1.2.2.1 p hp.1 hp.2) hHI (s := x) (dr := dr) (l := l) (n := A.1 0 1) hx hdr hl (by omega)
  have hn1 := hR1.1.2.1
  have hl1 := hR1.2.1 1 (by omega) (by omega) dr hdr.1 (by omega)
  have hl2 := hR1.2.1 2 (by omega) (by omega) dr hdr.1 (by omega)
  refine ⟨m1, ?_, hfr⟩
  rw [cB_eq]
  show rB Q0 93 (cB Q0 (d + 2)) 0 [some (.ref 0), some (.ref s), some (.int (J p)), some (.int (J dr)), some (.int (J l))] m = _
  rw [T_93_0]
  simp (disch := omega) only [kk, lits, q0_J, q1_J, q2_J, cI_J, cT_J, cB_J, cZ_J, cS_J, c1_J, cA_J, J_clamp, u2_at, reduceIte, f1, g4, f8, hgp, hF.1.1, u2_ne, a0, a1, an, J_div, e10]
  rw [if_neg (by omega), hm1]
  by_cases hz : l = 0
  · have e11' := e11 (A.1 1 dr + warm (lets A p dr l) T.2) (by unfold plainA at hpl; rw [if_pos hz] at hpl; omega)
    simp (disch := omega) only [kk, lits, q0_J, q1_J, q2_J, cI_J, cT_J, cB_J, cZ_J, cS_J, c1_J, cA_J, J_clamp, u2_at, reduceIte, g1, f5, u2_ne, hlm, hl1, e92, (thS_F (A.1 0 3) n hG.1.2.2).1, e47, hn1, f1, hF.1.1, e11']
    rw [if_pos hz]
    unfold toneA plainA
    rw [if_pos hz]
  · have e11' := e11 (A.1 2 dr + warm (lets A p dr l) T.2) (by unfold plainA at hpl; rw [if_neg hz] at hpl; omega)
    simp (disch := omega) only [kk, lits, q0_J, q1_J, q2_J, cI_J, cT_J, cB_J, cZ_J, cS_J, c1_J, cA_J, J_clamp, u2_at, reduceIte, g2, f6, u2_ne, hdm, hl2, e92, (thS_F (A.1 0 3) n hG.1.2.2).1, e47, hn1, f1, hF.1.1, e11']
    rw [if_neg hz]
    unfold toneA plainA
    rw [if_neg hz]
end
