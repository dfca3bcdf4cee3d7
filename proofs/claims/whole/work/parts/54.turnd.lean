/-! THE REFERENCE: in time -/
def tuK : Nat → Prop := fun k => k = 202
def noI : Nat → Prop := fun _ => False
def OrdR (f : Nat → Int32) : List Int → Prop
  | [] => True
  | x :: R => f R.length = J x ∧ OrdR f R
theorem OrdR_s {f : Nat → Int32} {x : Int} {R : List Int} : OrdR f (x :: R) = (f R.length = J x ∧ OrdR f R) := rfl
theorem OrdR_up {f g : Nat → Int32} : ∀ R, OrdR f R → (∀ k, k < R.length → g k = f k) → OrdR g R
  | [], _, _ => trivial
  | x :: R, h, hk => ⟨by rw [hk R.length (Nat.lt_succ_self _)]; exact h.1, OrdR_up R h.2 fun k h2 => hk k (Nat.lt_trans h2 (Nat.lt_succ_self _))⟩
def AscR (f : Nat → Int32) : Nat → List Int → Prop
  | _, [] => True
  | i, x :: T => f i = J x ∧ AscR f (i + 1) T
theorem AscR_s {f : Nat → Int32} {x : Int} {T : List Int} {i : Nat} : AscR f i (x :: T) = (f i = J x ∧ AscR f (i + 1) T) := rfl
theorem asc_rev {f : Nat → Int32} : ∀ R T, OrdR f R → AscR f R.length T → AscR f 0 (List.reverseAux R T)
  | [], _, _, h => h
  | x :: R, T, h1, h2 => asc_rev R (x :: T) h1.2 ⟨h1.1, h2⟩
section
variable {m : SM} {d : Nat} {A : Shp} {sh : Int}
theorem S_113 {b : Int} (h0 : 0 ≤ b) (h1 : b < 64) : cB Q0 (d + 2) 113 [.ref 177, .int (J b)] m = some (some (.int (J (pop b))), m) := by
  have L : ∀ (N : Nat) (q c : Int), 0 ≤ q → q + N = 6 → 0 ≤ c → c ≤ q → rB Q0 113 (cB Q0 (d + 1)) 4 [some (.ref 177), some (.int (J b)), some (.int (J c)), some (.int (J q))] m = some (some (.int (J (c + sumF (bitP b) q N))), m) := by
    intro N
    induction N with
    | zero =>
      intro q c h2 h3 h4 h5
      obtain rfl : q = 6 := by omega
      rw [T_113_4]
      simp (disch := omega) only [kk, lits, q0_J, q1_J, q2_J, cI_J, cT_J, cB_J, cZ_J, cS_J, c1_J, cA_J, J_clamp, u2_at, reduceIte]
      rw [if_pos (by omega)]
      simp [sumF]
    | succ N ih =>
      intro q c h2 h3 h4 h5
      have e := S_110 (m := m) (d := d) h0 h1 h2 (show q < 6 by omega)
      have hb := bitP_in b q
      have es : sumF (bitP b) q (N + 1) = bitP b q + sumF (bitP b) (q + 1) N := rfl
      rw [T_113_4, es]
      by_cases c1 : bitP b q = 1
      · simp only [lits] at *
        simp (disch := omega) only [kk, lits, q0_J, q1_J, q2_J, cI_J, cT_J, cB_J, cZ_J, cS_J, c1_J, cA_J, J_clamp, u2_at, reduceIte, e, bi, if_pos c1, ih (q + 1) (c + 1) (by omega) (by omega) (by omega) (by omega)]
        rw [if_neg (by omega), if_neg (by omega), c1, Int.add_assoc]
      · simp only [lits] at *
        simp (disch := omega) only [kk, lits, q0_J, q1_J, q2_J, cI_J, cT_J, cB_J, cZ_J, cS_J, c1_J, cA_J, J_clamp, u2_at, reduceIte, e, bi, if_neg c1, ih (q + 1) c (by omega) (by omega) (by omega) (by omega), Int.add_zero]
        rw [if_neg (by omega), show bitP b q = 0 by omega, Int.zero_add]
  rw [cB_eq]
  show rB Q0 113 (cB Q0 (d + 1)) 0 [some (.ref 177), some (.int (J b))] m = _
  rw [T_113_0]
  simp only [lits]
  rw [L 6 0 0 (by omega) (by omega) (by omega) (by omega), Int.zero_add]
  rfl
theorem L_167 (h6 : A.1 0 0 ≤ 6) (hI : ShI A) {cf : Nat → List Value → SM → Rs SM} {p : Int} (hp : 0 ≤ p) (hp1 : p < A.1 0 0) : ∀ (R : List Int) (m : SM), ShN sh A m → (∀ y, y ∈ R → 0 ≤ y ∧ y < A.1 0 0) → R.length < 6 → OrdR (m.1 202) R → ∃ m', rB Q0 167 cf 12 [some (.ref 177), some (.int (J p)), some (.int (J R.length))] m = rB Q0 167 cf 2 [some (.ref 177), some (.int (J (p + 1)))] m' ∧ OrdR (m'.1 202) (insR (dueF A) p R) ∧ (∀ k, R.length < k → m'.1 202 k = m.1 202 k) ∧ FrR tuK noI m m' := by
  intro R
  induction R with
  | nil =>
    intro m hR hm hl hO
    refine ⟨(up2 m.1 202 (0 : Int).toNat (J p), m.2), ?_, ⟨?_, trivial⟩, fun k hk => ?_, FrR.put (K := tuK) (KI := noI) (k := 202) rfl (by omega) _ _⟩
    · rw [T_167_12]
      simp (disch := omega) only [kk, lits, q0_J, q1_J, q2_J, cI_J, cT_J, cB_J, cZ_J, cS_J, c1_J, cA_J, J_clamp, u2_at, reduceIte, List.length_nil, Int.natCast_zero]
      rw [if_pos (by omega)]
    · show up2 m.1 202 (0 : Int).toNat (J p) 202 0 = J p
      rw [u2_at]
      exact if_pos (by omega)
    · show up2 m.1 202 (0 : Int).toNat (J p) 202 k = _
      have : 0 < k := hk
      rw [u2_at, if_neg (by omega)]
  | cons x R ih =>
    intro m hR hm hl hO
    have hl1 : R.length + 1 < 6 := hl
    obtain ⟨hx0, hx1⟩ := hm x (List.mem_cons_self ..)
    have dx := (hR.2.2.1 x hx0 hx1).1.2.2.2
    have dp := (hR.2.2.1 p hp hp1).1.2.2.2
    change m.1 184 x.toNat = J (dueF A x) at dx
    change m.1 184 p.toNat = J (dueF A p) at dp
    have ix := (hI.2.2.1 x hx0 hx1).1.2.2.2.1
    have ip := (hI.2.2.1 p hp hp1).1.2.2.2.1
    change 0 ≤ dueF A x ∧ dueF A x ≤ 30 at ix
    change 0 ≤ dueF A p ∧ dueF A p ≤ 30 at ip
    have ec : (((x :: R).length : Nat) : Int) = (R.length : Int) + 1 := by rw [List.length_cons]; omega
    have ej : ((R.length : Int) + 1 - 1).toNat = R.length := by omega
    have ek : ((R.length : Int) + 1).toNat = R.length + 1 := by omega
    have ox : m.1 202 R.length = J x := hO.1
    by_cases c : dueF A x ≤ dueF A p
    · refine ⟨(up2 m.1 202 (R.length + 1) (J p), m.2), ?_, ?_, fun k hk => ?_, FrR.put (K := tuK) (KI := noI) (k := 202) rfl (by omega) _ _⟩
      · rw [T_167_12, ec]
        simp (disch := omega) only [kk, lits, q0_J, q1_J, q2_J, cI_J, cT_J, cB_J, cZ_J, cS_J, c1_J, cA_J, J_clamp, u2_at, reduceIte, ej, ek, ox, dx, dp]
        rw [if_neg (by omega), if_pos c]
      · rw [insR_s, if_pos c]
        refine ⟨?_, OrdR_up (x :: R) hO fun k hk => ?_⟩
        · show up2 m.1 202 (R.length + 1) (J p) 202 (R.length + 1) = J p
          rw [u2_at, if_pos rfl]
        · show up2 m.1 202 (R.length + 1) (J p) 202 k = _
          have : k < R.length + 1 := hk
          rw [u2_at, if_neg (by omega)]
      · show up2 m.1 202 (R.length + 1) (J p) 202 k = _
        have : R.length + 1 < k := hk
        rw [u2_at, if_neg (by omega)]
    · have hF : FrR tuK noI m (up2 m.1 202 (R.length + 1) (J x), m.2) := FrR.put (K := tuK) (KI := noI) (k := 202) rfl (by omega) _ _
      obtain ⟨m', q1, q2, q3, q4⟩ := ih _ (hR.fr hF (fun k hk => by unfold tuK; omega) (fun i hi => by unfold noI; exact fun z => z)) (fun y hy => hm y (List.mem_cons_of_mem _ hy)) (by omega) (OrdR_up R hO.2 fun k hk => by
        show up2 m.1 202 (R.length + 1) (J x) 202 k = _
        rw [u2_at, if_neg (by omega)])
      refine ⟨m', ?_, ?_, fun k hk => ?_, hF.tr q4⟩
      · rw [T_167_12, ec]
        simp (disch := omega) only [kk, lits, q0_J, q1_J, q2_J, cI_J, cT_J, cB_J, cZ_J, cS_J, c1_J, cA_J, J_clamp, u2_at, reduceIte, ej, ek, ox, dx, dp]
        rw [if_neg (by omega), if_neg c, show (R.length : Int) + 1 + -1 = R.length by omega]
        exact q1
      · rw [insR_s, if_neg c]
        refine ⟨?_, q2⟩
        rw [insR_len, q3 _ (by omega)]
        show up2 m.1 202 (R.length + 1) (J x) 202 (R.length + 1) = J x
        rw [u2_at, if_pos rfl]
      · have hk1 : R.length + 1 < k := hk
        rw [q3 k (by omega)]
        show up2 m.1 202 (R.length + 1) (J x) 202 k = _
        rw [u2_at, if_neg (by omega)]
theorem S_167 (hR : ShN sh A m) (hI : ShI A) : ∃ m', cB Q0 (d + 1) 167 [.ref 177] m = some (none, m') ∧ OrdR (m'.1 202) (ordL (dueF A) (A.1 0 0).toNat) ∧ FrR tuK noI m m' := by
  have i0 := hI.1.1
  have L : ∀ (N : Nat) (q : Nat) (m : SM), ShN sh A m → (q : Int) + N = A.1 0 0 → OrdR (m.1 202) (ordL (dueF A) q) → ∃ m', rB Q0 167 (cB Q0 d) 2 [some (.ref 177), some (.int (J q))] m = some (none, m') ∧ OrdR (m'.1 202) (ordL (dueF A) (A.1 0 0).toNat) ∧ FrR tuK noI m m' := by
    intro N
    induction N with
    | zero =>
      intro q m hR h1 hO
      refine ⟨m, ?_, ?_, FrR.rf⟩
      · rw [T_167_2]
        simp (disch := omega) only [kk, lits, q0_J, q1_J, q2_J, cI_J, cT_J, cB_J, cZ_J, cS_J, c1_J, cA_J, J_clamp, u2_at, reduceIte, hR.1.1]
        rw [if_pos (by omega)]
      · rw [show (A.1 0 0).toNat = q by omega]
        exact hO
    | succ N ih =>
      intro q m hR h1 hO
      obtain ⟨m1, q1, q2, -, q4⟩ := L_167 (cf := cB Q0 d) i0.2 hI (p := q) (by omega) (by omega) (ordL (dueF A) q) m hR (fun y hy => by
        have := (ordL_mem (dueF A) y q).mp hy
        omega) (by rw [ordL_len]; omega) hO
      rw [ordL_len] at q1
      obtain ⟨m2, r1, r2, r3⟩ := ih (q + 1) m1 (hR.fr q4 (fun k hk => by unfold tuK; omega) (fun i hi => by unfold noI; exact fun z => z)) (by omega) q2
      refine ⟨m2, ?_, r2, q4.tr r3⟩
      rw [T_167_2]
      simp (disch := omega) only [kk, lits, q0_J, q1_J, q2_J, cI_J, cT_J, cB_J, cZ_J, cS_J, c1_J, cA_J, J_clamp, u2_at, reduceIte, hR.1.1]
      rw [if_neg (by omega), q1]
      exact r1
  obtain ⟨m', q1, q2, q3⟩ := L (A.1 0 0).toNat 0 m hR (by omega) trivial
  refine ⟨m', ?_, q2, q3⟩
  rw [cB_eq]
  show rB Q0 167 (cB Q0 d) 0 [some (.ref 177)] m = _
  rw [T_167_0]
  exact q1
theorem S_168 (hR : ShN sh A m) (hI : ShI A) {b pace : Int} (h1 : 1 ≤ pace) (h2 : pace ≤ 9) (b0 : 0 ≤ b) (b1 : b < 64) (hO : OrdR (m.1 202) (ordL (dueF A) (A.1 0 0).toNat)) : cB Q0 (d + 2) 168 [.ref 177, .int (J b), .int (J pace)] m = some (some (.int (bi (areF (A.1 0 0) (dueF A) (needF A pace) b (A.1 0 0).toNat 0 = true))), m) := by
  have i0 := hI.1.1
  have hn := needF_in A h1 h2
  have L : ∀ (T : List Int) (i c : Int), AscR (m.1 202) i.toNat T → (∀ y, y ∈ T → 0 ≤ y ∧ y < A.1 0 0) → 0 ≤ i → i + T.length = A.1 0 0 → 0 ≤ c → c ≤ 16 * i → rB Q0 168 (cB Q0 (d + 1)) 5 [some (.ref 177), some (.int (J b)), some (.int (J pace)), some (.int (J c)), some (.int (J i))] m = some (some (.int (bi (scT (dueF A) (needF A pace) b T c = true))), m) := by
    intro T
    induction T with
    | nil =>
      intro i c hA hm g0 g1 g2 g3
      have g4 : i + (0 : Nat) = A.1 0 0 := g1
      rw [T_168_5]
      simp (disch := omega) only [kk, lits, q0_J, q1_J, q2_J, cI_J, cT_J, cB_J, cZ_J, cS_J, c1_J, cA_J, J_clamp, u2_at, reduceIte, hR.1.1]
      rw [if_pos (by omega)]
      rfl
    | cons x T ih =>
      intro i c hA hm g0 g1 g2 g3
      rw [List.length_cons] at g1
      obtain ⟨hx0, hx1⟩ := hm x (List.mem_cons_self ..)
      have hx := hA.1
      have dx := (hR.2.2.1 x hx0 hx1).1.2.2.2
      change m.1 184 x.toNat = J (dueF A x) at dx
      have ix := (hI.2.2.1 x hx0 hx1).1.2.2.2.1
      change 0 ≤ dueF A x ∧ dueF A x ≤ 30 at ix
      have hh := hairs_in (A.2.1 x)
      have nx := hn x
      have hdv : J (8 - hairs (A.2.1 x) + pace - 1) / J pace = J (needF A pace x) := J_div (by omega) (by omega) (by omega) (by omega)
      have e1 := S_110 (m := m) (d := d) b0 b1 hx0 (show x < 6 by omega)
      have e2 := S_151 (d := d) (p := x) ⟨hx0, by omega⟩ (hR.2.2.1 x hx0 hx1) (hI.2.2.1 x hx0 hx1)
      have hA2 : AscR (m.1 202) (i + 1).toNat T := by
        rw [show (i + 1).toNat = i.toNat + 1 by omega]
        exact hA.2
      have k1 := ih (i + 1) c hA2 (fun y hy => hm y (List.mem_cons_of_mem _ hy)) (by omega) (by omega) (by omega) (by omega)
      have k2 := ih (i + 1) (c + needF A pace x) hA2 (fun y hy => hm y (List.mem_cons_of_mem _ hy)) (by omega) (by omega) (by omega) (by omega)
      rw [T_168_5, scT_s]
      by_cases c1 : bitP b x = 1
      · simp only [lits] at *
        simp (disch := omega) only [kk, lits, q0_J, q1_J, q2_J, cI_J, cT_J, cB_J, cZ_J, cS_J, c1_J, cA_J, J_clamp, u2_at, reduceIte, hR.1.1, hx, e1, e2, bi, if_pos c1, hdv, dx, k2]
        rw [if_neg (by omega), if_neg (by omega), if_neg (by omega)]
        by_cases c2 : c + needF A pace x ≤ dueF A x
        · rw [if_pos c2, if_pos c2]
        · rw [if_neg c2, if_neg c2]
          rfl
      · simp only [lits] at *
        simp (disch := omega) only [kk, lits, q0_J, q1_J, q2_J, cI_J, cT_J, cB_J, cZ_J, cS_J, c1_J, cA_J, J_clamp, u2_at, reduceIte, hR.1.1, hx, e1, bi, if_neg c1, k1]
        rw [if_neg (by omega)]
  have e := L (ordL (dueF A) (A.1 0 0).toNat).reverse 0 0 (asc_rev _ [] hO trivial) (fun y hy => by
    have := (ordL_mem (dueF A) y _).mp (List.mem_reverse.mp hy)
    omega) (by omega) (by rw [List.length_reverse, ordL_len]; omega) (by omega) (by omega)
  rw [cB_eq]
  show rB Q0 168 (cB Q0 (d + 1)) 0 [some (.ref 177), some (.int (J b)), some (.int (J pace))] m = _
  rw [T_168_0]
  simp only [lits]
  rw [e, sc_are, show (((A.1 0 0).toNat : Nat) : Int) = A.1 0 0 by omega]
theorem L_169 (hR : ShN sh A m) (hI : ShI A) {pace : Int} (h1 : 1 ≤ pace) (h2 : pace ≤ 9) (hO : OrdR (m.1 202) (ordL (dueF A) (A.1 0 0).toNat)) : ∀ (N : Nat) (b best : Int), 0 ≤ b → b + N = p2 (A.1 0 0) → 0 ≤ best → best < 64 → rB Q0 169 (cB Q0 (d + 2)) 22 [some (.ref 177), some (.int (J pace)), some (.int (J best)), some (.int (J b))] m = some (some (.int (J (bestF (fun b => areF (A.1 0 0) (dueF A) (needF A pace) b (A.1 0 0).toNat 0) N b best))), m) := by
  have i0 := hI.1.1
  have hp := p2_at i0.1 i0.2
  have hq := p2_in i0.1 i0.2
  intro N
  induction N with
  | zero =>
    intro b best h0 h1 h2 h3
    rw [T_169_22]
    simp only [hR.1.1, bX_e]
    simp only [lits, hp]
    simp (disch := omega) only [kk, lits, q0_J, q1_J, q2_J, cI_J, cT_J, cB_J, cZ_J, cS_J, c1_J, cA_J, J_clamp, u2_at, reduceIte]
    rw [if_pos (by omega)]
    rfl
  | succ N ih =>
    intro b best h3 h4 h5 h6
    have e1 := S_113 (m := m) (d := d) h3 (show b < 64 by omega)
    have e2 := S_113 (m := m) (d := d) h5 h6
    have e3 := S_168 (d := d) hR hI h1 h2 h3 (show b < 64 by omega) hO
    have z1 := pop_in b
    have z2 := pop_in best
    rw [T_169_22]
    simp only [hR.1.1, bX_e]
    simp only [lits, hp]
    simp (disch := omega) only [kk, lits, q0_J, q1_J, q2_J, cI_J, cT_J, cB_J, cZ_J, cS_J, c1_J, cA_J, J_clamp, u2_at, reduceIte, e1, e2, e3, ih (b + 1) best (by omega) (by omega) h5 h6, ih (b + 1) b (by omega) (by omega) h3 (by omega)]
    rw [if_neg (by omega), bestF_s]
    by_cases c1 : pop b ≤ pop best
    · rw [if_pos c1, if_pos c1]
    · rw [if_neg c1, if_neg c1]
      by_cases c2 : areF (A.1 0 0) (dueF A) (needF A pace) b (A.1 0 0).toNat 0 = true
      · simp only [c2, bi, if_true] <;> rfl
      · simp only [c2, bi, if_false] <;> rfl
theorem S_169 (hR : ShN sh A m) (hI : ShI A) {pace : Int} (h1 : -2147483648 ≤ pace) (h2 : pace ≤ 2147483647) : ∃ m', cB Q0 (d + 3) 169 [.ref 177, .int (J pace)] m = some (some (.int (J (if 1 ≤ pace ∧ pace ≤ 9 then inF A pace else -2))), m') ∧ FrR tuK noI m m' := by
  have i0 := hI.1.1
  have hq := p2_in i0.1 i0.2
  have e1 := S_109 (m := m) (d := d + 1) h1 h2 (show -2147483648 ≤ (1 : Int) by omega) (by omega) (show -2147483648 ≤ (9 : Int) by omega) (by omega)
  by_cases c : 1 ≤ pace ∧ pace ≤ 9
  · obtain ⟨m', q1, q2, q3⟩ := S_167 (d := d + 1) hR hI
    have hR2 : ShN sh A m' := hR.fr q3 (fun k hk => by unfold tuK; omega) (fun i hi => by unfold noI; exact fun z => z)
    have e := L_169 (d := d) hR2 hI c.1 c.2 q2 ((p2 (A.1 0 0) - 1).toNat + 1) 0 0 (by omega) (by omega) (by omega) (by omega)
    rw [bestF_s, if_pos (Int.le_refl _), Int.zero_add] at e
    refine ⟨m', ?_, q3⟩
    rw [cB_eq]
    show rB Q0 169 (cB Q0 (d + 2)) 0 [some (.ref 177), some (.int (J pace))] m = _
    rw [T_169_0]
    simp only [lits]
    simp only [e1, bI_e, bi, if_pos c]
    simp (disch := omega) only [kk, lits, q0_J, q1_J, q2_J, cI_J, cT_J, cB_J, cZ_J, cS_J, c1_J, cA_J, J_clamp, u2_at, reduceIte, q1, e]
    rw [if_neg (by omega)]
    rfl
  · refine ⟨m, ?_, FrR.rf⟩
    rw [cB_eq]
    show rB Q0 169 (cB Q0 (d + 2)) 0 [some (.ref 177), some (.int (J pace))] m = _
    rw [T_169_0]
    simp only [lits]
    simp only [e1, bI_e, bi, if_neg c]
    simp (disch := omega) only [kk, lits, q0_J, q1_J, q2_J, cI_J, cT_J, cB_J, cZ_J, cS_J, c1_J, cA_J, J_clamp, u2_at, reduceIte]
end
