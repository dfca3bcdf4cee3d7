/-! THE REFERENCE: whether a clause holds, sums, shades -/
def tv (b : Bool) : Int := if b then 1 else 0
def PileAt (m : SM) : List Bool → Prop
  | [] => True
  | a :: r => m.1 197 (r.length : Int).toNat = J (tv a) ∧ PileAt m r
def piK : Nat → Prop := fun k => k = 197
theorem PileAt.put {m : SM} {q : Int} (v : Int32) : ∀ (st : List Bool), (st.length : Int) ≤ q → PileAt m st → PileAt (up2 m.1 197 q.toNat v, m.2) st
  | [], _, _ => trivial
  | a :: r, h, g => by
    have h : ((r.length + 1 : Nat) : Int) ≤ q := h
    refine ⟨?_, PileAt.put v r (by omega) g.2⟩
    show up2 m.1 197 q.toNat v 197 _ = _
    rw [u2_at, if_neg (by omega)]
    exact g.1
theorem hd1_tv (b : Bool) (r : List Bool) : hd1 (b :: r) = tv b := rfl
theorem SigAt.fr {m m' : SM} (h : m'.1 194 = m.1 194) : ∀ (ts : List Int) (i : Int), SigAt m i ts → SigAt m' i ts
  | [], _, _ => trivial
  | t :: ts, i, g => ⟨by rw [h]; exact g.1, SigAt.fr h ts _ g.2⟩
theorem and11 : J 1 &&& J 1 = J 1 ∧ J 0 &&& J 1 = J 0 := ⟨rfl, rfl⟩
section
variable {m : SM} {d : Nat} {A : Shp} {sh h : Int} {L : Cla}
theorem S_146 (hR : ShN sh A m) (hI : ShI A) {p dr l f : Int} (hp : 0 ≤ p ∧ p < A.1 0 0) (hd : 0 ≤ dr ∧ dr ≤ 7) (hl : 0 ≤ l ∧ l ≤ 1) (hf : 0 ≤ f ∧ f < 6) : cB Q0 (d + 1) 146 [.ref 177, .int (J f), .int (J p), .int (J dr), .int (J l)] m = some (some (.int (J (lets A p dr l f))), m) := by
  have i0 := hI.1.1
  have i1 := hI.1.2.1
  have hH := hR.2.2.1 p hp.1 hp.2
  have a0 := hH.1.1
  have a1 := hH.1.2.1
  have a3 := hR.1.2.2.2
  have e10 : A.1 0 1 - (A.1 0 1).tdiv 10 * 10 = A.1 0 1 % 10 := by rw [Int.tdiv_eq_ediv_of_nonneg i1.1]; omega
  rw [cB_eq]
  show rB Q0 146 (cB Q0 d) 0 [some (.ref 177), some (.int (J f)), some (.int (J p)), some (.int (J dr)), some (.int (J l))] m = _
  rw [T_146_0]
  simp (disch := omega) only [kk, lits, q0_J, q1_J, q2_J, cI_J, cT_J, cB_J, cZ_J, cS_J, c1_J, cA_J, J_clamp, u2_at, reduceIte, a0, a1, a3, J_div, e10]
  rcases (show f = 0 ∨ f = 1 ∨ f = 2 ∨ f = 3 ∨ f = 4 ∨ f = 5 by omega) with rfl | rfl | rfl | rfl | rfl | rfl <;> simp [lets]
theorem lets_bd (hI : ShI A) {p dr l : Int} (hp : 0 ≤ p ∧ p < A.1 0 0) (hd : 0 ≤ dr ∧ dr ≤ 7) (hl : 0 ≤ l ∧ l ≤ 1) : ∀ j : Int, 0 ≤ j → j < 6 → -1000000 ≤ lets A p dr l j ∧ lets A p dr l j ≤ 1000000 := by
  intro j h0 h1
  have i0 := hI.1.1
  have hHI := hI.2.2.1 p hp.1 hp.2
  have b0 := hHI.1.1
  have b1 := hHI.1.2.1
  rcases (show j = 0 ∨ j = 1 ∨ j = 2 ∨ j = 3 ∨ j = 4 ∨ j = 5 by omega) with rfl | rfl | rfl | rfl | rfl | rfl <;> simp [lets] <;> omega
theorem L_147 (hI : ShI A) {p dr l c E : Int} (hp : 0 ≤ p ∧ p < A.1 0 0) (hd : 0 ≤ dr ∧ dr ≤ 7) (hl : 0 ≤ l ∧ l ≤ 1) (hc : 0 ≤ c ∧ c < 60) (hE : E ≤ 600) : ∀ (ts : List Int) (st : List Bool) (i : Int) (m : SM), 0 ≤ i → i + ts.length = E → WfT ts st.length → st.length ≤ 12 → SigAt m i ts → PileAt m st → ShN sh A m → m.1 193 c.toNat = J E → ∃ m', rB Q0 147 (cB Q0 (d + 1)) 11 [some (.ref 177), some (.int (J c)), some (.int (J p)), some (.int (J dr)), some (.int (J l)), some (.int (J (st.length : Int))), some (.int (J i))] m = some (some (.int (bi (hd1 (evL (lets A p dr l) ts st) = 1))), m') ∧ FrR piK (fun _ => False) m m' := by
  intro ts
  induction ts with
  | nil =>
    intro st i m h0 hi hW hl12 hS hP hR h193
    have hi : i + ((0 : Nat) : Int) = E := hi
    have hW : st.length = 1 := hW
    match st, hW, hP with
    | [a], _, hP =>
      have hp0 : m.1 197 (Int.toNat 0) = J (tv a) := hP.1
      refine ⟨m, ?_, FrR.rf⟩
      rw [T_147_11]
      simp (disch := omega) only [kk, lits, q0_J, q1_J, q2_J, cI_J, cT_J, cB_J, cZ_J, cS_J, c1_J, cA_J, J_clamp, u2_at, reduceIte, h193, hp0]
      rw [if_pos (by omega)]
      have : J (tv a) = bi (hd1 (evL (lets A p dr l) [] [a]) = 1) := by
        cases a <;> rfl
      rw [this]
      simp (disch := omega) only [kk, lits, q0_J, q1_J, q2_J, cI_J, cT_J, cB_J, cZ_J, cS_J, c1_J, cA_J, J_clamp, u2_at, reduceIte]
  | cons t ts ih =>
    intro st i m h0 hi hW hl12 hS hP hR h193
    have hi : i + ((ts.length + 1 : Nat) : Int) = E := hi
    have hs1 := hS.1
    have hW2 := ev1_len (lt := lets A p dr l) hW
    -- one cell of the pile is written
    have key : ∀ (q : Int) (x : Bool) (r : List Bool), ev1 (lets A p dr l) t st = x :: r → q = r.length → PileAt m r → r.length ≤ 11 → ∃ m', rB Q0 147 (cB Q0 (d + 1)) 11 [some (.ref 177), some (.int (J c)), some (.int (J p)), some (.int (J dr)), some (.int (J l)), some (.int (J (q + 1))), some (.int (J (i + 1)))] (up2 m.1 197 q.toNat (J (tv x)), m.2) = some (some (.int (bi (hd1 (evL (lets A p dr l) (t :: ts) st) = 1))), m') ∧ FrR piK (fun _ => False) m m' := by
      intro q x r he hq hPr hlen
      have k1 : FrR piK (fun _ => False) m (up2 m.1 197 q.toNat (J (tv x)), m.2) := FrR.put (K := piK) (k := 197) (by exact rfl) (by omega) _ _
      have hP2 : PileAt (up2 m.1 197 q.toNat (J (tv x)), m.2) (x :: r) := by
        refine ⟨?_, PileAt.put _ r (by omega) hPr⟩
        show up2 m.1 197 q.toNat (J (tv x)) 197 _ = _
        rw [u2_at, if_pos (by rw [hq])]
      have hW3 := hW2
      rw [he] at hW3
      obtain ⟨m', e1, e2⟩ := ih (x :: r) (i + 1) _ (by omega) (by omega) hW3 (by simp; omega) (SigAt.fr (k1.1 194 (by unfold piK; omega) (by omega)) _ _ hS.2) hP2 (hR.fr k1 (fun k g1 g2 => by unfold piK at g2; omega) (fun _ _ z => z)) (by rw [k1.1 193 (by unfold piK; omega) (by omega)]; exact h193)
      refine ⟨m', ?_, k1.tr e2⟩
      have e3 : ((x :: r).length : Int) = q + 1 := by simp [hq]
      rw [e3] at e1
      rw [e1]
      show some (some (Value.int (bi (hd1 (evL (lets A p dr l) ts (x :: r)) = 1))), m') = some (some (Value.int (bi (hd1 (evL (lets A p dr l) ts (ev1 (lets A p dr l) t st)) = 1))), m')
      simp only [he]
    have hW9 := hW
    unfold WfT at hW
    by_cases k1 : t = -1
    · rw [if_pos k1] at hW
      match st, hW, hP, key, hl12 with
      | [], hW, _, _, _ => exact absurd hW.1 (by simp)
      | a :: r, hW, hP, key, hl12 =>
        have hl12 : r.length + 1 ≤ 12 := hl12
        obtain ⟨q, hq⟩ : ∃ q : Int, q = r.length := ⟨_, rfl⟩
        have hlen : ((a :: r).length : Int) = q + 1 := by simp [hq]
        have hx : ev1 (lets A p dr l) t (a :: r) = (!a) :: r := by unfold ev1; rw [if_pos k1]
        have hp1 : m.1 197 q.toNat = J (tv a) := by rw [hq]; exact hP.1
        obtain ⟨m', e1, e2⟩ := key q (!a) r hx hq hP.2 (by omega)
        refine ⟨m', ?_, e2⟩
        rw [T_147_11, hlen]
        have e0 : q + 1 - 1 = q := by omega
        have er : rco t = -33 := by subst k1; rfl
        have ht : tv a = 0 ∨ tv a = 1 := by cases a <;> simp [tv]
        simp (disch := omega) only [kk, lits, q0_J, q1_J, q2_J, cI_J, cT_J, cB_J, cZ_J, cS_J, c1_J, cA_J, J_clamp, u2_at, reduceIte, h193, hs1, er, e0, hp1, and11]
        rw [if_neg (by omega)]
        cases a
        · rw [if_pos (show tv false = 0 from rfl)]; exact e1
        · rw [if_neg (by simp [tv])]; exact e1
    · rw [if_neg k1] at hW
      by_cases k23 : t = -2 ∨ t = -3
      · rw [if_pos k23] at hW
        match st, hW, hP, key, hl12 with
        | [], hW, _, _, _ => exact absurd hW.1 (by simp)
        | [_], hW, _, _, _ => exact absurd hW.1 (by simp)
        | a :: b :: r, hW, hP, key, hl12 =>
          have hl12 : r.length + 1 + 1 ≤ 12 := hl12
          obtain ⟨q, hq⟩ : ∃ q : Int, q = r.length := ⟨_, rfl⟩
          have hlen : ((a :: b :: r).length : Int) = q + 2 := by simp [hq]; omega
          have hpa : m.1 197 (q + 1).toNat = J (tv a) := by
            have := hP.1
            rw [show (((b :: r).length : Nat) : Int) = q + 1 by simp [hq]] at this
            exact this
          have hpb : m.1 197 q.toNat = J (tv b) := by rw [hq]; exact hP.2.1
          have e0 : q + 2 + -1 - 1 = q := by omega
          have e1' : q + 2 + -1 = q + 1 := by omega
          have ea : q + 1 - 1 = q := by omega
          have hta : tv a = 0 ∨ tv a = 1 := by cases a <;> simp [tv]
          have htb : tv b = 0 ∨ tv b = 1 := by cases b <;> simp [tv]
          have key2 : ∀ x, ev1 (lets A p dr l) t (a :: b :: r) = x :: r → ∃ m', rB Q0 147 (cB Q0 (d + 1)) 11 [some (.ref 177), some (.int (J c)), some (.int (J p)), some (.int (J dr)), some (.int (J l)), some (.int (J (q + 1))), some (.int (J (i + 1)))] (up2 m.1 197 q.toNat (J (tv x)), m.2) = some (some (.int (bi (hd1 (evL (lets A p dr l) (t :: ts) (a :: b :: r)) = 1))), m') ∧ FrR piK (fun _ => False) m m' := fun x hx => key q x r hx hq hP.2.2 (by omega)
          by_cases k2 : t = -2
          · have hx : ev1 (lets A p dr l) t (a :: b :: r) = (b && a) :: r := by unfold ev1; rw [if_neg k1, if_pos k2]
            obtain ⟨m', g1, g2⟩ := key2 _ hx
            refine ⟨m', ?_, g2⟩
            rw [T_147_11, hlen]
            have er : rco t = -38 := by subst k2; rfl
            simp (disch := omega) only [kk, lits, q0_J, q1_J, q2_J, cI_J, cT_J, cB_J, cZ_J, cS_J, c1_J, cA_J, J_clamp, u2_at, reduceIte, h193, hs1, er, e0, e1', ea, hpa, hpb, and11]
            rw [if_neg (by omega), if_neg (by omega), if_neg (by omega)]
            cases b
            · rw [if_pos (show tv false = 0 from rfl)]; exact g1
            · rw [if_neg (by simp [tv])]
              cases a
              · rw [if_pos (show tv false = 0 from rfl)]; exact g1
              · rw [if_neg (by simp [tv])]; exact g1
          · have k3 : t = -3 := k23.resolve_left k2
            have hx : ev1 (lets A p dr l) t (a :: b :: r) = (b || a) :: r := by unfold ev1; rw [if_neg k1, if_neg k2, if_pos k3]
            obtain ⟨m', g1, g2⟩ := key2 _ hx
            refine ⟨m', ?_, g2⟩
            rw [T_147_11, hlen]
            have er : rco t = -124 := by subst k3; rfl
            simp (disch := omega) only [kk, lits, q0_J, q1_J, q2_J, cI_J, cT_J, cB_J, cZ_J, cS_J, c1_J, cA_J, J_clamp, u2_at, reduceIte, h193, hs1, er, e0, e1', ea, hpa, hpb, and11]
            rw [if_neg (by omega), if_neg (by omega), if_neg (by omega), if_neg (by omega)]
            cases b
            · rw [if_pos (show tv false = 0 from rfl)]
              cases a
              · rw [if_pos (show tv false = 0 from rfl)]; exact g1
              · rw [if_neg (by simp [tv])]; exact g1
            · rw [if_neg (by simp [tv])]; exact g1
      · rw [if_neg k23] at hW
        have k2 : ¬ t = -2 := fun z => k23 (Or.inl z)
        have k3 : ¬ t = -3 := fun z => k23 (Or.inr z)
        have hx : ev1 (lets A p dr l) t st = tstB (lets A p dr l) t :: st := by unfold ev1; rw [if_neg k1, if_neg k2, if_neg k3]
        obtain ⟨m', g1, g2⟩ := key (st.length : Int) _ st hx rfl hP (by omega)
        refine ⟨m', ?_, g2⟩
        have er : rco t = 1000 * (t / 300) + 100 * (t / 100 % 3) + t % 100 := by unfold rco; rw [if_neg k1, if_neg k2, if_neg k3]
        have d1 : (rco t).tdiv 1000 = t / 300 := by rw [Int.tdiv_eq_ediv_of_nonneg (by omega)]; omega
        have d2 : (rco t).tdiv 100 = rco t / 100 := Int.tdiv_eq_ediv_of_nonneg (by omega)
        have d3 : (rco t / 100).tdiv 10 = rco t / 100 / 10 := Int.tdiv_eq_ediv_of_nonneg (by omega)
        have d4 : rco t / 100 - rco t / 100 / 10 * 10 = t / 100 % 3 := by omega
        have d5 : rco t - rco t / 100 * 100 = t % 100 := by omega
        have hlb := lets_bd hI (p := p) (dr := dr) (l := l) hp hd hl (t / 300) (by omega) (by omega)
        have e146 := S_146 (d := d) hR hI (p := p) (dr := dr) (l := l) (f := t / 300) hp hd hl (by omega)
        rw [T_147_11]
        simp (disch := omega) only [kk, lits, q0_J, q1_J, q2_J, cI_J, cT_J, cB_J, cZ_J, cS_J, c1_J, cA_J, J_clamp, u2_at, reduceIte, h193, hs1]
        rw [if_neg (by omega), if_neg (by omega), if_pos (by omega)]
        simp (disch := omega) only [kk, lits, q0_J, q1_J, q2_J, cI_J, cT_J, cB_J, cZ_J, cS_J, c1_J, cA_J, J_clamp, u2_at, reduceIte, J_div, d1, d2, d3, d4, d5, e146, and11]
        rw [if_neg (by omega), if_neg (by omega), if_neg (by omega)]
        unfold tstB at g1
        by_cases z0 : t / 100 % 3 = 0
        · simp only [z0, if_true] at g1 ⊢
          by_cases z1 : lets A p dr l (t / 300) < t % 100
          · rw [if_neg (by omega), if_neg (by omega)]
            simpa [z1, tv] using g1
          · rw [if_neg (by omega), if_pos (by omega)]
            simpa [z1, tv] using g1
        · by_cases z1 : t / 100 % 3 = 1
          · simp only [z1] at g1
            rw [if_neg z0, if_pos z1, if_neg (by omega)]
            by_cases z2 : lets A p dr l (t / 300) = t % 100
            · rw [if_pos z2]
              simpa [z2, tv] using g1
            · rw [if_neg z2]
              simpa [z2, tv] using g1
          · rw [if_neg z0, if_neg z1, if_neg (by omega)]
            simp only [z0, z1, if_false] at g1
            by_cases z2 : t % 100 < lets A p dr l (t / 300)
            · rw [if_neg (by omega)]
              simpa [z2, tv] using g1
            · rw [if_pos (by omega)]
              simpa [z2, tv] using g1
end
