/-! THE REFERENCE: heads, hairs, a night -/
/-- one HEAD in the reference's cells; b: whether its bit says it is shelved -/
def HeadN (p : Int) (H : Nat → Int → Int) (m : SM) : Prop :=
  (m.1 181 p.toNat = J (H 0 0) ∧ m.1 182 p.toNat = J (H 0 1) ∧ m.1 183 p.toNat = J (H 0 2) ∧ m.1 184 p.toNat = J (H 0 3)) ∧ (∀ j : Int, 0 ≤ j → j < 4 → m.1 185 (4 * p + j).toNat = J (H 1 j)) ∧ (∀ j : Int, 0 ≤ j → j < 8 → ¬ H 2 j = -1 → m.1 186 (8 * p + j).toNat = J (H 2 j)) ∧ ∀ j : Int, 0 ≤ j → j < 8 → m.1 187 (8 * p + j).toNat = J (H 3 j)
def ShN (sh : Int) (A : Shp) (m : SM) : Prop :=
  (m.1 177 0 = J (A.1 0 0) ∧ m.1 177 1 = J sh ∧ m.1 177 2 = J (A.1 0 2) ∧ m.1 177 3 = J (A.1 0 1)) ∧ (∀ k : Nat, 0 < k → k ≤ 3 → ∀ j : Int, 0 ≤ j → j < 8 → m.1 (177 + k) j.toNat = J (A.1 k j)) ∧ (∀ p : Int, 0 ≤ p → p < A.1 0 0 → HeadN p (A.2.1 p) m) ∧ ((0 ≤ sh ∧ sh < 64) ∧ ∀ p : Int, 0 ≤ p → p < A.1 0 0 → bitP sh p = A.2.1 p 0 4)
def tiK : Nat → Prop := fun k => k = 187
def tiI : Nat → Prop := fun i => i = 2 ∨ i = 3
theorem HeadN.fr {p : Int} {H : Nat → Int → Int} {m m' : SM} {K KI : Nat → Prop} (h : HeadN p H m) (hF : FrR K KI m m') (hK : ∀ k, 181 ≤ k → k ≤ 187 → ¬ K k) : HeadN p H m' := by
  unfold HeadN
  rw [hF.1 181 (hK _ (by omega) (by omega)) (by omega), hF.1 182 (hK _ (by omega) (by omega)) (by omega), hF.1 183 (hK _ (by omega) (by omega)) (by omega), hF.1 184 (hK _ (by omega) (by omega)) (by omega), hF.1 185 (hK _ (by omega) (by omega)) (by omega), hF.1 186 (hK _ (by omega) (by omega)) (by omega), hF.1 187 (hK _ (by omega) (by omega)) (by omega)]
  exact h
theorem ShN.fr {sh : Int} {A : Shp} {m m' : SM} {K KI : Nat → Prop} (h : ShN sh A m) (hF : FrR K KI m m') (hK : ∀ k, (178 ≤ k ∧ k ≤ 187) → ¬ K k) (hKI : ∀ i, i ≤ 3 → ¬ KI i) : ShN sh A m' := by
  obtain ⟨⟨a0, a1, a2, a3⟩, b, c, e⟩ := h
  refine ⟨⟨by rw [hF.2.1 0 (hKI 0 (by omega))]; exact a0, by rw [hF.2.1 1 (hKI 1 (by omega))]; exact a1, by rw [hF.2.1 2 (hKI 2 (by omega))]; exact a2, by rw [hF.2.1 3 (hKI 3 (by omega))]; exact a3⟩, fun k h0 h1 j h2 h3 => by rw [hF.1 (177 + k) (hK _ (by omega)) (by omega)]; exact b k h0 h1 j h2 h3, fun p h0 h1 => (c p h0 h1).fr hF fun k h2 h3 => hK k (by omega), e⟩
/-- one TIGHT written -/
theorem HeadN.ti {p q : Int} {H : Nat → Int → Int} {m : SM} (h : HeadN p H m) (hp : 0 ≤ p) (hq : 0 ≤ q) {c : Int} (hc : 0 ≤ c ∧ c < 8) (v : Int) : HeadN p (if p = q then upH H 3 c v else H) (up2 m.1 187 (8 * q + c).toNat (J v), m.2) := by
  obtain ⟨⟨a0, a1, a2, a3⟩, r1, r2, r3⟩ := h
  have e1 : ∀ k, k ≠ 187 → up2 m.1 187 (8 * q + c).toNat (J v) k = m.1 k := fun k hk => u2_ne _ _ hk
  have g : ∀ a j, a ≠ 3 → (if p = q then upH H 3 c v else H) a j = H a j := fun a j ha => by
    split
    · unfold upH; rw [if_neg (fun z => ha z.1)]
    · rfl
  refine ⟨?_, fun j h0 h1 => ?_, fun j h0 h1 hz => ?_, fun j h0 h1 => ?_⟩
  · show up2 m.1 187 (8 * q + c).toNat (J v) 181 p.toNat = _ ∧ up2 m.1 187 (8 * q + c).toNat (J v) 182 p.toNat = _ ∧ up2 m.1 187 (8 * q + c).toNat (J v) 183 p.toNat = _ ∧ up2 m.1 187 (8 * q + c).toNat (J v) 184 p.toNat = _
    rw [e1 181 (by omega), e1 182 (by omega), e1 183 (by omega), e1 184 (by omega), g 0 0 (by omega), g 0 1 (by omega), g 0 2 (by omega), g 0 3 (by omega)]
    exact ⟨a0, a1, a2, a3⟩
  · show up2 m.1 187 (8 * q + c).toNat (J v) 185 (4 * p + j).toNat = _
    rw [e1 185 (by omega), g 1 j (by omega)]
    exact r1 j h0 h1
  · show up2 m.1 187 (8 * q + c).toNat (J v) 186 (8 * p + j).toNat = _
    rw [g 2 j (by omega)] at hz ⊢
    rw [e1 186 (by omega)]
    exact r2 j h0 h1 hz
  · show up2 m.1 187 (8 * q + c).toNat (J v) 187 (8 * p + j).toNat = _
    rw [u2_at]
    by_cases e : p = q
    · subst e
      rw [if_pos rfl]
      unfold upH
      by_cases e2 : j = c
      · subst e2
        rw [if_pos rfl, if_pos ⟨rfl, rfl⟩]
      · rw [if_neg (by omega), if_neg (fun z => e2 z.2)]
        exact r3 j h0 h1
    · rw [if_neg (by omega), if_neg e]
      exact r3 j h0 h1
theorem HeadN.eq {p : Int} {H H' : Nat → Int → Int} {m : SM} (h : HeadN p H m) (h0 : ∀ j : Int, 0 ≤ j → j < 4 → H 0 j = H' 0 j) (h1 : ∀ j : Int, 0 ≤ j → j < 4 → H 1 j = H' 1 j) (h2 : ∀ j : Int, 0 ≤ j → j < 8 → ¬ H' 2 j = -1 → H 2 j = H' 2 j) (h3 : ∀ j : Int, 0 ≤ j → j < 8 → H 3 j = H' 3 j) : HeadN p H' m := by
  obtain ⟨⟨a0, a1, a2, a3⟩, r1, r2, r3⟩ := h
  refine ⟨⟨?_, ?_, ?_, ?_⟩, fun j g1 g2 => by rw [← h1 j g1 g2]; exact r1 j g1 g2, fun j g1 g2 g3 => ?_, fun j g1 g2 => by rw [← h3 j g1 g2]; exact r3 j g1 g2⟩
  · rw [← h0 0 (by omega) (by omega)]; exact a0
  · rw [← h0 1 (by omega) (by omega)]; exact a1
  · rw [← h0 2 (by omega) (by omega)]; exact a2
  · rw [← h0 3 (by omega) (by omega)]; exact a3
  · rw [← h2 j g1 g2 g3]
    exact r2 j g1 g2 (by rw [h2 j g1 g2 g3]; exact g3)
section
variable {m : SM} {d : Nat} {A : Shp} {sh : Int}
theorem L_151 {p : Int} {H : Nat → Int → Int} (hp : 0 ≤ p ∧ p < 6) (hR : HeadN p H m) (hI : HeadI H) {cf : Nat → List Value → SM → Rs SM} : ∀ (n : Nat) (c k : Int), 0 ≤ c → c + n = 8 → rB Q0 151 cf 4 [some (.ref 177), some (.int (J p)), some (.int (J k)), some (.int (J c))] m = some (some (.int (J (k + sumF (hairF H) c n))), m) := by
  have r3 := hR.2.2.2
  intro n
  induction n with
  | zero =>
    intro c k h0 h1
    obtain rfl : c = 8 := by omega
    rw [T_151_4]
    simp (disch := omega) only [kk, lits, q0_J, q1_J, q2_J, cI_J, cT_J, cB_J, cZ_J, cS_J, c1_J, cA_J, J_clamp, u2_at, reduceIte, sumF]
    simp
  | succ n ih =>
    intro c k h0 h1
    have hi := hI.2.2 c h0 (by omega)
    rw [T_151_4]
    simp (disch := omega) only [kk, lits, q0_J, q1_J, q2_J, cI_J, cT_J, cB_J, cZ_J, cS_J, c1_J, cA_J, J_clamp, u2_at, reduceIte, r3]
    rw [if_neg (by omega), ih _ _ (by omega) (by omega), ih _ _ (by omega) (by omega)]
    have e9 : sumF (hairF H) c (n + 1) = hairF H c + sumF (hairF H) (c + 1) n := rfl
    rw [e9]
    by_cases hz : H 2 c = -1
    · rw [if_pos (by omega)]
      simp [hairF, hz]
    · rw [if_neg (by omega)]
      simp [hairF, hz, Int.add_assoc]
theorem S_151 {p : Int} {H : Nat → Int → Int} (hp : 0 ≤ p ∧ p < 6) (hR : HeadN p H m) (hI : HeadI H) : cB Q0 (d + 1) 151 [.ref 177, .int (J p)] m = some (some (.int (J (hairs H))), m) := by
  rw [cB_eq]
  show rB Q0 151 (cB Q0 d) 0 [some (.ref 177), some (.int (J p))] m = _
  rw [T_151_0]
  have := L_151 (cf := cB Q0 d) hp hR hI 8 0 0 (by omega) (by omega)
  rw [Int.zero_add] at this
  exact this
theorem L_154 (hR : ShN sh A m) (hI : ShI A) : ∀ (n : Nat) (c k : Int), 0 ≤ c → c + n = A.1 0 0 → rB Q0 154 (cB Q0 (d + 1)) 4 [some (.ref 177), some (.int (J k)), some (.int (J c))] m = some (some (.int (J (k + sumF (allF A) c n))), m) := by
  have a0 := hR.1.1
  have i0 := hI.1.1
  intro n
  induction n with
  | zero =>
    intro c k h0 h1
    rw [T_154_4]
    simp (disch := omega) only [kk, lits, q0_J, q1_J, q2_J, cI_J, cT_J, cB_J, cZ_J, cS_J, c1_J, cA_J, J_clamp, u2_at, reduceIte, a0, sumF]
    rw [if_pos (by omega)]
    simp
  | succ n ih =>
    intro c k h0 h1
    have e1 := S_151 (d := d) (p := c) ⟨h0, by omega⟩ (hR.2.2.1 c h0 (by omega)) (hI.2.2.1 c h0 (by omega))
    rw [T_154_4]
    simp (disch := omega) only [kk, lits, q0_J, q1_J, q2_J, cI_J, cT_J, cB_J, cZ_J, cS_J, c1_J, cA_J, J_clamp, u2_at, reduceIte, a0, e1]
    rw [if_neg (by omega), ih _ _ (by omega) (by omega)]
    simp [sumF, allF, Int.add_assoc]
theorem S_154 (hR : ShN sh A m) (hI : ShI A) : cB Q0 (d + 2) 154 [.ref 177] m = some (some (.int (J (allHairs A))), m) := by
  have i0 := hI.1.1
  rw [cB_eq]
  show rB Q0 154 (cB Q0 (d + 1)) 0 [some (.ref 177)] m = _
  rw [T_154_0]
  have := L_154 (d := d) hR hI (A.1 0 0).toNat 0 0 (by omega) (by omega)
  rw [Int.zero_add] at this
  exact this
/-- FALLEN behind so many hairs, one by one -/
def capN (most f x : Int) : Int := if f + x < most then f + x else most
/-- the cells of one HEAD in a night; behind them the machine goes on at the next HEAD -/
theorem L_155c {b most : Int} (hb : 1 ≤ b ∧ b ≤ 2) (hm : 0 ≤ most ∧ most ≤ 2000000000) {p : Int} (hp : 0 ≤ p ∧ p < 6) : ∀ (n : Nat) (c f : Int) (H : Nat → Int → Int) (m : SM), 0 ≤ c → c + n = 8 → m.1 177 2 = J f → m.1 177 32 = J most → 0 ≤ f → f ≤ most → (∀ j : Int, 0 ≤ j → j < 8 → m.1 187 (8 * p + j).toNat = J (H 3 j)) → (∀ j : Int, 0 ≤ j → j < 8 → (H 2 j = -1 ∧ H 3 j = 0) ∨ ((0 ≤ H 2 j ∧ H 2 j ≤ 7) ∧ 1 ≤ H 3 j ∧ H 3 j ≤ 9)) → ∃ m', rB Q0 155 (cB Q0 (d + 1)) 55 [some (.ref 177), some (.int (J b)), some (.int (J p)), some (.int (J (8 * p + c)))] m = rB Q0 155 (cB Q0 (d + 1)) 27 [some (.ref 177), some (.int (J b)), some (.int (J (p + 1)))] m' ∧ m'.1 177 2 = J (capN most f (sumF (lostF H b) c n)) ∧ (∀ j : Int, 0 ≤ j → j < 8 → m'.1 187 (8 * p + j).toNat = J (looC H b c 3 j)) ∧ (∀ i : Int, 0 ≤ i → (i < 8 * p ∨ 8 * p + 8 ≤ i) → m'.1 187 i.toNat = m.1 187 i.toNat) ∧ FrR tiK (fun i => i = 2) m m' := by
  intro n
  induction n with
  | zero =>
    intro c f H m h0 h1 h2 h3 h4 h5 h6 h7
    obtain rfl : c = 8 := by omega
    refine ⟨m, ?_, ?_, fun j g0 g1 => ?_, fun _ _ _ => rfl, FrR.rf⟩
    · rw [T_155_55]
      simp (disch := omega) only [kk, lits, q0_J, q1_J, q2_J, cI_J, cT_J, cB_J, cZ_J, cS_J, c1_J, cA_J, J_clamp, u2_at, reduceIte]
      rw [if_pos (by omega)]
    · unfold capN sumF
      rw [h2]
      split
      · simp
      · rw [show f = most by omega]
    · unfold looC
      rw [if_neg (by omega)]
      exact h6 j g0 g1
  | succ n ih =>
    intro c f H m h0 h1 h2 h3 h4 h5 h6 h7
    have hi := h7 c h0 (by omega)
    have hc6 := h6 c h0 (by omega)
    have e9 : sumF (lostF H b) c (n + 1) = lostF H b c + sumF (lostF H b) (c + 1) n := rfl
    have hsn := sumF_in (f := lostF H b) (B := 1) n (c + 1) fun j _ _ => by
      unfold lostF
      split <;> omega
    by_cases hz : H 2 c = -1
    · obtain ⟨m', q1, q2, q3, q4, q5⟩ := ih (c + 1) f H m (by omega) (by omega) h2 h3 h4 h5 h6 h7
      refine ⟨m', ?_, ?_, fun j g0 g1 => ?_, q4, q5⟩
      · rw [T_155_55]
        simp (disch := omega) only [kk, lits, q0_J, q1_J, q2_J, cI_J, cT_J, cB_J, cZ_J, cS_J, c1_J, cA_J, J_clamp, u2_at, reduceIte, hc6]
        rw [if_neg (by omega), if_pos (by omega), ← q1, show 8 * p + c + 1 = 8 * p + (c + 1) by omega]
      · rw [q2, e9]
        simp [lostF, hz]
      · rw [q3 j g0 g1]
        unfold looC
        by_cases e : j = c
        · subst e
          rw [if_neg (by omega), if_neg (by omega)]
        · have : (c + 1 ≤ j ↔ c ≤ j) := by omega
          simp only [this]
    · -- the new TIGHT
      have key : ∀ (v f' : Int), v = (if H 3 c - b ≤ 0 then 0 else H 3 c - b) → f' = (if H 3 c - b ≤ 0 then (if f + 1 < most then f + 1 else most) else f) → ∀ m1 : SM, m1 = (up2 (up2 m.1 187 (8 * p + c).toNat (J v)) 177 2 (J f'), m.2) → rB Q0 155 (cB Q0 (d + 1)) 55 [some (.ref 177), some (.int (J b)), some (.int (J p)), some (.int (J (8 * p + c)))] m = rB Q0 155 (cB Q0 (d + 1)) 55 [some (.ref 177), some (.int (J b)), some (.int (J p)), some (.int (J (8 * p + (c + 1))))] m1 → ∃ m', rB Q0 155 (cB Q0 (d + 1)) 55 [some (.ref 177), some (.int (J b)), some (.int (J p)), some (.int (J (8 * p + c)))] m = rB Q0 155 (cB Q0 (d + 1)) 27 [some (.ref 177), some (.int (J b)), some (.int (J (p + 1)))] m' ∧ m'.1 177 2 = J (capN most f (sumF (lostF H b) c (n + 1))) ∧ (∀ j : Int, 0 ≤ j → j < 8 → m'.1 187 (8 * p + j).toNat = J (looC H b c 3 j)) ∧ (∀ i : Int, 0 ≤ i → (i < 8 * p ∨ 8 * p + 8 ≤ i) → m'.1 187 i.toNat = m.1 187 i.toNat) ∧ FrR tiK (fun i => i = 2) m m' := by
        intro v f' hv hf' m1 hm1 hrun
        have k1 : FrR tiK (fun i => i = 2) m m1 := by
          rw [hm1]
          exact FrR.tr (FrR.put (K := tiK) (KI := fun i => i = 2) (k := 187) (by exact rfl) (by omega) (8 * p + c).toNat (J v)) (FrR.put7 (K := tiK) (KI := fun i => i = 2) (m := (up2 m.1 187 (8 * p + c).toNat (J v), m.2)) (i := 2) (by exact rfl) (J f'))
        have g2 : m1.1 177 2 = J f' := by rw [hm1]; simp [u2_at]
        have g3 : m1.1 177 32 = J most := by rw [k1.2.1 32 (by omega)]; exact h3
        have g6 : ∀ j : Int, 0 ≤ j → m1.1 187 (8 * p + j).toNat = if j = c then J v else m.1 187 (8 * p + j).toNat := by
          intro j g0
          rw [hm1]
          show up2 (up2 m.1 187 (8 * p + c).toNat (J v)) 177 2 (J f') 187 (8 * p + j).toNat = _
          rw [u2_ne _ _ (by omega), u2_at]
          by_cases e : j = c
          · subst e; rw [if_pos rfl, if_pos rfl]
          · rw [if_neg (by omega), if_neg e]
        have hv2 : (v = 0 ∧ H 3 c - b ≤ 0) ∨ (1 ≤ v ∧ v ≤ 9 ∧ v = H 3 c - b ∧ ¬ H 3 c - b ≤ 0) := by
          rw [hv]
          split <;> omega
        obtain ⟨m', q1, q2, q3, q4, q5⟩ := ih (c + 1) f' (upH (upH H 3 c v) 2 c (if v = 0 then -1 else H 2 c)) m1 (by omega) (by omega) g2 g3 (by rw [hf']; split <;> (try split) <;> omega) (by rw [hf']; split <;> (try split) <;> omega) (fun j g0 g1 => by
          rw [g6 j g0]
          by_cases e : j = c
          · subst e; simp [upH]
          · rw [if_neg e, h6 j g0 g1]; simp [upH, e]) (fun j g0 g1 => by
          by_cases e : j = c
          · subst e
            rcases hv2 with ⟨z1, z2⟩ | ⟨z1, z2, z3, z4⟩
            · left; simp [upH, z1]
            · right
              have : ¬ v = 0 := by omega
              simp [upH, this]
              omega
          · simpa [upH, e] using h7 j g0 g1)
        have hs : sumF (lostF (upH (upH H 3 c v) 2 c (if v = 0 then -1 else H 2 c)) b) (c + 1) n = sumF (lostF H b) (c + 1) n := sumF_congr _ _ fun j g1 g2 => by
          have e : ¬ j = c := by omega
          simp [lostF, upH, e]
        refine ⟨m', hrun.trans q1, ?_, fun j g0 g1 => ?_, fun i g0 g1 => ?_, k1.tr q5⟩
        · rw [q2, hs, e9, hf']
          by_cases hl : H 3 c - b ≤ 0
          · have e1 : lostF H b c = 1 := by simp [lostF, hz, hl]
            rw [if_pos hl, e1]
            unfold capN
            by_cases hq : f + 1 < most
            · rw [if_pos hq, Int.add_assoc]
            · rw [if_neg hq, if_neg (by omega), if_neg (by omega)]
          · have e1 : lostF H b c = 0 := by simp [lostF, hl]
            rw [if_neg hl, e1, Int.zero_add]
        · rw [q3 j g0 g1]
          unfold looC
          by_cases e : j = c
          · subst e
            rw [if_neg (by omega)]
            rcases hv2 with ⟨z1, z2⟩ | ⟨z1, z2, z3, z4⟩
            · simp [upH, z1, z2, hz]
            · simp [upH, z3, z4, hz]
          · have : (c + 1 ≤ j ↔ c ≤ j) := by omega
            simp [this, upH, e]
        · rw [q4 i g0 g1, hm1]
          show up2 (up2 m.1 187 (8 * p + c).toNat (J v)) 177 2 (J f') 187 i.toNat = _
          rw [u2_ne _ _ (by omega), u2_at, if_neg (by omega)]
      by_cases hl : H 3 c - b ≤ 0
      · refine key 0 (if f + 1 < most then f + 1 else most) (by rw [if_pos hl]) (by rw [if_pos hl]) _ rfl ?_
        rw [T_155_55]
        by_cases hq : b ≤ H 3 c
        · have e0 : H 3 c - b = 0 := by omega
          simp (disch := omega) only [kk, lits, q0_J, q1_J, q2_J, cI_J, cT_J, cB_J, cZ_J, cS_J, c1_J, cA_J, J_clamp, u2_at, reduceIte, hc6, e0, u2_ne, h2, h3, S_111]
          rw [if_neg (by omega), if_neg (by omega), if_pos hq, show 8 * p + c + 1 = 8 * p + (c + 1) by omega]
        · simp (disch := omega) only [kk, lits, q0_J, q1_J, q2_J, cI_J, cT_J, cB_J, cZ_J, cS_J, c1_J, cA_J, J_clamp, u2_at, reduceIte, hc6, u2_ne, h2, h3, S_111]
          rw [if_neg (by omega), if_neg (by omega), if_neg hq, show 8 * p + c + 1 = 8 * p + (c + 1) by omega]
      · refine key (H 3 c - b) f (by rw [if_neg hl]) (by rw [if_neg hl]) _ rfl ?_
        rw [T_155_55]
        have e0 : ¬ H 3 c - b = 0 := by omega
        simp (disch := omega) only [kk, lits, q0_J, q1_J, q2_J, cI_J, cT_J, cB_J, cZ_J, cS_J, c1_J, cA_J, J_clamp, u2_at, reduceIte, hc6, u2_ne, h2, h3, S_111, e0]
        rw [if_neg (by omega), if_neg (by omega), if_pos (by omega), show 8 * p + c + 1 = 8 * p + (c + 1) by omega]
end
