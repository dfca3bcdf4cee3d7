/-! a HEAD begins, loosens, is copied; its shades and how much it is off -/
section
variable {h : Nat} {H : Nat → Int → Int} {m : SM} {cf : Nat → List Value → SM → Rs SM} {d : Nat}
def newH (k v e : Int) : Nat → Int → Int := fun a j => if a = 0 then (if j = 0 then k else if j = 1 then v else if j = 2 then e else if j = 3 then 30 else 0) else if a = 2 then -1 else 0
def rowC (H : Nat → Int → Int) (c : Int) : Nat → Int → Int := fun a j => if a = 1 ∧ c ≤ j then 0 else H a j
theorem L_4 (hF : HdF h) : ∀ (n : Nat) (c : Int) (H : Nat → Int → Int) (m : SM), 0 ≤ c → c + n = 4 → HeadR h H m → ∃ m', rB Q0 4 (cB Q0 (d + 2)) 29 [some (.ref h), none, none, none, some (.int (J c))] m = some (none, m') ∧ HeadR h (shearC (rowC H c) 0) m' ∧ Fr (hK h) m m' := by
  have f1 := hF.1.1
  have f2 := hF.1.2.1
  have f5 := hF.2.1
  intro n
  induction n with
  | zero =>
    intro c H m h0 h1 hR
    obtain rfl : c = 4 := by omega
    obtain ⟨m', e1, e2, e3⟩ := S_6 (d := d) hF hR
    refine ⟨m', ?_, e2.eq (fun j _ _ => by simp [shearC, rowC]) (fun j _ _ => by unfold shearC rowC; rw [if_neg (by omega), if_neg (by omega), if_neg (by omega), if_neg (by omega), if_neg (by omega)]) (fun j _ _ => by simp [shearC, rowC]) (fun j _ _ => by simp [shearC, rowC]), e3⟩
    rw [T_4_29]
    simp (disch := omega) only [kk, lits, q0_J, q1_J, q2_J, cI_J, cT_J, cB_J, cZ_J, cS_J, c1_J, cA_J, J_clamp, u2_at, reduceIte, f1, e1]
    rw [if_pos (by omega)]
  | succ n ih =>
    intro c H m h0 h1 hR
    have hR1 := hR.pr (k := 1) (by omega) h0 0
    obtain ⟨m', e1, e2, e3⟩ := ih (c + 1) _ _ (by omega) (by omega) hR1
    refine ⟨m', ?_, e2.eq (fun j _ _ => by simp [shearC, rowC, upH]) (fun j g1 g2 => ?_) (fun j _ _ => by simp [shearC, rowC, upH]) (fun j _ _ => by simp [shearC, rowC, upH]), (Fr.put (k := h + 1) (by unfold hK; omega) _ _).tr e3⟩
    · rw [T_4_29]
      simp (disch := omega) only [kk, lits, q0_J, q1_J, q2_J, cI_J, cT_J, cB_J, cZ_J, cS_J, c1_J, cA_J, J_clamp, u2_at, reduceIte, f1, f2, f5]
      rw [if_neg (by omega)]
      exact e1
    · unfold shearC rowC upH
      by_cases e : c ≤ j
      · by_cases e4 : c + 1 ≤ j
        · simp [e, e4]
        · have : j = c := by omega
          subst this
          simp [e4]
      · have : ¬ c + 1 ≤ j := by omega
        have e5 : ¬ j = c := by omega
        simp [e, this, e5]
theorem S_4 (hF : HdF h) {k v e : Int} : ∃ m', cB Q0 (d + 3) 4 [.ref h, .int (J k), .int (J v), .int (J e)] m = some (none, m') ∧ HeadR h (newH k v e) m' ∧ Fr (hK h) m m' := by
  have f1 := hF.1.1
  -- any cells at first
  obtain ⟨H, hR⟩ : ∃ H, HeadR h H m := by
    refine ⟨fun a j => if a = 0 then (m.1 h j.toNat).toInt else (m.1 (h + a) j.toNat).toInt, ?_⟩
    have e : ∀ x : Int32, x = J x.toInt := fun x => (Int32.ofInt_toInt x).symm
    exact ⟨⟨e _, e _, e _, e _, e _⟩, fun j _ _ => e _, fun j _ _ => e _, fun j _ _ => e _⟩
  have hR1 := ((((hR.p0 (i := 0) (j := 0) rfl (by omega) k).p0 (i := 1) (j := 1) rfl (by omega) v).p0 (i := 2) (j := 2) rfl (by omega) e).p0 (i := 3) (j := 3) rfl (by omega) 30).p0 (i := 4) (j := 4) rfl (by omega) 0
  obtain ⟨m', e1, e2, e3⟩ := L_4 (d := d) hF 4 0 _ _ (by omega) (by omega) hR1
  refine ⟨m', ?_, e2.eq (fun j g1 g2 => ?_) (fun j g1 g2 => ?_) (fun j g1 g2 => ?_) (fun j g1 g2 => ?_), ?_⟩
  · rw [cB_eq]
    show rB Q0 4 (cB Q0 (d + 2)) 0 [some (.ref h), some (.int (J k)), some (.int (J v)), some (.int (J e))] m = _
    rw [T_4_0]
    simp (disch := omega) only [kk, lits, q0_J, q1_J, q2_J, cI_J, cT_J, cB_J, cZ_J, cS_J, c1_J, cA_J, J_clamp, u2_at, reduceIte, f1]
    exact e1
  · rcases (show j = 0 ∨ j = 1 ∨ j = 2 ∨ j = 3 ∨ j = 4 by omega) with rfl | rfl | rfl | rfl | rfl <;> simp [shearC, rowC, upH, newH]
  · simp [shearC, rowC, newH, g1]
  · simp [shearC, newH, g1]
  · simp [shearC, newH, g1]
  · refine Fr.tr ?_ e3
    have hk : hK h h := by unfold hK; omega
    exact ((((Fr.put hk _ _).tr (Fr.put hk _ _)).tr (Fr.put hk _ _)).tr (Fr.put hk _ _)).tr (Fr.put hk _ _)
/-- each hair by so much less tight, from a cell on -/
def looC (H : Nat → Int → Int) (b c : Int) : Nat → Int → Int := fun a j => if c ≤ j ∧ ¬ H 2 j = -1 then (if a = 2 then (if H 3 j - b ≤ 0 then -1 else H 2 j) else if a = 3 then (if H 3 j - b ≤ 0 then 0 else H 3 j - b) else H a j) else H a j
def lostF (H : Nat → Int → Int) (b c : Int) : Int := if ¬ H 2 c = -1 ∧ H 3 c - b ≤ 0 then 1 else 0
theorem L_9 (hF : HdF h) {b : Int} (hb : 1 ≤ b ∧ b ≤ 2) : ∀ (n : Nat) (c k : Int) (H : Nat → Int → Int) (m : SM), 0 ≤ c → c + n = 8 → HeadR h H m → (∀ j : Int, 0 ≤ j → j < 8 → (H 2 j = -1 ∧ H 3 j = 0) ∨ ((0 ≤ H 2 j ∧ H 2 j ≤ 7) ∧ 1 ≤ H 3 j ∧ H 3 j ≤ 9)) → ∃ m', rB Q0 9 (cB Q0 (d + 1)) 4 [some (.ref h), some (.int (J b)), some (.int (J k)), some (.int (J c))] m = some (some (.int (J (k + sumF (lostF H b) c n))), m') ∧ HeadR h (looC H b c) m' ∧ Fr (hK h) m m' := by
  have hF0 := hF
  obtain ⟨⟨f1, f2, f3, f4⟩, f5, f6, f7⟩ := hF
  intro n
  induction n with
  | zero =>
    intro c k H m h0 h1 hR hI
    obtain rfl : c = 8 := by omega
    refine ⟨m, ?_, hR.eq (fun j _ _ => by unfold looC; rw [if_neg (by omega)]) (fun j _ _ => by unfold looC; rw [if_neg (by omega)]) (fun j _ _ => by unfold looC; rw [if_neg (by omega)]) (fun j _ _ => by unfold looC; rw [if_neg (by omega)]), Fr.rf⟩
    rw [T_9_4]
    simp (disch := omega) only [kk, lits, q0_J, q1_J, q2_J, cI_J, cT_J, cB_J, cZ_J, cS_J, c1_J, cA_J, J_clamp, u2_at, reduceIte, sumF]
    simp
  | succ n ih =>
    intro c k H m h0 h1 hR hI
    have hc : c < 8 := by omega
    have hi := hI c h0 hc
    have r2 := hR.2.2.1 c h0 hc
    have r3 := hR.2.2.2 c h0 hc
    by_cases hz : H 2 c = -1
    · obtain ⟨m', e1, e2, e3⟩ := ih (c + 1) k H m (by omega) (by omega) hR hI
      have key : ∀ a j, looC H b (c + 1) a j = looC H b c a j := by
        intro a j
        unfold looC
        by_cases e : j = c
        · subst e
          rw [if_neg (by omega), if_neg (by omega)]
        · have : (c + 1 ≤ j ↔ c ≤ j) := by omega
          simp only [this]
      refine ⟨m', ?_, e2.eq (fun j _ _ => key _ _) (fun j _ _ => key _ _) (fun j _ _ => key _ _) (fun j _ _ => key _ _), e3⟩
      rw [T_9_4]
      simp (disch := omega) only [kk, lits, q0_J, q1_J, q2_J, cI_J, cT_J, cB_J, cZ_J, cS_J, c1_J, cA_J, J_clamp, u2_at, reduceIte, f1, f3, f6, r2]
      rw [if_neg (by omega), if_pos (by omega), e1]
      simp [sumF, lostF, hz]
    · by_cases hl : H 3 c - b ≤ 0
      · have hR1 := hR.pr (k := 3) (by omega) h0 (H 3 c - b)
        have hR2 := (hR1.pr (k := 2) (by omega) h0 (-1)).pr (k := 3) (by omega) h0 0
        obtain ⟨m', e1, e2, e3⟩ := ih (c + 1) (k + 1) _ _ (by omega) (by omega) hR2 (fun j g1 g2 => by
          by_cases e : j = c
          · subst e; left; simp [upH]
          · simpa [upH, e] using hI j g1 g2)
        have hs : sumF (lostF (upH (upH (upH H 3 c (H 3 c - b)) 2 c (-1)) 3 c 0) b) (c + 1) n = sumF (lostF H b) (c + 1) n := sumF_congr _ _ fun j g1 g2 => by
          have e : ¬ j = c := by omega
          simp [lostF, upH, e]
        have key : ∀ a j, looC (upH (upH (upH H 3 c (H 3 c - b)) 2 c (-1)) 3 c 0) b (c + 1) a j = looC H b c a j := by
          intro a j
          unfold looC upH
          by_cases e : j = c
          · subst e
            have : ¬ j + 1 ≤ j := by omega
            by_cases ea : a = 2
            · subst ea; simp [hz, hl]
            · by_cases eb : a = 3
              · subst eb; simp [hz, hl]
              · simp [ea, eb]
          · have : (c + 1 ≤ j ↔ c ≤ j) := by omega
            simp [this, e]
        refine ⟨m', ?_, e2.eq (fun j _ _ => key _ _) (fun j _ _ => key _ _) (fun j _ _ => key _ _) (fun j _ _ => key _ _), ?_⟩
        · rw [T_9_4]
          simp (disch := omega) only [kk, lits, q0_J, q1_J, q2_J, cI_J, cT_J, cB_J, cZ_J, cS_J, c1_J, cA_J, J_clamp, u2_at, reduceIte, f1, f3, f4, f6, f7, r2, r3, S_7 hF0]
          rw [if_neg (by omega), if_neg hz, if_neg (by omega), e1, hs]
          simp [sumF, lostF, hz, hl, Int.add_assoc]
        · exact (((Fr.put (k := h + 3) (by unfold hK; omega) _ _).tr (Fr.put (k := h + 2) (by unfold hK; omega) _ _)).tr (Fr.put (k := h + 3) (by unfold hK; omega) _ _)).tr e3
      · have hR1 := hR.pr (k := 3) (by omega) h0 (H 3 c - b)
        obtain ⟨m', e1, e2, e3⟩ := ih (c + 1) k _ _ (by omega) (by omega) hR1 (fun j g1 g2 => by
          by_cases e : j = c
          · subst e
            right
            have := hI j g1 g2
            simp [upH]
            omega
          · simpa [upH, e] using hI j g1 g2)
        have hs : sumF (lostF (upH H 3 c (H 3 c - b)) b) (c + 1) n = sumF (lostF H b) (c + 1) n := sumF_congr _ _ fun j g1 g2 => by
          have e : ¬ j = c := by omega
          simp [lostF, upH, e]
        have key : ∀ a j, looC (upH H 3 c (H 3 c - b)) b (c + 1) a j = looC H b c a j := by
          intro a j
          unfold looC upH
          by_cases e : j = c
          · subst e
            have : ¬ j + 1 ≤ j := by omega
            by_cases ea : a = 2
            · subst ea; simp [hz, hl, this]
            · by_cases eb : a = 3
              · subst eb; simp [hz, hl, this]
              · simp [ea, eb]
          · have : (c + 1 ≤ j ↔ c ≤ j) := by omega
            simp [this, e]
        refine ⟨m', ?_, e2.eq (fun j _ _ => key _ _) (fun j _ _ => key _ _) (fun j _ _ => key _ _) (fun j _ _ => key _ _), ?_⟩
        · rw [T_9_4]
          simp (disch := omega) only [kk, lits, q0_J, q1_J, q2_J, cI_J, cT_J, cB_J, cZ_J, cS_J, c1_J, cA_J, J_clamp, u2_at, reduceIte, f1, f3, f4, f6, f7, r2, r3, S_7 hF0]
          rw [if_neg (by omega), if_neg hz, if_pos (by omega), e1, hs]
          simp [sumF, lostF, hz, hl]
        · exact (Fr.put (k := h + 3) (by unfold hK; omega) _ _).tr e3
def looH (H : Nat → Int → Int) (b : Int) : Nat → Int → Int := looC H b 0
def lost (H : Nat → Int → Int) (b : Int) : Int := sumF (lostF H b) 0 8
theorem S_9 (hF : HdF h) (hR : HeadR h H m) (hI : HeadI H) {b : Int} (hb : 1 ≤ b ∧ b ≤ 2) : ∃ m', cB Q0 (d + 2) 9 [.ref h, .int (J b)] m = some (some (.int (J (lost H b))), m') ∧ HeadR h (looH H b) m' ∧ Fr (hK h) m m' := by
  obtain ⟨m', e1, e2, e3⟩ := L_9 (d := d) hF hb 8 0 0 H m (by omega) (by omega) hR hI.2.2
  refine ⟨m', ?_, e2, e3⟩
  rw [cB_eq]
  show rB Q0 9 (cB Q0 (d + 1)) 0 [some (.ref h), some (.int (J b))] m = _
  rw [T_9_0]
  rw [Int.zero_add] at e1
  exact e1
theorem looH_I (hI : HeadI H) {b : Int} (hb : 1 ≤ b ∧ b ≤ 2) : HeadI (looH H b) := by
  have k0 : ∀ j, looH H b 0 j = H 0 j := fun j => by simp [looH, looC]
  have k1 : ∀ j, looH H b 1 j = H 1 j := fun j => by simp [looH, looC]
  refine ⟨by rw [k0, k0, k0, k0, k0]; exact hI.1, fun j h0 h1 => by rw [k1]; exact hI.2.1 j h0 h1, fun j h0 h1 => ?_⟩
  have hi := hI.2.2 j h0 h1
  unfold looH looC
  by_cases hz : H 2 j = -1
  · left; simp [hz]; omega
  · by_cases hl : H 3 j - b ≤ 0
    · left; simp [h0, hz, hl]
    · right; simp [h0, hz, hl]; omega
theorem lost_in (H : Nat → Int → Int) (b : Int) : 0 ≤ lost H b ∧ lost H b ≤ 8 := by
  have := sumF_in (f := lostF H b) (B := 1) 8 0 fun j _ _ => by
    unfold lostF
    split <;> omega
  unfold lost
  omega
theorem hairs_in (H : Nat → Int → Int) : 0 ≤ hairs H ∧ hairs H ≤ 8 := by
  have := sumF_in (f := hairF H) (B := 1) 8 0 fun j _ _ => by
    unfold hairF
    split <;> omega
  unfold hairs
  omega
/-- copied -/
theorem cpy_at {f g : Nat → Int32} {n j : Nat} (hj : j < n) : va_cpy f g 0 0 n j = f j := by
  unfold va_cpy
  rw [if_pos (by omega)]
  simp
theorem okC_J {t a b : Nat} {n : Int} (h0 : 0 ≤ n) (h1 : n ≤ a) (h2 : n ≤ b) (h3 : n ≤ 1000000) {α : Type} (x y : α) : bT (okC Q0 t (.inr (t, a)) (.inr (t, b)) (J 0) (J 0) (J n)) x y = x := by
  refine bT_t ?_
  show bT (Nat.beq t t) (bT (Nat.beq t t) (Q0.2.2.2.2 (J 0) (J 0) (J n) a b) false) false = true
  rw [beq_rf]
  show ((decide ((0 : Int32) ≤ J 0) && (decide ((0 : Int32) ≤ J 0) && decide ((0 : Int32) ≤ J n))) && (decide ((J 0).toNatClampNeg + (J n).toNatClampNeg ≤ a) && decide ((J 0).toNatClampNeg + (J n).toNatClampNeg ≤ b))) = true
  rw [show (0 : Int32) = J 0 from rfl]
  simp only [J_le (show (-2147483648 : Int) ≤ 0 by omega) (show (0 : Int) ≤ 2147483647 by omega) (show -2147483648 ≤ n by omega) (show n ≤ 2147483647 by omega), J_clamp h0 (show n ≤ 2147483647 by omega), Bool.and_eq_true, decide_eq_true_eq]
  refine ⟨⟨by decide, by decide, h0⟩, ?_, ?_⟩
  · show 0 + n.toNat ≤ a
    omega
  · show 0 + n.toNat ≤ b
    omega
theorem uR_at {α : Type} (f : Nat → α) (k : Nat) (v : α) : upR f k v k = v := upR_self f k v
theorem uR_ne {α : Type} {f : Nat → α} {k j : Nat} (v : α) (h : j ≠ k) : upR f k v j = f j := upR_ne h
theorem nz_J {α : Type} {z : Int} (h : z = 0 ∨ z = 1) (x y : α) : bT (Q0.2.2.2.1 1 (J z)) x y = x := by
  rcases h with rfl | rfl <;> rfl
theorem S_5 {g : Nat} (hF : HdF h) (hG : HdF g) (hne : h + 3 < g ∨ g + 3 < h) (hR : HeadR g H m) (hs : H 0 4 = 0 ∨ H 0 4 = 1) : ∃ m', cB Q0 (d + 1) 5 [.ref h, .ref g] m = some (none, m') ∧ HeadR h H m' ∧ Fr (hK h) m m' := by
  obtain ⟨⟨f1, f2, f3, f4⟩, f5, f6, f7⟩ := hF
  obtain ⟨⟨g1, g2, g3, g4⟩, g5, g6, g7⟩ := hG
  obtain ⟨⟨a0, a1, a2, a3, a4⟩, r1, r2, r3⟩ := hR
  refine ⟨(upR (upR (upR (up2 (up2 (up2 (up2 (up2 m.1 h 0 (J (H 0 0))) h 1 (J (H 0 1))) h 2 (J (H 0 2))) h 3 (J (H 0 3))) h 4 (J (H 0 4))) (h + 1) (va_cpy (m.1 (g + 1)) (m.1 (h + 1)) 0 0 4)) (h + 2) (va_cpy (m.1 (g + 2)) (m.1 (h + 2)) 0 0 8)) (h + 3) (va_cpy (m.1 (g + 3)) (m.1 (h + 3)) 0 0 8), m.2), ?_, ?_, ?_⟩
  · rw [cB_eq]
    show rB Q0 5 (cB Q0 d) 0 [some (.ref h), some (.ref g)] m = _
    rw [T_5_0]
    simp (disch := omega) only [kk, lits, q0_J, q1_J, q2_J, cI_J, cT_J, cB_J, cZ_J, cS_J, c1_J, cA_J, J_clamp, u2_at, reduceIte, f1, f2, f3, f4, f5, f6, f7, g1, g2, g3, g4, g5, g6, g7, u2_ne, uR_ne, a0, a1, a2, a3, a4, nz_J hs, okC_J]
    rfl
  · refine ⟨⟨?_, ?_, ?_, ?_, ?_⟩, fun j h0 h1 => ?_, fun j h0 h1 => ?_, fun j h0 h1 => ?_⟩
    · simp (disch := omega) only [uR_ne, u2_at]; simp
    · simp (disch := omega) only [uR_ne, u2_at]; simp
    · simp (disch := omega) only [uR_ne, u2_at]; simp
    · simp (disch := omega) only [uR_ne, u2_at]; simp
    · simp (disch := omega) only [uR_ne, u2_at]; simp
    · simp (disch := omega) only [uR_ne, uR_at, cpy_at, r1]
    · simp (disch := omega) only [uR_ne, uR_at, cpy_at, r2]
    · simp (disch := omega) only [uR_ne, uR_at, cpy_at, r3]
  · refine ⟨fun k hk => ?_, rfl⟩
    unfold hK at hk
    simp (disch := omega) only [uR_ne, u2_ne]
end
