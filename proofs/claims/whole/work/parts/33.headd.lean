/-! the shades of a HEAD, and how much it is off -/
section
variable {h : Nat} {H : Nat → Int → Int} {m : SM} {cf : Nat → List Value → SM → Rs SM} {d : Nat}
theorem S_10 (hF : HdF h) (hR : HeadR h H m) (hI : HeadI H) {l : Int} (h1 : 0 ≤ l ∧ l ≤ 1) : cB Q0 (d + 1) 10 [.ref h, .int (J l)] m = some (some (.int (bi (H 0 0 = 4 ∧ l = 0))), m) := by
  have f1 := hF.1.1
  have a0 := hR.1.1
  have b0 := hI.1.1
  rw [cB_eq]
  show rB Q0 10 (cB Q0 d) 0 [some (.ref h), some (.int (J l))] m = _
  rw [T_10_0]
  simp (disch := omega) only [kk, lits, q0_J, q1_J, q2_J, cI_J, cT_J, cB_J, cZ_J, cS_J, c1_J, cA_J, J_clamp, u2_at, reduceIte, f1, a0]
  unfold bi
  by_cases e : H 0 0 = 4
  · by_cases e2 : l = 0
    · rw [if_pos e, if_pos e2, if_pos ⟨e, e2⟩]; rfl
    · rw [if_pos e, if_neg e2, if_neg (fun z => e2 z.2)]; rfl
  · rw [if_neg e, if_neg (fun z => e z.1)]; rfl
def byFront (H : Nat → Int → Int) (s l : Int) : Int := if l = 1 then s + H 0 1 else s
theorem S_12 (hF : HdF h) (hR : HeadR h H m) {s l : Int} (h1 : 0 ≤ l ∧ l ≤ 1) : cB Q0 (d + 1) 12 [.ref h, .int (J s), .int (J l)] m = some (some (.int (J (byFront H s l))), m) := by
  have f1 := hF.1.1
  have a1 := hR.1.2.1
  rw [cB_eq]
  show rB Q0 12 (cB Q0 d) 0 [some (.ref h), some (.int (J s)), some (.int (J l))] m = _
  rw [T_12_0]
  simp (disch := omega) only [kk, lits, q0_J, q1_J, q2_J, cI_J, cT_J, cB_J, cZ_J, cS_J, c1_J, cA_J, J_clamp, u2_at, reduceIte, f1, a1]
  unfold byFront
  split <;> rfl
def toneH (H : Nat → Int → Int) (s dr l n : Int) : Int :=
  if H 0 0 = 1 then byFront H s l else if H 0 0 = 2 then s.tdiv 2 else if H 0 0 = 3 then s - (if 20 < n then 20 else n) else if H 0 0 = 4 then (if l = 0 then H 0 2 else byFront H s l) else if H 0 0 = 5 then s.tdiv 2 + 10 else if H 0 0 = 6 then s - (if 20 < n then 20 else n) + H 1 (dr % 4) else s
theorem tmod4 {x : Int} (h : 0 ≤ x) : x - x.tdiv 4 * 4 = x % 4 := by
  rw [Int.tdiv_eq_ediv_of_nonneg h]
  omega
theorem S_11 (hF : HdF h) (hR : HeadR h H m) (hI : HeadI H) {s dr l n : Int} (hs : -1000000 ≤ s ∧ s ≤ 1000000) (hd : 0 ≤ dr ∧ dr ≤ 7) (h1 : 0 ≤ l ∧ l ≤ 1) (hn : 0 ≤ n ∧ n ≤ 1000000) : cB Q0 (d + 2) 11 [.ref h, .int (J s), .int (J dr), .int (J l), .int (J n)] m = some (some (.int (J (toneH H s dr l n))), m) := by
  have f1 := hF.1.1
  have f2 := hF.1.2.1
  have f5 := hF.2.1
  have a0 := hR.1.1
  have a2 := hR.1.2.2.1
  have r1 := hR.2.1
  have b0 := hI.1.1
  have b1 := hI.1.2.1
  have b2 := hI.1.2.2.1
  have e4 := tmod4 hd.1
  rw [cB_eq]
  show rB Q0 11 (cB Q0 (d + 1)) 0 [some (.ref h), some (.int (J s)), some (.int (J dr)), some (.int (J l)), some (.int (J n))] m = _
  rw [T_11_0]
  unfold toneH
  simp (disch := omega) only [kk, lits, q0_J, q1_J, q2_J, cI_J, cT_J, cB_J, cZ_J, cS_J, c1_J, cA_J, J_clamp, u2_at, reduceIte, f1, f2, f5, a0, a2, S_12 hF hR h1, S_10 hF hR hI h1, S_212, J_div, e4, r1]
  by_cases k1 : H 0 0 = 1
  · simp [k1]
  · by_cases k2 : H 0 0 = 2
    · simp [k2]
    · by_cases k3 : H 0 0 = 3
      · simp [k3]
      · by_cases k4 : H 0 0 = 4
        · by_cases k0 : l = 0
          · simp [k4, k0]
          · simp [k4, k0]
        · by_cases k5 : H 0 0 = 5
          · simp [k5]
          · by_cases k6 : H 0 0 = 6
            · simp [k6]
            · simp [k1, k2, k3, k4, k5, k6]
/-- the shades of all hairs but those out of one drawer -/
def togF (H : Nat → Int → Int) (t : Int → Int) (w c : Int) : Int := if H 2 c = -1 then 0 else if H 2 c = w then 0 else t (H 2 c)
def herF (H : Nat → Int → Int) (w c : Int) : Int := if H 2 c = -1 then 0 else if H 2 c = w then 0 else H 0 2
def tog (H : Nat → Int → Int) (t : Int → Int) (w : Int) : Int := sumF (togF H t w) 0 8
def asOft (H : Nat → Int → Int) (w : Int) : Int := sumF (herF H w) 0 8
def offH (H : Nat → Int → Int) (t : Int → Int) (w : Int) : Int := ab (tog H t w - asOft H w)
def TonR (t : Int → Int) (m : SM) : Prop := ∀ j : Int, 0 ≤ j → j < 8 → m.1 138 j.toNat = J (t j)
theorem L_13 (hF : HdF h) (hR : HeadR h H m) (hI : HeadI H) {t : Int → Int} (hT : TonR t m) {w : Int} (hw : -1 ≤ w ∧ w ≤ 7) : ∀ (n : Nat) (c k : Int), 0 ≤ c → c + n = 8 → rB Q0 13 cf 5 [some (.ref h), some (.ref 138), some (.int (J w)), some (.int (J k)), some (.int (J c))] m = some (some (.int (J (k + sumF (togF H t w) c n))), m) := by
  obtain ⟨⟨f1, f2, f3, f4⟩, f5, f6, f7⟩ := hF
  obtain ⟨-, -, r2, r3⟩ := hR
  intro n
  induction n with
  | zero =>
    intro c k h0 h1
    obtain rfl : c = 8 := by omega
    rw [T_13_5]
    simp (disch := omega) only [kk, lits, q0_J, q1_J, q2_J, cI_J, cT_J, cB_J, cZ_J, cS_J, c1_J, cA_J, J_clamp, u2_at, reduceIte, sumF]
    simp
  | succ n ih =>
    intro c k h0 h1
    have hc : c < 8 := by omega
    have hi := hI.2.2 c h0 hc
    rw [T_13_5]
    by_cases hz : H 2 c = -1
    · simp (disch := omega) only [kk, lits, q0_J, q1_J, q2_J, cI_J, cT_J, cB_J, cZ_J, cS_J, c1_J, cA_J, J_clamp, u2_at, reduceIte, f1, f3, f6, r2]
      rw [if_neg (by omega), if_pos hz, ih _ _ (by omega) (by omega)]
      simp [sumF, togF, hz]
    · by_cases hq : H 2 c = w
      · simp (disch := omega) only [kk, lits, q0_J, q1_J, q2_J, cI_J, cT_J, cB_J, cZ_J, cS_J, c1_J, cA_J, J_clamp, u2_at, reduceIte, f1, f3, f6, r2]
        rw [if_neg (by omega), if_neg hz, if_pos hq, ih _ _ (by omega) (by omega)]
        simp [sumF, togF, hq]
      · have e := hT (H 2 c) (by omega) (by omega)
        simp (disch := omega) only [kk, lits, q0_J, q1_J, q2_J, cI_J, cT_J, cB_J, cZ_J, cS_J, c1_J, cA_J, J_clamp, u2_at, reduceIte, f1, f3, f6, r2, e]
        rw [if_neg (by omega), if_neg hz, if_neg hq, ih _ _ (by omega) (by omega)]
        simp [sumF, togF, hz, hq, Int.add_assoc]
theorem S_13 (hF : HdF h) (hR : HeadR h H m) (hI : HeadI H) {t : Int → Int} (hT : TonR t m) {w : Int} (hw : -1 ≤ w ∧ w ≤ 7) : cB Q0 (d + 1) 13 [.ref h, .ref 138, .int (J w)] m = some (some (.int (J (tog H t w))), m) := by
  rw [cB_eq]
  show rB Q0 13 (cB Q0 d) 0 [some (.ref h), some (.ref 138), some (.int (J w))] m = _
  rw [T_13_0]
  have := L_13 (cf := cB Q0 d) hF hR hI hT hw 8 0 0 (by omega) (by omega)
  rw [Int.zero_add] at this
  exact this
theorem tog_bd (hI : HeadI H) {t : Int → Int} (ht : ∀ j : Int, 0 ≤ j → j < 8 → -100000 ≤ t j ∧ t j ≤ 100000) (w : Int) : -800000 ≤ tog H t w ∧ tog H t w ≤ 800000 := by
  have := sumF_bd (f := togF H t w) (B := 100000) 8 0 fun j h0 h1 => by
    have hi := hI.2.2 j h0 (by omega)
    unfold togF
    split
    · omega
    · split
      · omega
      · exact ht _ (by omega) (by omega)
  unfold tog
  omega
theorem asOft_bd (hI : HeadI H) (w : Int) : 0 ≤ asOft H w ∧ asOft H w ≤ 792 := by
  have := sumF_in (f := herF H w) (B := 99) 8 0 fun j h0 h1 => by
    have hi := hI.1.2.2.1
    unfold herF
    split
    · omega
    · split <;> omega
  unfold asOft
  omega
theorem L_14 (hF : HdF h) (hR : HeadR h H m) (hI : HeadI H) {t : Int → Int} (hT : TonR t m) (ht : ∀ j : Int, 0 ≤ j → j < 8 → -100000 ≤ t j ∧ t j ≤ 100000) {w : Int} (hw : -1 ≤ w ∧ w ≤ 7) : ∀ (n : Nat) (c k : Int), 0 ≤ c → c + n = 8 → -100000 ≤ k + sumF (herF H w) c n → k + sumF (herF H w) c n ≤ 100000 → rB Q0 14 (cB Q0 (d + 1)) 5 [some (.ref h), some (.ref 138), some (.int (J w)), some (.int (J k)), some (.int (J c))] m = some (some (.int (J (ab (tog H t w - (k + sumF (herF H w) c n))))), m) := by
  have hF0 := hF
  have hR0 := hR
  obtain ⟨⟨f1, f2, f3, f4⟩, f5, f6, f7⟩ := hF
  obtain ⟨a, -, r2, r3⟩ := hR
  have a2 := a.2.2.1
  have hb := tog_bd hI ht w
  intro n
  induction n with
  | zero =>
    intro c k h0 h1 h2 h3
    obtain rfl : c = 8 := by omega
    rw [T_14_5]
    unfold sumF at h2 h3
    simp (disch := omega) only [kk, lits, q0_J, q1_J, q2_J, cI_J, cT_J, cB_J, cZ_J, cS_J, c1_J, cA_J, J_clamp, u2_at, reduceIte, sumF, f1, S_13 hF0 hR0 hI hT hw, S_210]
    simp
  | succ n ih =>
    intro c k h0 h1 h2 h3
    have hc : c < 8 := by omega
    have hi := hI.2.2 c h0 hc
    rw [T_14_5]
    have e0 : sumF (herF H w) c (n + 1) = herF H w c + sumF (herF H w) (c + 1) n := rfl
    rw [e0] at h2 h3 ⊢
    by_cases hz : H 2 c = -1
    · have e1 : herF H w c = 0 := by simp [herF, hz]
      rw [e1, Int.zero_add] at h2 h3 ⊢
      simp (disch := omega) only [kk, lits, q0_J, q1_J, q2_J, cI_J, cT_J, cB_J, cZ_J, cS_J, c1_J, cA_J, J_clamp, u2_at, reduceIte, f1, f3, f6, r2]
      rw [if_neg (by omega), if_pos hz, ih _ _ (by omega) (by omega) h2 h3]
    · by_cases hq : H 2 c = w
      · have e1 : herF H w c = 0 := by simp [herF, hq]
        rw [e1, Int.zero_add] at h2 h3 ⊢
        simp (disch := omega) only [kk, lits, q0_J, q1_J, q2_J, cI_J, cT_J, cB_J, cZ_J, cS_J, c1_J, cA_J, J_clamp, u2_at, reduceIte, f1, f3, f6, r2]
        rw [if_neg (by omega), if_neg hz, if_pos hq, ih _ _ (by omega) (by omega) h2 h3]
      · have e1 : herF H w c = H 0 2 := by simp [herF, hz, hq]
        rw [e1] at h2 h3 ⊢
        simp (disch := omega) only [kk, lits, q0_J, q1_J, q2_J, cI_J, cT_J, cB_J, cZ_J, cS_J, c1_J, cA_J, J_clamp, u2_at, reduceIte, f1, f3, f6, r2, a2]
        rw [if_neg (by omega), if_neg hz, if_neg hq, ih _ _ (by omega) (by omega) (by omega) (by omega)]
        simp [Int.add_assoc]
theorem S_14 (hF : HdF h) (hR : HeadR h H m) (hI : HeadI H) {t : Int → Int} (hT : TonR t m) (ht : ∀ j : Int, 0 ≤ j → j < 8 → -100000 ≤ t j ∧ t j ≤ 100000) {w : Int} (hw : -1 ≤ w ∧ w ≤ 7) : cB Q0 (d + 2) 14 [.ref h, .ref 138, .int (J w)] m = some (some (.int (J (offH H t w))), m) := by
  have hb := asOft_bd hI w
  rw [cB_eq]
  show rB Q0 14 (cB Q0 (d + 1)) 0 [some (.ref h), some (.ref 138), some (.int (J w))] m = _
  rw [T_14_0]
  unfold asOft at hb
  have := L_14 (d := d) hF hR hI hT ht hw 8 0 0 (by omega) (by omega) (by omega) (by omega)
  rw [Int.zero_add] at this
  exact this
end
