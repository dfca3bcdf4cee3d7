/-! small methods; what a HEAD's methods do to its cells -/
theorem sumF_congr {f g : Int → Int} : ∀ (n : Nat) (c : Int), (∀ j, c ≤ j → j < c + n → f j = g j) → sumF f c n = sumF g c n
  | 0, _, _ => rfl
  | n + 1, c, h => by
    unfold sumF
    rw [h c (by omega) (by omega), sumF_congr n (c + 1) fun j h1 h2 => h j (by omega) (by omega)]
theorem sumF_bd {f : Int → Int} {B : Int} : ∀ (n : Nat) (c : Int), (∀ j, c ≤ j → j < c + n → -B ≤ f j ∧ f j ≤ B) → -(B * n) ≤ sumF f c n ∧ sumF f c n ≤ B * n
  | 0, _, _ => by simp [sumF]
  | n + 1, c, h => by
    have h1 := h c (by omega) (by omega)
    have h2 := sumF_bd n (c + 1) fun j h1 h2 => h j (by omega) (by omega)
    unfold sumF
    rw [Int.natCast_succ, Int.mul_add, Int.mul_one]
    omega
theorem sumF_in {f : Int → Int} {B : Int} : ∀ (n : Nat) (c : Int), (∀ j, c ≤ j → j < c + n → 0 ≤ f j ∧ f j ≤ B) → 0 ≤ sumF f c n ∧ sumF f c n ≤ B * n
  | 0, _, _ => by simp [sumF]
  | n + 1, c, h => by
    have h1 := h c (by omega) (by omega)
    have h2 := sumF_in n (c + 1) fun j h1 h2 => h j (by omega) (by omega)
    unfold sumF
    rw [Int.natCast_succ, Int.mul_add, Int.mul_one]
    omega
def Fr (K : Nat → Prop) (m m' : SM) : Prop := (∀ k, ¬ K k → m'.1 k = m.1 k) ∧ m'.2 = m.2
theorem Fr.rf {K : Nat → Prop} {m : SM} : Fr K m m := ⟨fun _ _ => rfl, rfl⟩
theorem Fr.tr {K : Nat → Prop} {a b c : SM} (h1 : Fr K a b) (h2 : Fr K b c) : Fr K a c := ⟨fun k hk => (h2.1 k hk).trans (h1.1 k hk), h2.2.trans h1.2⟩
theorem Fr.mono {K L : Nat → Prop} {a b : SM} (h : Fr K a b) (hKL : ∀ k, K k → L k) : Fr L a b := ⟨fun k hk => h.1 k fun z => hk (hKL k z), h.2⟩
theorem Fr.put {K : Nat → Prop} {m : SM} {k : Nat} (hk : K k) (i : Nat) (v : Int32) : Fr K m (up2 m.1 k i v, m.2) := ⟨fun j hj => u2_ne i v fun e => hj (by rw [e]; exact hk), rfl⟩
def ab (x : Int) : Int := if 0 ≤ x then x else -x
section
variable {h : Nat} {H : Nat → Int → Int} {m : SM} {cf : Nat → List Value → SM → Rs SM} {d : Nat}
theorem S_85 {n a b : Int} (h1 : -2147483648 ≤ n) (h2 : n ≤ 2147483647) (h3 : -2147483648 ≤ a) (h4 : a ≤ 2147483647) (h5 : -2147483648 ≤ b) (h6 : b ≤ 2147483647) : cB Q0 (d + 1) 85 [.int (J n), .int (J a), .int (J b)] m = some (some (.int (bi (a ≤ n ∧ n ≤ b))), m) := by
  rw [cB_eq]
  show rB Q0 85 (cB Q0 d) 0 [some (.int (J n)), some (.int (J a)), some (.int (J b))] m = _
  rw [T_85_0]
  simp (disch := omega) only [kk, lits, q0_J, q1_J, q2_J, cI_J, cT_J, cB_J, cZ_J, cS_J, c1_J, cA_J, J_clamp, u2_at]
  unfold bi
  by_cases e1 : n < a
  · rw [if_pos e1, if_neg (by omega)]; rfl
  · by_cases e2 : b < n
    · rw [if_neg e1, if_pos e2, if_neg (by omega)]; rfl
    · rw [if_neg e1, if_neg e2, if_pos (by omega)]; rfl
theorem S_86 (c : Prop) [Decidable c] : cB Q0 (d + 1) 86 [.int (bi c)] m = some (some (.int (bi c)), m) := by
  rw [cB_eq]
  show rB Q0 86 (cB Q0 d) 0 [some (.int (bi c))] m = _
  rw [T_86_0]
  unfold bi
  split <;> rfl
theorem S_87 {n p : Int} (hc : m.1 1 4 = J n) (h0 : 0 ≤ n) (h9 : n ≤ 6) (h1 : -2147483648 ≤ p) (h2 : p ≤ 2147483647) : cB Q0 (d + 2) 87 [.ref 0, .int (J p)] m = some (some (.int (bi (0 ≤ p ∧ p ≤ n - 1))), m) := by
  rw [cB_eq]
  show rB Q0 87 (cB Q0 (d + 1)) 0 [some (.ref 0), some (.int (J p))] m = _
  rw [T_87_0]
  simp (disch := omega) only [kk, lits, q0_J, q1_J, q2_J, cI_J, cT_J, cB_J, cZ_J, cS_J, c1_J, cA_J, J_clamp, u2_at, hc, S_85]
theorem S_88 {p : Int} (h1 : -2147483648 ≤ p) (h2 : p ≤ 2147483647) : cB Q0 (d + 2) 88 [.int (J p)] m = some (some (.int (bi (0 ≤ p ∧ p ≤ 7))), m) := by
  rw [cB_eq]
  show rB Q0 88 (cB Q0 (d + 1)) 0 [some (.int (J p))] m = _
  rw [T_88_0]
  simp (disch := omega) only [kk, lits, q0_J, q1_J, q2_J, cI_J, cT_J, cB_J, cZ_J, cS_J, c1_J, cA_J, J_clamp, u2_at, S_85]
theorem S_89 {p : Int} (h1 : -2147483648 ≤ p) (h2 : p ≤ 2147483647) : cB Q0 (d + 2) 89 [.int (J p)] m = some (some (.int (bi (0 ≤ p ∧ p ≤ 1))), m) := by
  rw [cB_eq]
  show rB Q0 89 (cB Q0 (d + 1)) 0 [some (.int (J p))] m = _
  rw [T_89_0]
  simp (disch := omega) only [kk, lits, q0_J, q1_J, q2_J, cI_J, cT_J, cB_J, cZ_J, cS_J, c1_J, cA_J, J_clamp, u2_at, S_85]
theorem S_90 {p : Int} (h1 : -2147483648 ≤ p) (h2 : p ≤ 2147483647) : cB Q0 (d + 2) 90 [.int (J p)] m = some (some (.int (bi (0 ≤ p ∧ p ≤ 5))), m) := by
  rw [cB_eq]
  show rB Q0 90 (cB Q0 (d + 1)) 0 [some (.int (J p))] m = _
  rw [T_90_0]
  simp (disch := omega) only [kk, lits, q0_J, q1_J, q2_J, cI_J, cT_J, cB_J, cZ_J, cS_J, c1_J, cA_J, J_clamp, u2_at, S_85]
theorem S_210 {x : Int} (h1 : -2147483648 ≤ x) (h2 : x ≤ 2147483647) : cB Q0 (d + 1) 210 [.int (J x)] m = some (some (.int (J (ab x))), m) := by
  rw [cB_eq]
  show rB Q0 210 (cB Q0 d) 0 [some (.int (J x))] m = _
  rw [T_210_0]
  simp (disch := omega) only [kk, lits, q0_J, q1_J, q2_J, cI_J, cT_J, cB_J, cZ_J, cS_J, c1_J, cA_J, J_clamp, u2_at]
  unfold ab
  split <;> rfl
theorem S_211 {x y : Int} (h1 : -2147483648 ≤ x) (h2 : x ≤ 2147483647) (h3 : -2147483648 ≤ y) (h4 : y ≤ 2147483647) : cB Q0 (d + 1) 211 [.int (J x), .int (J y)] m = some (some (.int (J (if x < y then y else x))), m) := by
  rw [cB_eq]
  show rB Q0 211 (cB Q0 d) 0 [some (.int (J x)), some (.int (J y))] m = _
  rw [T_211_0]
  simp (disch := omega) only [kk, lits, q0_J, q1_J, q2_J, cI_J, cT_J, cB_J, cZ_J, cS_J, c1_J, cA_J, J_clamp, u2_at]
  split <;> rfl
theorem S_212 {x y : Int} (h1 : -2147483648 ≤ x) (h2 : x ≤ 2147483647) (h3 : -2147483648 ≤ y) (h4 : y ≤ 2147483647) : cB Q0 (d + 1) 212 [.int (J x), .int (J y)] m = some (some (.int (J (if y < x then y else x))), m) := by
  rw [cB_eq]
  show rB Q0 212 (cB Q0 d) 0 [some (.int (J x)), some (.int (J y))] m = _
  rw [T_212_0]
  simp (disch := omega) only [kk, lits, q0_J, q1_J, q2_J, cI_J, cT_J, cB_J, cZ_J, cS_J, c1_J, cA_J, J_clamp, u2_at]
  split <;> rfl
/-! a HEAD's cells written -/
def upH (H : Nat → Int → Int) (a : Nat) (j : Int) (v : Int) : Nat → Int → Int := fun b i => if b = a ∧ i = j then v else H b i
theorem toNat_ne {a b : Int} (h1 : 0 ≤ a) (h2 : 0 ≤ b) (h : a ≠ b) : a.toNat ≠ b.toNat := by omega
theorem HeadR.p0 (hR : HeadR h H m) {i : Nat} {j : Int} (hj : j = i) (hi : i < 5) (v : Int) : HeadR h (upH H 0 j v) (up2 m.1 h i (J v), m.2) := by
  subst hj
  obtain ⟨⟨a0, a1, a2, a3, a4⟩, r1, r2, r3⟩ := hR
  refine ⟨?_, fun j h1 h2 => ?_, fun j h1 h2 => ?_, fun j h1 h2 => ?_⟩
  · rcases (show i = 0 ∨ i = 1 ∨ i = 2 ∨ i = 3 ∨ i = 4 by omega) with rfl | rfl | rfl | rfl | rfl <;> simp [u2_at, upH, a0, a1, a2, a3, a4]
  · show up2 m.1 h i (J v) (h + 1) j.toNat = _
    rw [u2_ne _ _ (by omega), r1 j h1 h2]; simp [upH]
  · show up2 m.1 h i (J v) (h + 2) j.toNat = _
    rw [u2_ne _ _ (by omega), r2 j h1 h2]; simp [upH]
  · show up2 m.1 h i (J v) (h + 3) j.toNat = _
    rw [u2_ne _ _ (by omega), r3 j h1 h2]; simp [upH]
theorem HeadR.pr (hR : HeadR h H m) {k : Nat} (hk : 0 < k ∧ k ≤ 3) {j : Int} (hj : 0 ≤ j) (v : Int) : HeadR h (upH H k j v) (up2 m.1 (h + k) j.toNat (J v), m.2) := by
  obtain ⟨⟨a0, a1, a2, a3, a4⟩, r1, r2, r3⟩ := hR
  have key : ∀ (q : Nat) (i : Int), 0 < q → 0 ≤ i → m.1 (h + q) i.toNat = J (H q i) → up2 m.1 (h + k) j.toNat (J v) (h + q) i.toNat = J (upH H k j v q i) := by
    intro q i h0 h1 h2
    unfold upH
    by_cases e : q = k
    · subst e
      rw [u2_at]
      by_cases e2 : i = j
      · subst e2
        rw [if_pos rfl, if_pos ⟨rfl, rfl⟩]
      · rw [if_neg (toNat_ne h1 hj e2), if_neg (fun z => e2 z.2), h2]
    · rw [u2_ne _ _ (by omega), if_neg (fun z => e z.1), h2]
  have key0 : ∀ i : Nat, m.1 h i = J (H 0 i) → up2 m.1 (h + k) j.toNat (J v) h i = J (upH H k j v 0 i) := by
    intro i h2
    unfold upH
    rw [u2_ne _ _ (by omega), if_neg (fun z => by omega), h2]
  exact ⟨⟨key0 0 a0, key0 1 a1, key0 2 a2, key0 3 a3, key0 4 a4⟩, fun i h1 h2 => key 1 i (by omega) h1 (r1 i h1 h2), fun i h1 h2 => key 2 i (by omega) h1 (r2 i h1 h2), fun i h1 h2 => key 3 i (by omega) h1 (r3 i h1 h2)⟩
theorem HeadR.fr {m' : SM} {K : Nat → Prop} (hR : HeadR h H m) (hF : Fr K m m') (hK : ∀ k, h ≤ k → k ≤ h + 3 → ¬ K k) : HeadR h H m' := by
  obtain ⟨⟨a0, a1, a2, a3, a4⟩, r1, r2, r3⟩ := hR
  have e0 := hF.1 h (hK h (by omega) (by omega))
  have e1 := hF.1 (h + 1) (hK _ (by omega) (by omega))
  have e2 := hF.1 (h + 2) (hK _ (by omega) (by omega))
  have e3 := hF.1 (h + 3) (hK _ (by omega) (by omega))
  unfold HeadR
  rw [e0, e1, e2, e3]
  exact ⟨⟨a0, a1, a2, a3, a4⟩, r1, r2, r3⟩
theorem HeadR.eq {H' : Nat → Int → Int} (hR : HeadR h H m) (h0 : ∀ j : Int, 0 ≤ j → j < 5 → H 0 j = H' 0 j) (h1 : ∀ j : Int, 0 ≤ j → j < 4 → H 1 j = H' 1 j) (h2 : ∀ j : Int, 0 ≤ j → j < 8 → H 2 j = H' 2 j) (h3 : ∀ j : Int, 0 ≤ j → j < 8 → H 3 j = H' 3 j) : HeadR h H' m := by
  obtain ⟨⟨a0, a1, a2, a3, a4⟩, r1, r2, r3⟩ := hR
  refine ⟨⟨?_, ?_, ?_, ?_, ?_⟩, fun j g1 g2 => by rw [← h1 j g1 g2]; exact r1 j g1 g2, fun j g1 g2 => by rw [← h2 j g1 g2]; exact r2 j g1 g2, fun j g1 g2 => by rw [← h3 j g1 g2]; exact r3 j g1 g2⟩
  · rw [← h0 0 (by omega) (by omega)]; exact a0
  · rw [← h0 1 (by omega) (by omega)]; exact a1
  · rw [← h0 2 (by omega) (by omega)]; exact a2
  · rw [← h0 3 (by omega) (by omega)]; exact a3
  · rw [← h0 4 (by omega) (by omega)]; exact a4
def hK (h : Nat) : Nat → Prop := fun k => h ≤ k ∧ k ≤ h + 3
theorem S_7 (hF : HdF h) {c : Int} (h0 : 0 ≤ c) (h1 : c < 8) : cB Q0 (d + 1) 7 [.ref h, .int (J c)] m = some (none, (up2 (up2 m.1 (h + 2) c.toNat (J (-1))) (h + 3) c.toNat (J 0), m.2)) := by
  obtain ⟨⟨f1, f2, f3, f4⟩, f5, f6, f7⟩ := hF
  rw [cB_eq]
  show rB Q0 7 (cB Q0 d) 0 [some (.ref h), some (.int (J c))] m = _
  rw [T_7_0]
  simp (disch := omega) only [kk, lits, q0_J, q1_J, q2_J, cI_J, cT_J, cB_J, cZ_J, cS_J, c1_J, cA_J, J_clamp, u2_at, f1, f3, f4, f6, f7]
def shearC (H : Nat → Int → Int) (c : Int) : Nat → Int → Int := fun a j => if a = 2 ∧ c ≤ j then -1 else if a = 3 ∧ c ≤ j then 0 else H a j
theorem L_6 (hF : HdF h) : ∀ (n : Nat) (c : Int) (H : Nat → Int → Int) (m : SM), 0 ≤ c → c + n = 8 → HeadR h H m → ∃ m', rB Q0 6 (cB Q0 (d + 1)) 2 [some (.ref h), some (.int (J c))] m = some (none, m') ∧ HeadR h (shearC H c) m' ∧ Fr (hK h) m m' := by
  have f1 := hF.1.1
  intro n
  induction n with
  | zero =>
    intro c H m h0 h1 hR
    obtain rfl : c = 8 := by omega
    refine ⟨m, ?_, hR.eq (fun j _ _ => by simp [shearC]) (fun j _ _ => by simp [shearC]) (fun j _ _ => by unfold shearC; rw [if_neg (by omega), if_neg (by omega)]) (fun j _ _ => by unfold shearC; rw [if_neg (by omega), if_neg (by omega)]), Fr.rf⟩
    rw [T_6_2]
    simp (disch := omega) only [kk, lits, q0_J, q1_J, q2_J, cI_J, cT_J, cB_J, cZ_J, cS_J, c1_J, cA_J, J_clamp, u2_at]
    rw [if_pos (by omega)]
  | succ n ih =>
    intro c H m h0 h1 hR
    have hR1 := (hR.pr (k := 2) (by omega) h0 (-1)).pr (k := 3) (by omega) h0 0
    obtain ⟨m', e1, e2, e3⟩ := ih (c + 1) _ _ (by omega) (by omega) hR1
    refine ⟨m', ?_, e2.eq (fun j _ _ => by simp [shearC, upH]) (fun j _ _ => by simp [shearC, upH]) (fun j g1 g2 => ?_) (fun j g1 g2 => ?_), ?_⟩
    · rw [T_6_2]
      simp (disch := omega) only [kk, lits, q0_J, q1_J, q2_J, cI_J, cT_J, cB_J, cZ_J, cS_J, c1_J, cA_J, J_clamp, u2_at, f1, S_7 hF]
      rw [if_neg (by omega)]
      exact e1
    · unfold shearC upH
      by_cases e : c ≤ j
      · by_cases e4 : c + 1 ≤ j
        · simp [e, e4]
        · have : j = c := by omega
          subst this
          simp [e4]
      · have : ¬ c + 1 ≤ j := by omega
        have e5 : ¬ j = c := by omega
        simp [e, this, e5]
    · unfold shearC upH
      by_cases e : c ≤ j
      · by_cases e4 : c + 1 ≤ j
        · simp [e, e4]
        · have : j = c := by omega
          subst this
          simp [e4]
      · have : ¬ c + 1 ≤ j := by omega
        have e5 : ¬ j = c := by omega
        simp [e, this, e5]
    · refine Fr.tr ?_ e3
      exact (Fr.put (k := h + 2) (by unfold hK; omega) _ _).tr (Fr.put (k := h + 3) (by unfold hK; omega) _ _)
theorem S_6 (hF : HdF h) (hR : HeadR h H m) : ∃ m', cB Q0 (d + 2) 6 [.ref h] m = some (none, m') ∧ HeadR h (shearC H 0) m' ∧ Fr (hK h) m m' := by
  obtain ⟨m', e1, e2, e3⟩ := L_6 (d := d) hF 8 0 H m (by omega) (by omega) hR
  refine ⟨m', ?_, e2, e3⟩
  rw [cB_eq]
  show rB Q0 6 (cB Q0 (d + 1)) 0 [some (.ref h)] m = _
  rw [T_6_0]
  exact e1
end
