/-! HEADS of the class: their cells -/
def sumF (f : Int → Int) (c : Int) : Nat → Int
  | 0 => 0
  | n + 1 => f c + sumF f (c + 1) n
def HdF (h : Nat) : Prop := (SHt h = .inl 1 ∧ GRt h 5 = some (h + 1) ∧ GRt h 6 = some (h + 2) ∧ GRt h 7 = some (h + 3)) ∧ SHt (h + 1) = .inr (0, 4) ∧ SHt (h + 2) = .inr (0, 8) ∧ SHt (h + 3) = .inr (0, 8)
def isS (s : Nat) : Prop := s = 1 ∨ s = 42 ∨ s = 83
def hd (s : Nat) (p : Int) : Nat := s + 17 + 4 * p.toNat
theorem hd_F {s : Nat} {p : Int} (hs : isS s) (h0 : 0 ≤ p) (h1 : p < 6) : HdF (hd s p) := by
  rcases (show p = 0 ∨ p = 1 ∨ p = 2 ∨ p = 3 ∨ p = 4 ∨ p = 5 by omega) with rfl | rfl | rfl | rfl | rfl | rfl <;> rcases hs with rfl | rfl | rfl <;> exact ⟨⟨rfl, rfl, rfl, rfl⟩, rfl, rfl, rfl⟩
def HeadR (h : Nat) (H : Nat → Int → Int) (m : SM) : Prop :=
  (m.1 h 0 = J (H 0 0) ∧ m.1 h 1 = J (H 0 1) ∧ m.1 h 2 = J (H 0 2) ∧ m.1 h 3 = J (H 0 3) ∧ m.1 h 4 = J (H 0 4)) ∧ (∀ j : Int, 0 ≤ j → j < 4 → m.1 (h + 1) j.toNat = J (H 1 j)) ∧ (∀ j : Int, 0 ≤ j → j < 8 → m.1 (h + 2) j.toNat = J (H 2 j)) ∧ ∀ j : Int, 0 ≤ j → j < 8 → m.1 (h + 3) j.toNat = J (H 3 j)
def HeadI (H : Nat → Int → Int) : Prop :=
  ((0 ≤ H 0 0 ∧ H 0 0 ≤ 6) ∧ (0 ≤ H 0 1 ∧ H 0 1 ≤ 9) ∧ (0 ≤ H 0 2 ∧ H 0 2 ≤ 99) ∧ (0 ≤ H 0 3 ∧ H 0 3 ≤ 30) ∧ (H 0 4 = 0 ∨ H 0 4 = 1)) ∧ (∀ j : Int, 0 ≤ j → j < 4 → 0 ≤ H 1 j ∧ H 1 j ≤ 9) ∧ ∀ j : Int, 0 ≤ j → j < 8 → (H 2 j = -1 ∧ H 3 j = 0) ∨ ((0 ≤ H 2 j ∧ H 2 j ≤ 7) ∧ 1 ≤ H 3 j ∧ H 3 j ≤ 9)
def hairF (H : Nat → Int → Int) (c : Int) : Int := if H 2 c = -1 then 0 else 1
def hairs (H : Nat → Int → Int) : Int := sumF (hairF H) 0 8
section
variable {h : Nat} {H : Nat → Int → Int} {m : SM} {cf : Nat → List Value → SM → Rs SM}
theorem L_8 (hF : HdF h) (hR : HeadR h H m) (hI : HeadI H) : ∀ (n : Nat) (c k : Int), 0 ≤ c → c + n = 8 → 0 ≤ k → k ≤ c → rB Q0 8 cf 4 [some (.ref h), some (.int (J k)), some (.int (J c))] m = some (some (.int (J (k + sumF (hairF H) c n))), m) := by
  obtain ⟨⟨f1, f2, f3, f4⟩, f5, f6, f7⟩ := hF
  obtain ⟨-, -, r2, r3⟩ := hR
  intro n
  induction n with
  | zero =>
    intro c k h0 h1 h2 h3
    obtain rfl : c = 8 := by omega
    rw [T_8_4]
    simp (disch := omega) only [kk, lits, q2_J, sumF]
    simp
  | succ n ih =>
    intro c k h0 h1 h2 h3
    have hc : c < 8 := by omega
    have hi := hI.2.2 c h0 hc
    rw [T_8_4]
    simp (disch := omega) only [kk, lits, q2_J, q0_J, f1, f3, f6, cO_J, cI_J, J_clamp, r2]
    rw [if_neg (by omega), ih _ _ (by omega) (by omega) (by omega) (by omega), ih _ _ (by omega) (by omega) (by omega) (by omega)]
    by_cases hz : H 2 c = -1
    · rw [if_pos hz]
      simp [sumF, hairF, hz]
    · rw [if_neg hz]
      simp [sumF, hairF, hz, Int.add_assoc]
theorem S_8 (hF : HdF h) (hR : HeadR h H m) (hI : HeadI H) (d : Nat) : cB Q0 (d + 1) 8 [.ref h] m = some (some (.int (J (hairs H))), m) := by
  rw [cB_eq]
  show rB Q0 8 (cB Q0 d) 0 [some (.ref h)] m = _
  rw [T_8_0]
  have := L_8 (cf := cB Q0 d) hF hR hI 8 0 0 (by omega) (by omega) (by omega) (by omega)
  rw [Int.zero_add] at this
  exact this
end
