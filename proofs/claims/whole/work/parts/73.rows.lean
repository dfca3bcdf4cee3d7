/-! ROWS told by hand: one more -/
def addR (R : Nat → Int → Int) (x y z : Int) : Nat → Int → Int := fun k j => if k = 0 then (if j = 0 then R 0 0 + 1 else R 0 j) else if j = R 0 0 then (if k = 1 then x else if k = 2 then y else z) else R k j
def upRw (A : Shp) (k : Nat) (R : Nat → Int → Int) : Shp := (A.1, A.2.1, fun i => if i = k then R else A.2.2 i)
section
variable {m : SM} {d q : Nat} {R : Nat → Int → Int} {A : Shp} {s : Nat}
theorem S_21n {most x y z : Int} (hF : RowF q) (hR : RowsR q R m) (hm : -2147483648 ≤ most ∧ most ≤ 2147483647) (hn : 0 ≤ R 0 0 ∧ R 0 0 ≤ 10) (h : most ≤ R 0 0) : cB Q0 (d + 1) 21 [.ref q, .int (J most), .int (J x), .int (J y), .int (J z)] m = some (some (.int (J (-4))), m) := by
  obtain ⟨f1, -⟩ := hF
  rw [cB_eq]
  show rB Q0 21 (cB Q0 d) 0 [some (.ref q), some (.int (J most)), some (.int (J x)), some (.int (J y)), some (.int (J z))] m = _
  rw [T_21_0, f1, cO_J, bX_e, hR.1, q2_J (by omega) (by omega) (by omega) (by omega), if_pos h]
  rfl
theorem S_21 {most x y z : Int} (hF : RowF q) (hR : RowsR q R m) (hm : -2147483648 ≤ most ∧ most ≤ 10) (hn : 0 ≤ R 0 0 ∧ R 0 0 ≤ 10) (h : R 0 0 < most) : ∃ m', cB Q0 (d + 1) 21 [.ref q, .int (J most), .int (J x), .int (J y), .int (J z)] m = some (some (.int (J (R 0 0 + 1))), m') ∧ RowsR q (addR R x y z) m' ∧ Fr (hK q) m m' := by
  obtain ⟨f1, ⟨f2, f3, f4⟩, f5, f6, f7⟩ := hF
  obtain ⟨r0, r1⟩ := hR
  have k0 : ∀ a, q + a = q ↔ a = 0 := fun a => by omega
  refine ⟨(up2 (up2 (up2 (up2 m.1 (q + 1) (R 0 0).toNat (J x)) (q + 2) (R 0 0).toNat (J y)) (q + 3) (R 0 0).toNat (J z)) q 0 (J (R 0 0 + 1)), m.2), ?_, ⟨?_, fun k h0 h1 j h2 h3 => ?_⟩, fun k hk => ?_, rfl⟩
  · rw [cB_eq]
    show rB Q0 21 (cB Q0 d) 0 [some (.ref q), some (.int (J most)), some (.int (J x)), some (.int (J y)), some (.int (J z))] m = _
    rw [T_21_0]
    simp (disch := omega) only [kk, lits, q0_J, q1_J, q2_J, cI_J, cT_J, cB_J, cZ_J, cS_J, c1_J, cA_J, J_clamp, u2_at, reduceIte, f1, f2, f3, f4, f5, f6, f7, cO_J, r0, u2_ne]
    rw [if_neg (show ¬ most ≤ R 0 0 by omega), if_pos (show R 0 0 < 10 by omega)]
  · simp (disch := omega) only [u2_at]
    simp [addR]
  · have e0 : addR R x y z 0 0 = R 0 0 + 1 := by simp [addR]
    rw [e0] at h3
    have e1 : addR R x y z k j = if j = R 0 0 then (if k = 1 then x else if k = 2 then y else z) else R k j := by
      unfold addR
      rw [if_neg (by omega)]
    rw [e1]
    rcases (show k = 1 ∨ k = 2 ∨ k = 3 by omega) with rfl | rfl | rfl
    · simp (disch := omega) only [u2_ne, u2_at]
      by_cases c : j = R 0 0
      · rw [if_pos (by omega), if_pos c]; simp
      · rw [if_neg (by omega), if_neg c, r1 1 (by omega) (by omega) j h2 (by omega)]
    · simp (disch := omega) only [u2_ne, u2_at]
      by_cases c : j = R 0 0
      · rw [if_pos (by omega), if_pos c]; simp
      · rw [if_neg (by omega), if_neg c, r1 2 (by omega) (by omega) j h2 (by omega)]
    · simp (disch := omega) only [u2_ne, u2_at]
      by_cases c : j = R 0 0
      · rw [if_pos (by omega), if_pos c]; simp
      · rw [if_neg (by omega), if_neg c, r1 3 (by omega) (by omega) j h2 (by omega)]
  · unfold hK at hk
    simp (disch := omega) only [u2_ne]
theorem ShR.rw {m' : SM} (h : ShR s A m) (hn : A.1 0 0 ≤ 6) {k : Nat} (hk : k < 3) (hF : Fr (hK (s + 5 + 4 * k)) m m') (hR : RowsR (s + 5 + 4 * k) R m') : ShR s (upRw A k R) m' := by
  obtain ⟨⟨a0, a1, a2, a3⟩, b, c, e⟩ := h
  refine ⟨?_, fun k2 h0 h1 j h2 h3 => ?_, fun p h0 h1 => (c p h0 h1).fr hF fun k2 h2 h3 => ?_, fun k2 hk2 => ?_⟩
  · rw [hF.1 s (by unfold hK; omega)]
    exact ⟨a0, a1, a2, a3⟩
  · rw [hF.1 (s + k2) (by unfold hK; omega)]
    exact b k2 h0 h1 j h2 h3
  · unfold hd at h2
    unfold hK
    omega
  · show RowsR (s + 5 + 4 * k2) (if k2 = k then R else A.2.2 k2) m'
    by_cases c : k2 = k
    · rw [if_pos c, c]
      exact hR
    · rw [if_neg c]
      exact (e k2 hk2).fr hF fun k3 h2 h3 => by unfold hK; omega
end
