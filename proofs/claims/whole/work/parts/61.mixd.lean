/-! MIXED, asked of the class -/
def mxK : Nat → Prop := fun k => k = 134 ∨ k = 135 ∨ k = 136
def mixS (st t : Int → Int) (w : Int) (n : Nat) (a : Int × List Nat) (D : List Nat) : Int × List Nat := if hasL D st n 0 = true then stepM t w n a D else a
def mixG (st t : Int → Int) (w : Int) (n : Nat) : Int × List Nat := (seqG n 330 (dgs n 0)).foldl (mixS st t w n) (-5, [])
def mixR (n k : Int) (a : Int × List Nat) : Int := if a.1 < 0 then -5 else if k < 0 then a.1 else if n ≤ k then -5 else (dG a.2 k.toNat : Nat)
def mixA (A : Shp) (c : Cls) (p l n k : Int) : Int := if ¬ (0 ≤ p ∧ p ≤ A.1 0 0 - 1) then -1 else if ¬ (0 ≤ l ∧ l ≤ 1) then -1 else if ¬ (-1 ≤ k ∧ k ≤ 3) then -1 else if ¬ (1 ≤ n ∧ n ≤ 4) then -2 else mixR n k (mixG (A.1 3) (fun dr => toneA A c p dr l) (n * A.2.1 p 0 2) n.toNat)
section
variable {m : SM} {d n : Nat} {D : List Nat} {st t : Int → Int}
theorem much_in (hD : DI n D) (hn : n ≤ 4) (ht : ∀ j : Int, 0 ≤ j → j < 8 → -100000 ≤ t j ∧ t j ≤ 100000) {w : Int} (hw : 0 ≤ w ∧ w ≤ 400) : (-400000 ≤ sumF (fun k => t (dG D k.toNat : Nat)) 0 n ∧ sumF (fun k => t (dG D k.toNat : Nat)) 0 n ≤ 400000) ∧ 0 ≤ muchZ D t w n ∧ muchZ D t w n ≤ 1000000 := by
  have h := sumF_bd (f := fun k => t (dG D k.toNat : Nat)) (B := 100000) n 0 fun j h0 h1 => by
    have := hD j.toNat (by omega)
    exact ht _ (by omega) (by omega)
  have h2 := ab_nn (sumF (fun k => t (dG D k.toNat : Nat)) 0 n - w)
  have h3 := ab_bd (x := sumF (fun k => t (dG D k.toNat : Nat)) 0 n - w) (B := 1000000) (by omega)
  unfold muchZ
  omega
theorem S_18 (hn : n ≤ 4) (hD : DI n D) (hR : RowX n D (m.1 135)) (hT : TonR t m) (ht : ∀ j : Int, 0 ≤ j → j < 8 → -100000 ≤ t j ∧ t j ≤ 100000) {w : Int} (hw : 0 ≤ w ∧ w ≤ 400) {a : Int × List Nat} (hA : AccR n a m) : ∃ m', cB Q0 (d + 2) 18 [.ref 134, .int (J n), .int (J w), .ref 138] m = some (none, m') ∧ AccR n (stepM t w n a D) m' ∧ Fr weK m m' := by
  have L : ∀ (N k : Nat) (c : Int), k + N = n → rB Q0 18 (cB Q0 (d + 1)) 6 [some (.ref 134), some (.int (J n)), some (.int (J w)), some (.ref 138), some (.int (J c)), some (.int (J k))] m = rB Q0 18 (cB Q0 (d + 1)) 6 [some (.ref 134), some (.int (J n)), some (.int (J w)), some (.ref 138), some (.int (J (c + sumF (fun k => t (dG D k.toNat : Nat)) k N))), some (.int (J n))] m := by
    intro N
    induction N with
    | zero =>
      intro k c h1
      rw [show k = n by omega]
      simp [sumF]
    | succ N ih =>
      intro k c h1
      have r1 := hR k (by omega)
      have d1 := hD k (by omega)
      have t1 := hT (dG D k : Nat) (by omega) (by omega)
      rw [Int.toNat_natCast] at t1
      have e := ih (k + 1) (c + t (dG D k : Nat)) (by omega)
      have es : sumF (fun k => t (dG D k.toNat : Nat)) (k : Int) (N + 1) = t (dG D k : Nat) + sumF (fun k => t (dG D k.toNat : Nat)) ((k : Int) + 1) N := rfl
      rw [es, ← Int.add_assoc]
      rw [show ((k + 1 : Nat) : Int) = (k : Int) + 1 by omega] at e
      rw [← e]
      conv => lhs; rw [T_18_6]
      simp (disch := omega) only [kk, lits, q0_J, q1_J, q2_J, cI_J, cT_J, cB_J, cZ_J, cS_J, c1_J, cA_J, J_clamp, u2_at, reduceIte, Int.toNat_natCast, r1, t1]
      rw [if_neg (by omega)]
  obtain ⟨b1, b2⟩ := much_in hD hn ht hw
  have e0 := S_210 (m := m) (d := d) (x := sumF (fun k => t (dG D k.toNat : Nat)) 0 n - w) (by omega) (by omega)
  change cB Q0 (d + 1) 210 _ m = some (some (.int (J (muchZ D t w n))), m) at e0
  have hC : cB Q0 (d + 2) 18 [.ref 134, .int (J n), .int (J w), .ref 138] m = rB Q0 18 (cB Q0 (d + 1)) 6 [some (.ref 134), some (.int (J n)), some (.int (J w)), some (.ref 138), some (.int (J (sumF (fun k => t (dG D k.toNat : Nat)) 0 n))), some (.int (J n))] m := by
    rw [cB_eq]
    show rB Q0 18 (cB Q0 (d + 1)) 0 [some (.ref 134), some (.int (J n)), some (.int (J w)), some (.ref 138)] m = _
    rw [T_18_0]
    have := L n 0 0 (by omega)
    rw [Int.zero_add] at this
    exact this
  have good : ∃ m', (m' : SM) = (upR (up2 (up2 m.1 134 3 (J 1)) 134 2 (J (muchZ D t w n))) 136 (va_cpy (m.1 135) (m.1 136) 0 0 4), m.2) ∧ AccR n (muchZ D t w n, D) m' ∧ Fr weK m m' := by
    refine ⟨_, rfl, Or.inr ⟨b2, ?_, ?_, fun k hk => ?_⟩, fun k hk => ?_, rfl⟩
    · simp (disch := omega) only [uR_ne, u2_at]; simp
    · simp (disch := omega) only [uR_ne, u2_at]; simp
    · simp (disch := omega) only [uR_at, cpy_at, hR k hk]
    · unfold weK at hk
      simp (disch := omega) only [uR_ne, u2_ne]
  obtain ⟨m', hm, g1, g2⟩ := good
  by_cases c : a.1 < 0 ∨ muchZ D t w n < a.1
  · refine ⟨m', ?_, by unfold stepM; rw [if_pos c]; exact g1, g2⟩
    rw [hC, hm, T_18_6]
    rcases hA with ⟨z1, z2⟩ | ⟨z1, z2, z3, z4⟩
    · simp (disch := omega) only [kk, lits, q0_J, q1_J, q2_J, cI_J, cT_J, cB_J, cZ_J, cS_J, c1_J, cA_J, J_clamp, u2_at, reduceIte, e0, z2, nr_J1, okC_J, u2_ne]
      rw [if_pos (by omega)]
      rfl
    · simp (disch := omega) only [kk, lits, q0_J, q1_J, q2_J, cI_J, cT_J, cB_J, cZ_J, cS_J, c1_J, cA_J, J_clamp, u2_at, reduceIte, e0, z2, z3, nr_J1, okC_J, u2_ne]
      rw [if_pos (by omega), if_neg (by omega), if_neg (by omega)]
      rfl
  · refine ⟨m, ?_, by unfold stepM; rw [if_neg c]; exact hA, Fr.rf⟩
    rw [hC, T_18_6]
    rcases hA with ⟨z1, z2⟩ | ⟨z1, z2, z3, z4⟩
    · omega
    · simp (disch := omega) only [kk, lits, q0_J, q1_J, q2_J, cI_J, cT_J, cB_J, cZ_J, cS_J, c1_J, cA_J, J_clamp, u2_at, reduceIte, e0, z2, z3, nr_J1, okC_J, u2_ne]
      rw [if_pos (by omega), if_neg (by omega), if_pos (by omega)]
end
