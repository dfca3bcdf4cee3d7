/-! THE REFERENCE: mixed -/
def AccN (n : Nat) (a : Int × List Nat) (m : SM) : Prop := a.1 = -5 ∨ ((0 ≤ a.1 ∧ a.1 ≤ 1000000) ∧ RowX n a.2 (m.1 200))
def mnK : Nat → Prop := fun k => k = 197 ∨ k = 199 ∨ k = 200 ∨ k = 201
def beK : Nat → Prop := fun k => k = 200
theorem AccN.fr {n : Nat} {a : Int × List Nat} {m m' : SM} (h : AccN n a m) (e : m'.1 200 = m.1 200) : AccN n a m' := by
  unfold AccN
  rw [e]
  exact h
section
variable {m : SM} {d n : Nat} {A : Shp} {sh h : Int} {L : Cla}
theorem L_166c {cf : Nat → List Value → SM → Rs SM} {p n k M b x : Int} : ∀ (N : Nat) (i : Nat) (m : SM), i + N = 4 → ∃ m', rB Q0 166 cf 200 [some (.ref 177), some (.int (J p)), none, some (.int (J n)), some (.int (J k)), some (.int (J M)), some (.int (J b)), some (.int (J x)), none, none, some (.int (J i))] m = rB Q0 166 cf 107 [some (.ref 177), some (.int (J p)), none, some (.int (J n)), some (.int (J k)), some (.int (J M)), some (.int (J b)), some (.int (J (x + 1)))] m' ∧ (∀ j, j < 4 → m'.1 200 j = if i ≤ j then m.1 199 j else m.1 200 j) ∧ FrR beK noI m m' := by
  intro N
  induction N with
  | zero =>
    intro i m h1
    refine ⟨m, ?_, fun j hj => by rw [if_neg (by omega)], FrR.rf⟩
    rw [T_166_200]
    simp (disch := omega) only [kk, lits, q0_J, q1_J, q2_J, cI_J, cT_J, cB_J, cZ_J, cS_J, c1_J, cA_J, J_clamp, u2_at, reduceIte]
    rw [if_pos (show (4 : Int) ≤ (i : Int) by omega)]
  | succ N ih =>
    intro i m h1
    have hF : FrR beK noI m (up2 m.1 200 i (m.1 199 i), m.2) := FrR.put (K := beK) (KI := noI) (k := 200) rfl (by omega) _ _
    obtain ⟨m', q1, q2, q3⟩ := ih (i + 1) (up2 m.1 200 i (m.1 199 i), m.2) (by omega)
    refine ⟨m', ?_, fun j hj => ?_, hF.tr q3⟩
    · rw [T_166_200]
      simp (disch := omega) only [kk, lits, q0_J, q1_J, q2_J, cI_J, cT_J, cB_J, cZ_J, cS_J, c1_J, cA_J, J_clamp, u2_at, reduceIte, Int.toNat_natCast]
      rw [if_neg (show ¬ (4 : Int) ≤ (i : Int) by omega)]
      exact q1
    · rw [q2 j hj]
      show (if i + 1 ≤ j then up2 m.1 200 i (m.1 199 i) 199 j else up2 m.1 200 i (m.1 199 i) 200 j) = _
      rw [u2_at, u2_ne _ _ (by omega)]
      by_cases c : i + 1 ≤ j
      · rw [if_pos c, if_pos (by omega)]
      · rw [if_neg c]
        by_cases c2 : j = i
        · rw [if_pos c2, if_pos (by omega), c2]
        · rw [if_neg c2, if_neg (by omega)]
theorem L_166 (hn : 1 ≤ n) (hn4 : n ≤ 4) {st t : Int → Int} {p k u w : Int} (hp : 0 ≤ p ∧ p < 6) (hk : -1 ≤ k ∧ k ≤ 3) (hu : 0 ≤ u ∧ u ≤ 99) (hwu : w = n * u) (ht : ∀ j : Int, 0 ≤ j → j < 8 → -100000 ≤ t j ∧ t j ≤ 100000) (hsb : ∀ j : Int, 0 ≤ j → j < 8 → 0 ≤ st j ∧ st j ≤ 99) : ∀ (N x : Nat) (a : Int × List Nat) (m : SM), x + N = 8 ^ n → (∀ j : Int, 0 ≤ j → j < 8 → m.1 180 j.toNat = J (st j)) → (∀ j : Int, 0 ≤ j → j < 8 → m.1 201 j.toNat = J (t j)) → m.1 183 p.toNat = J u → AccN n a m → ∃ m', rB Q0 166 (cB Q0 (d + 1)) 107 [some (.ref 177), some (.int (J p)), none, some (.int (J n)), some (.int (J k)), some (.int (J ((8 ^ n : Nat) : Int))), some (.int (J a.1)), some (.int (J x))] m = some (some (.int (J (mixR n k (((List.range' x N).map (dgs n)).foldl (layS st t w n) a)))), m') ∧ FrR mnK noI m m' := by
  have h8 : 8 ^ n ≤ 4096 := Nat.le_trans (Nat.pow_le_pow_right (by omega) hn4) (by decide)
  have hw : 0 ≤ w ∧ w ≤ 400 := by
    subst hwu
    rcases (show n = 1 ∨ n = 2 ∨ n = 3 ∨ n = 4 by omega) with rfl | rfl | rfl | rfl <;> omega
  intro N
  induction N with
  | zero =>
    intro x a m h1 hs hT hh hA
    refine ⟨m, ?_, FrR.rf⟩
    rw [T_166_107]
    have hx : (((8 ^ n : Nat) : Int)) ≤ (x : Int) := by omega
    have hx2 : (x : Int) ≤ 4096 := by omega
    have hx3 : (((8 ^ n : Nat) : Int)) ≤ 4096 := by omega
    have hx4 : 0 ≤ (((8 ^ n : Nat) : Int)) := by omega
    generalize ((8 ^ n : Nat) : Int) = M at hx hx3 hx4 ⊢
    show _ = some (some (Value.int (J (mixR n k a))), m)
    rcases hA with z1 | ⟨z1, z2⟩
    · rw [show mixR n k a = -5 by unfold mixR; rw [if_pos (by omega)], z1]
      simp (disch := omega) only [kk, lits, q0_J, q1_J, q2_J, cI_J, cT_J, cB_J, cZ_J, cS_J, c1_J, cA_J, J_clamp, u2_at, reduceIte]
      rw [if_pos hx, if_neg (show ¬ (0 : Int) ≤ -5 by omega)]
      split <;> rfl
    · by_cases y1 : k < 0
      · rw [show mixR n k a = a.1 by unfold mixR; rw [if_neg (show ¬ a.1 < 0 by omega), if_pos y1]]
        simp (disch := omega) only [kk, lits, q0_J, q1_J, q2_J, cI_J, cT_J, cB_J, cZ_J, cS_J, c1_J, cA_J, J_clamp, u2_at, reduceIte]
        rw [if_pos hx, if_pos y1]
      · by_cases y2 : (n : Int) ≤ k
        · rw [show mixR n k a = -5 by unfold mixR; rw [if_neg (show ¬ a.1 < 0 by omega), if_neg y1, if_pos y2]]
          simp (disch := omega) only [kk, lits, q0_J, q1_J, q2_J, cI_J, cT_J, cB_J, cZ_J, cS_J, c1_J, cA_J, J_clamp, u2_at, reduceIte]
          rw [if_pos hx, if_neg y1, if_pos z1.1, if_pos y2]
        · rw [show mixR n k a = (dG a.2 k.toNat : Nat) by unfold mixR; rw [if_neg (show ¬ a.1 < 0 by omega), if_neg y1, if_neg y2]]
          have z5 := z2 k.toNat (by omega)
          simp (disch := omega) only [kk, lits, q0_J, q1_J, q2_J, cI_J, cT_J, cB_J, cZ_J, cS_J, c1_J, cA_J, J_clamp, u2_at, reduceIte]
          rw [if_pos hx, if_neg y1, if_pos z1.1, if_neg y2]
          simp (disch := omega) only [kk, lits, q0_J, q1_J, q2_J, cI_J, cT_J, cB_J, cZ_J, cS_J, c1_J, cA_J, J_clamp, u2_at, reduceIte, z5]
  | succ N ih =>
    intro x a m h1 hs hT hh hA
    have hD := dgs_DI n x
    obtain ⟨m1, e1, e2, e3⟩ := S_165 (d := d) (m := m) hn4 (show x < 4096 by omega) hs hsb
    have s1 : ∀ j : Int, 0 ≤ j → j < 8 → m1.1 180 j.toNat = J (st j) := fun j g0 g1 => by rw [e3.1 180 (by unfold lnK; omega) (by omega)]; exact hs j g0 g1
    have t1 : ∀ j : Int, 0 ≤ j → j < 8 → m1.1 201 j.toNat = J (t j) := fun j g0 g1 => by rw [e3.1 201 (by unfold lnK; omega) (by omega)]; exact hT j g0 g1
    have u1 : m1.1 183 p.toNat = J u := by rw [e3.1 183 (by unfold lnK; omega) (by omega)]; exact hh
    have a1 : AccN n a m1 := hA.fr (e3.1 200 (by unfold lnK; omega) (by omega))
    have hF1 : FrR mnK noI m m1 := e3.mono (fun k hk => Or.inr (Or.inl hk)) (fun _ z => z)
    rw [List.range'_succ, List.map_cons, List.foldl_cons]
    have hx : ¬ ((8 ^ n : Nat) : Int) ≤ (x : Int) := by omega
    have hx2 : (x : Int) ≤ 4096 := by omega
    have hx3 : (((8 ^ n : Nat) : Int)) ≤ 4096 := by omega
    have hx4 : 0 ≤ (((8 ^ n : Nat) : Int)) := by omega
    have ex : ((x + 1 : Nat) : Int) = (x : Int) + 1 := by omega
    have IH := fun a m => ih (x + 1) a m (by omega)
    rw [ex] at IH
    generalize ((8 ^ n : Nat) : Int) = M at hx hx3 hx4 IH ⊢
    by_cases c : layL n (dgs n x) st n 0 = true
    · obtain ⟨b1, b2⟩ := much_in hD hn4 ht hw
      have S : ∀ (N j : Nat) (c : Int), j + N = n → rB Q0 166 (cB Q0 (d + 1)) 133 [some (.ref 177), some (.int (J p)), none, some (.int (J n)), some (.int (J k)), some (.int (J M)), some (.int (J a.1)), some (.int (J x)), some (.int (J c)), some (.int (J j))] m1 = rB Q0 166 (cB Q0 (d + 1)) 133 [some (.ref 177), some (.int (J p)), none, some (.int (J n)), some (.int (J k)), some (.int (J M)), some (.int (J a.1)), some (.int (J x)), some (.int (J (c + sumF (fun k => t (dG (dgs n x) k.toNat : Nat)) j N))), some (.int (J n))] m1 := by
        intro N
        induction N with
        | zero =>
          intro j c h1
          rw [show j = n by omega]
          simp [sumF]
        | succ N ih =>
          intro j c h1
          have r1 := e2 j (by omega)
          have d1 := hD j (by omega)
          have t2 := t1 (dG (dgs n x) j : Nat) (by omega) (by omega)
          rw [Int.toNat_natCast] at t2
          have e := ih (j + 1) (c + t (dG (dgs n x) j : Nat)) (by omega)
          have es : sumF (fun k => t (dG (dgs n x) k.toNat : Nat)) (j : Int) (N + 1) = t (dG (dgs n x) j : Nat) + sumF (fun k => t (dG (dgs n x) k.toNat : Nat)) ((j : Int) + 1) N := rfl
          rw [es, ← Int.add_assoc]
          rw [show ((j + 1 : Nat) : Int) = (j : Int) + 1 by omega] at e
          rw [← e]
          conv => lhs; rw [T_166_133]
          simp (disch := omega) only [kk, lits, q0_J, q1_J, q2_J, cI_J, cT_J, cB_J, cZ_J, cS_J, c1_J, cA_J, J_clamp, u2_at, reduceIte, Int.toNat_natCast, r1, t2]
          rw [if_neg (show ¬ (n : Int) ≤ (j : Int) by omega)]
      have e6 := S n 0 0 (by omega)
      rw [Int.zero_add, show ((0 : Nat) : Int) = 0 from rfl] at e6
      have e7 := S_112 (m := m1) (d := d) (x := sumF (fun k => t (dG (dgs n x) k.toNat : Nat)) 0 n) (y := w) (by omega) (by omega) (by omega) (by omega)
      change cB Q0 (d + 1) 112 _ m1 = some (some (.int (J (muchZ (dgs n x) t w n))), m1) at e7
      have hst : ∀ a2, layS st t w n a (dgs n x) = a2 ↔ stepM t w n a (dgs n x) = a2 := fun a2 => by
        unfold layS
        rw [if_pos c]
      by_cases c5 : a.1 < 0 ∨ muchZ (dgs n x) t w n < a.1
      · have e8 : layS st t w n a (dgs n x) = (muchZ (dgs n x) t w n, dgs n x) := by
          rw [hst]
          unfold stepM
          rw [if_pos c5]
        obtain ⟨m2, k1, k2, k3⟩ := L_166c (cf := cB Q0 (d + 1)) (p := p) (n := n) (k := k) (M := M) (b := muchZ (dgs n x) t w n) (x := x) 4 0 m1 (by omega)
        obtain ⟨m3, k4, k5⟩ := IH (muchZ (dgs n x) t w n, dgs n x) m2 (fun j g0 g1 => by rw [k3.1 180 (by unfold beK; omega) (by omega)]; exact s1 j g0 g1) (fun j g0 g1 => by rw [k3.1 201 (by unfold beK; omega) (by omega)]; exact t1 j g0 g1) (by rw [k3.1 183 (by unfold beK; omega) (by omega)]; exact u1) (Or.inr ⟨b2, fun j hj => by rw [k2 j (by omega), if_pos (by omega)]; exact e2 j hj⟩)
        refine ⟨m3, ?_, (hF1.tr (k3.mono (fun k hk => Or.inr (Or.inr (Or.inl hk))) (fun _ z => z))).tr k5⟩
        rw [T_166_107, e8]
        simp only [lits]
        simp (disch := omega) only [kk, lits, q0_J, q1_J, q2_J, cI_J, cT_J, cB_J, cZ_J, cS_J, c1_J, cA_J, J_clamp, u2_at, reduceIte, e1, bi, if_pos c]
        rw [if_neg hx, if_neg (show ¬ (1 : Int) = 0 by omega)]
        refine Eq.trans e6 ?_
        rw [T_166_133]
        simp (disch := omega) only [kk, lits, q0_J, q1_J, q2_J, cI_J, cT_J, cB_J, cZ_J, cS_J, c1_J, cA_J, J_clamp, u2_at, reduceIte, u1, ← hwu, e7]
        rw [if_pos (Int.le_refl _)]
        rcases hA with z1 | ⟨z1, z2⟩
        · rw [z1]
          simp (disch := omega) only [kk, lits, q0_J, q1_J, q2_J, cI_J, cT_J, cB_J, cZ_J, cS_J, c1_J, cA_J, J_clamp, u2_at, reduceIte]
          rw [if_pos (show (-5 : Int) < 0 by omega)]
          exact k1.trans k4
        · simp (disch := omega) only [kk, lits, q0_J, q1_J, q2_J, cI_J, cT_J, cB_J, cZ_J, cS_J, c1_J, cA_J, J_clamp, u2_at, reduceIte]
          rw [if_neg (show ¬ a.1 < 0 by omega), if_pos (show muchZ (dgs n x) t w n < a.1 by omega)]
          exact k1.trans k4
      · have e8 : layS st t w n a (dgs n x) = a := by
          rw [hst]
          unfold stepM
          rw [if_neg c5]
        obtain ⟨m3, k4, k5⟩ := IH a m1 s1 t1 u1 a1
        refine ⟨m3, ?_, hF1.tr k5⟩
        rw [T_166_107, e8]
        simp only [lits]
        simp (disch := omega) only [kk, lits, q0_J, q1_J, q2_J, cI_J, cT_J, cB_J, cZ_J, cS_J, c1_J, cA_J, J_clamp, u2_at, reduceIte, e1, bi, if_pos c]
        rw [if_neg hx, if_neg (show ¬ (1 : Int) = 0 by omega)]
        refine Eq.trans e6 ?_
        rw [T_166_133]
        simp (disch := omega) only [kk, lits, q0_J, q1_J, q2_J, cI_J, cT_J, cB_J, cZ_J, cS_J, c1_J, cA_J, J_clamp, u2_at, reduceIte, u1, ← hwu, e7]
        rw [if_pos (Int.le_refl _)]
        rcases hA with z1 | ⟨z1, z2⟩
        · omega
        · rw [if_neg (show ¬ a.1 < 0 by omega), if_neg (show ¬ muchZ (dgs n x) t w n < a.1 by omega)]
          exact k4
    · have e8 : layS st t w n a (dgs n x) = a := by
        unfold layS
        rw [if_neg c]
      obtain ⟨m3, k4, k5⟩ := IH a m1 s1 t1 u1 a1
      refine ⟨m3, ?_, hF1.tr k5⟩
      rw [T_166_107, e8]
      simp only [lits]
      simp (disch := omega) only [kk, lits, q0_J, q1_J, q2_J, cI_J, cT_J, cB_J, cZ_J, cS_J, c1_J, cA_J, J_clamp, u2_at, reduceIte, e1, bi, if_neg c]
      rw [if_neg hx]
      exact k4
end
