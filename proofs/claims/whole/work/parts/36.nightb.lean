/-! nights, the stage, copies of rows and shops (class) -/
def byN (rain night : Int) : Int := if rain ≤ 0 then 1 else if night % rain = 0 then 2 else 1
theorem byN_in (rain night : Int) : 1 ≤ byN rain night ∧ byN rain night ≤ 2 := by
  unfold byN
  split
  · omega
  · split <;> omega
def nightSh (A : Shp) (rain most : Int) : Shp := nightC A (byN rain (A.1 0 1)) most (A.1 0 0).toNat 0
def nightsSh (rain most : Int) : Nat → Shp → Shp
  | 0, A => A
  | n + 1, A => nightsSh rain most n (nightSh A rain most)
theorem nightSh_c (A : Shp) (rain most : Int) : (∀ k j, ¬ (k = 0 ∧ (j = 1 ∨ j = 2)) → (nightSh A rain most).1 k j = A.1 k j) ∧ (nightSh A rain most).1 0 1 = A.1 0 1 + 1 ∧ (nightSh A rain most).1 0 2 = fallC A (byN rain (A.1 0 1)) most (A.1 0 0).toNat 0 (A.1 0 2) ∧ (nightSh A rain most).2.2 = A.2.2 := by
  refine ⟨fun k j h => ?_, ?_, ?_, rfl⟩
  · show upH (upH A.1 0 2 _) 0 1 _ k j = _
    unfold upH
    rw [if_neg (by omega), if_neg (by omega)]
  · unfold nightSh nightC
    simp [upH]
  · unfold nightSh nightC
    simp [upH]
theorem nightSh_I {A : Shp} (hI : ShI A) {rain most : Int} (hm : A.1 0 2 ≤ most) (h1 : A.1 0 1 + 1 ≤ 20000) (h2 : A.1 0 2 + 48 ≤ 1000000) : ShI (nightSh A rain most) := by
  obtain ⟨c1, c2, c3, c4⟩ := nightSh_c A rain most
  obtain ⟨⟨i0, i1, i2, i3⟩, b, c, e0, e1, e2⟩ := hI
  have hc : (nightSh A rain most).1 0 0 = A.1 0 0 := c1 0 0 (by omega)
  have hf := fallC_in (A := A) (b := byN rain (A.1 0 1)) (most := most) (A.1 0 0).toNat 0 (A.1 0 2) (by omega) hm
  refine ⟨⟨by rw [hc]; exact i0, by rw [c2]; omega, by rw [c3]; omega, by rw [c1 0 3 (by omega)]; exact i3⟩, fun k h0 h1 j h2 h3 => by rw [c1 k j (by omega)]; exact b k h0 h1 j h2 h3, fun p g0 g1 => ?_, by rw [c4, hc]; exact e0, by rw [c4, hc]; exact e1, by rw [c4]; exact e2⟩
  rw [hc] at g1
  show HeadI (if 0 ≤ p ∧ A.2.1 p 0 4 = 0 then looH (A.2.1 p) _ else A.2.1 p)
  split
  · exact looH_I (c p g0 g1) (byN_in _ _)
  · exact c p g0 g1
theorem tmod_0 {x y : Int} (h : 0 ≤ x) (hy : 0 < y) : (x - x.tdiv y * y = 0) = (x % y = 0) := by
  rw [Int.tdiv_eq_ediv_of_nonneg h, Int.mul_comm, ← Int.emod_def]
section
variable {s : Nat} {A : Shp} {m : SM} {d : Nat}
theorem S_26 (hs : isS s) (hR : ShR s A m) (hI : ShI A) {rain most : Int} (hr : 0 ≤ rain ∧ rain ≤ 99) (hm : 9999 ≤ most ∧ most ≤ 2147483647) : ∃ m', cB Q0 (d + 3) 26 [.ref s, .int (J rain), .int (J most)] m = some (none, m') ∧ ShR s (nightSh A rain most) m' ∧ Fr (sK s) m m' := by
  obtain ⟨⟨f1, -⟩, -⟩ := shF hs
  have a1 := hR.1.2.1
  have i0 := hI.1.1
  have i1 := hI.1.2.1
  have i2 := hI.1.2.2.1
  obtain ⟨m', e1, e2, e3⟩ := L_26 (d := d) hs (byN_in rain (A.1 0 1)) hm (A.1 0 0).toNat 0 A m (by omega) (by omega) i0.2 (by omega) (fun p h0 h1 => hI.2.2.1 p h0 h1) hR
  refine ⟨m', ?_, e2, e3⟩
  rw [cB_eq]
  show rB Q0 26 (cB Q0 (d + 2)) 0 [some (.ref s), some (.int (J rain)), some (.int (J most))] m = _
  rw [T_26_0]
  unfold byN at e1
  by_cases h : rain ≤ 0
  · rw [if_pos h] at e1
    simp (disch := omega) only [kk, lits, q0_J, q1_J, q2_J, cI_J, cT_J, cB_J, cZ_J, cS_J, c1_J, cA_J, J_clamp, u2_at, reduceIte]
    rw [if_pos h]
    exact e1
  · rw [if_neg h] at e1
    have hd := Int.tdiv_eq_ediv_of_nonneg i1.1 (b := rain)
    have hle : 0 ≤ A.1 0 1 % rain ∧ A.1 0 1 % rain < rain := ⟨Int.emod_nonneg _ (by omega), Int.emod_lt_of_pos _ (by omega)⟩
    have he : A.1 0 1 - (A.1 0 1).tdiv rain * rain = A.1 0 1 % rain := by rw [hd, Int.mul_comm, ← Int.emod_def]
    simp (disch := omega) only [kk, lits, q0_J, q1_J, q2_J, cI_J, cT_J, cB_J, cZ_J, cS_J, c1_J, cA_J, J_clamp, u2_at, reduceIte, f1, a1, J_div, he]
    rw [if_neg h, if_neg (by omega)]
    by_cases hz : A.1 0 1 % rain = 0
    · rw [if_pos hz] at e1 ⊢
      exact e1
    · rw [if_neg hz] at e1 ⊢
      exact e1
theorem nightsSh_I : ∀ (n : Nat) {A : Shp} (_ : ShI A) {rain most : Int} (_ : A.1 0 2 ≤ most) (_ : A.1 0 1 + n ≤ 20000) (_ : A.1 0 2 + 48 * n ≤ 1000000), ShI (nightsSh rain most n A)
  | 0, _, hI, _, _, _, _, _ => hI
  | n + 1, A, hI, rain, most, hm, h1, h2 => by
    obtain ⟨c1, c2, c3, c4⟩ := nightSh_c A rain most
    have i2 := hI.1.2.2.1
    have i0 := hI.1.1
    have hf := fallC_in (A := A) (b := byN rain (A.1 0 1)) (most := most) (A.1 0 0).toNat 0 (A.1 0 2) (by omega) hm
    exact nightsSh_I n (nightSh_I hI hm (by omega) (by omega)) (by rw [c3]; exact hf.2.1) (by rw [c2]; omega) (by rw [c3]; omega)
def thS (h n : Int) : Nat := if 0 ≤ h ∧ h ≤ n - 1 then 141 + 4 * h.toNat else 125
theorem th_g {h : Int} (h0 : 0 ≤ h) (h1 : h < 6) : GRt 124 h.toNat = some (141 + 4 * h.toNat) := by
  rcases (show h = 0 ∨ h = 1 ∨ h = 2 ∨ h = 3 ∨ h = 4 ∨ h = 5 by omega) with rfl | rfl | rfl | rfl | rfl | rfl <;> rfl
def ThF (q : Nat) : Prop := SHt q = .inl 7 ∧ (GRt q 3 = some (q + 1) ∧ GRt q 4 = some (q + 2) ∧ GRt q 5 = some (q + 3)) ∧ SHt (q + 1) = .inr (0, 10) ∧ SHt (q + 2) = .inr (0, 10) ∧ SHt (q + 3) = .inr (0, 100)
theorem thS_F (h n : Int) (h6 : n ≤ 6) : ThF (thS h n) := by
  unfold thS
  split
  · rcases (show h = 0 ∨ h = 1 ∨ h = 2 ∨ h = 3 ∨ h = 4 ∨ h = 5 by omega) with rfl | rfl | rfl | rfl | rfl | rfl <;> exact ⟨rfl, ⟨rfl, rfl, rfl⟩, rfl, rfl, rfl⟩
  · exact ⟨rfl, ⟨rfl, rfl, rfl⟩, rfl, rfl, rfl⟩
theorem S_92 (hs : isS s) {h n : Int} (h1 : m.1 s 7 = J h) (h2 : m.1 0 6 = J n) (hh : -1 ≤ h ∧ h ≤ 5) (hn : 0 ≤ n ∧ n ≤ 6) : cB Q0 (d + 2) 92 [.ref 0, .ref s] m = some (some (.ref (thS h n)), m) := by
  obtain ⟨⟨f1, -⟩, -⟩ := shF hs
  rw [cB_eq]
  show rB Q0 92 (cB Q0 (d + 1)) 0 [some (.ref 0), some (.ref s)] m = _
  rw [T_92_0]
  unfold thS
  by_cases e : 0 ≤ h ∧ h ≤ n - 1
  · simp (disch := omega) only [kk, lits, q0_J, q1_J, q2_J, cI_J, cT_J, cB_J, cZ_J, cS_J, c1_J, cA_J, J_clamp, u2_at, reduceIte, f1, h1, h2, S_85, th_g]
    rw [if_pos e, if_pos e]
  · simp (disch := omega) only [kk, lits, q0_J, q1_J, q2_J, cI_J, cT_J, cB_J, cZ_J, cS_J, c1_J, cA_J, J_clamp, u2_at, reduceIte, f1, h1, h2, S_85]
    rw [if_neg e, if_neg e]
theorem L_97 (hs : isS s) {rain most : Int} (hr : 0 ≤ rain ∧ rain ≤ 99) (hm : 9999 ≤ most ∧ most ≤ 2147483647) {N : Int} (hN : N ≤ 100) : ∀ (n : Nat) (c : Int) (A : Shp) (m : SM), 0 ≤ c → c + n = N → ShI A → A.1 0 2 ≤ most → A.1 0 1 + n ≤ 20000 → A.1 0 2 + 48 * n ≤ 1000000 → ShR s A m → ∃ m', rB Q0 97 (cB Q0 (d + 3)) 13 [none, some (.ref s), some (.int (J N)), some (.int (J most)), some (.int (J rain)), some (.int (J c))] m = some (none, m') ∧ ShR s (nightsSh rain most n A) m' ∧ Fr (sK s) m m' := by
  obtain ⟨⟨f1, -⟩, -⟩ := shF hs
  intro n
  induction n with
  | zero =>
    intro c A m h0 h1 hI h2 h3 h4 hR
    refine ⟨m, ?_, hR, Fr.rf⟩
    rw [T_97_13]
    simp (disch := omega) only [kk, lits, q0_J, q1_J, q2_J, cI_J, cT_J, cB_J, cZ_J, cS_J, c1_J, cA_J, J_clamp, u2_at, reduceIte]
    rw [if_pos (by omega)]
  | succ n ih =>
    intro c A m h0 h1 hI h2 h3 h4 hR
    obtain ⟨c1, c2, c3, c4⟩ := nightSh_c A rain most
    have i2 := hI.1.2.2.1
    have i0 := hI.1.1
    have hf := fallC_in (A := A) (b := byN rain (A.1 0 1)) (most := most) (A.1 0 0).toNat 0 (A.1 0 2) (by omega) h2
    obtain ⟨m1, e1, e2, e3⟩ := S_26 (d := d) hs hR hI hr hm
    obtain ⟨m', e4, e5, e6⟩ := ih (c + 1) (nightSh A rain most) m1 (by omega) (by omega) (nightSh_I hI h2 (by omega) (by omega)) (by rw [c3]; exact hf.2.1) (by rw [c2]; omega) (by rw [c3]; omega) e2
    refine ⟨m', ?_, e5, e3.tr e6⟩
    rw [T_97_13]
    simp (disch := omega) only [kk, lits, q0_J, q1_J, q2_J, cI_J, cT_J, cB_J, cZ_J, cS_J, c1_J, cA_J, J_clamp, u2_at, reduceIte, f1, e1]
    rw [if_neg (by omega)]
    exact e4
theorem S_97 (hs : isS s) (hR : ShR s A m) (hI : ShI A) {h n rain most : Int} (h1 : m.1 s 7 = J h) (h2 : m.1 0 6 = J n) (hh : -1 ≤ h ∧ h ≤ 5) (hn : 0 ≤ n ∧ n ≤ 6) (h3 : m.1 (thS h n) 0 = J rain) (hr : 0 ≤ rain ∧ rain ≤ 99) (hm : 9999 ≤ most ∧ most ≤ 2147483647) (N : Nat) (hN : N ≤ 100) (g2 : A.1 0 2 ≤ most) (g3 : A.1 0 1 + N ≤ 20000) (g4 : A.1 0 2 + 48 * N ≤ 1000000) : ∃ m', cB Q0 (d + 4) 97 [.ref 0, .ref s, .int (J N), .int (J most)] m = some (none, m') ∧ ShR s (nightsSh rain most N A) m' ∧ Fr (sK s) m m' := by
  obtain ⟨m', e1, e2, e3⟩ := L_97 (d := d) (N := N) hs hr hm (by omega) N 0 A m (by omega) (by omega) hI g2 g3 g4 hR
  refine ⟨m', ?_, e2, e3⟩
  rw [cB_eq]
  show rB Q0 97 (cB Q0 (d + 3)) 0 [some (.ref 0), some (.ref s), some (.int (J N)), some (.int (J most))] m = _
  rw [T_97_0]
  simp (disch := omega) only [kk, lits, q0_J, q1_J, q2_J, cI_J, cT_J, cB_J, cZ_J, cS_J, c1_J, cA_J, J_clamp, u2_at, reduceIte, S_92 hs h1 h2 hh hn, (thS_F h n hn.2).1, h3]
  exact e1
/-! rows copied -/
theorem S_22 {q r : Nat} {R : Nat → Int → Int} (hF : RowF q) (hG : RowF r) (hne : q + 3 < r ∨ r + 3 < q) (hR : RowsR r R m) (hn : R 0 0 ≤ 10) : ∃ m', cB Q0 (d + 1) 22 [.ref q, .ref r] m = some (none, m') ∧ RowsR q R m' ∧ Fr (hK q) m m' := by
  obtain ⟨f1, ⟨f2, f3, f4⟩, f5, f6, f7⟩ := hF
  obtain ⟨g1, ⟨g2, g3, g4⟩, g5, g6, g7⟩ := hG
  obtain ⟨a0, b⟩ := hR
  refine ⟨(upR (upR (upR (up2 m.1 q 0 (J (R 0 0))) (q + 1) (va_cpy (m.1 (r + 1)) (m.1 (q + 1)) 0 0 10)) (q + 2) (va_cpy (m.1 (r + 2)) (m.1 (q + 2)) 0 0 10)) (q + 3) (va_cpy (m.1 (r + 3)) (m.1 (q + 3)) 0 0 10), m.2), ?_, ⟨?_, fun k h0 h1 j h2 h3 => ?_⟩, ?_⟩
  · rw [cB_eq]
    show rB Q0 22 (cB Q0 d) 0 [some (.ref q), some (.ref r)] m = _
    rw [T_22_0]
    simp (disch := omega) only [kk, lits, q0_J, q1_J, q2_J, cI_J, cT_J, cB_J, cZ_J, cS_J, c1_J, cA_J, J_clamp, u2_at, reduceIte, f1, f2, f3, f4, f5, f6, f7, g1, g2, g3, g4, g5, g6, g7, u2_ne, uR_ne, a0, okC_J]
    rfl
  · simp (disch := omega) only [uR_ne, u2_at]; simp
  · have hb := b k h0 h1 j h2 h3
    rcases (show k = 1 ∨ k = 2 ∨ k = 3 by omega) with rfl | rfl | rfl <;> simp (disch := omega) only [uR_ne, uR_at, cpy_at, hb]
  · refine ⟨fun k hk => ?_, rfl⟩
    unfold hK at hk
    simp (disch := omega) only [uR_ne, u2_ne]
end
