/-! a SHOP is copied (class) -/
section
variable {s g : Nat} {A : Shp} {m : SM} {d : Nat}
def PartC (s : Nat) (A : Shp) (c : Int) (m : SM) : Prop := m.1 s 4 = J (A.1 0 0) ∧ (∀ k : Nat, 0 < k → k ≤ 3 → ∀ j : Int, 0 ≤ j → j < 8 → m.1 (s + k) j.toNat = J (A.1 k j)) ∧ ∀ p : Int, 0 ≤ p → p < c → HeadR (hd s p) (A.2.1 p) m
theorem sK_rw {s k q : Nat} (hk : k < 3) (h : hK (s + 5 + 4 * k) q) : sK s q := by
  unfold hK at h
  unfold sK
  omega
theorem row_F {s k : Nat} (hs : isS s) (hk : k < 3) : RowF (s + 5 + 4 * k) := by
  have h := shF hs
  rcases (show k = 0 ∨ k = 1 ∨ k = 2 by omega) with rfl | rfl | rfl
  · exact h.2.2.1
  · exact h.2.2.2.1
  · exact h.2.2.2.2
theorem L_24 (hs : isS s) (hg : isS g) (hne : s ≠ g) (hI : ShI A) : ∀ (N : Nat) (c : Int) (m : SM), 0 ≤ c → c + N = A.1 0 0 → ShR g A m → PartC s A c m → ∃ m', rB Q0 24 (cB Q0 (d + 1)) 55 [some (.ref s), some (.ref g), some (.int (J c))] m = some (none, m') ∧ ShR s A m' ∧ Fr (sK s) m m' := by
  have i0 := hI.1.1
  have hdis : s + 40 < g ∨ g + 40 < s := by rcases hs with h | h | h <;> rcases hg with h2 | h2 | h2 <;> omega
  obtain ⟨⟨f1, -, -, -, f4, f5, f6, f7⟩, ⟨-, -, -, f8⟩, w0, w1, w2⟩ := shF hs
  obtain ⟨⟨g1, -, -, -, g4, g5, g6, g7⟩, ⟨-, -, -, g8⟩, v0, v1, v2⟩ := shF hg
  intro N
  induction N with
  | zero =>
    intro c m h0 h1 hR hP
    have a := hR.1
    -- the three scalars
    generalize hm1 : (up2 (up2 (up2 m.1 s 5 (J (A.1 0 1))) s 6 (J (A.1 0 2))) s 7 (J (A.1 0 3)), m.2) = m1
    have k1 : Fr (fun k => k = s) m m1 := by
      rw [← hm1]
      refine ⟨fun k hk => ?_, rfl⟩
      simp (disch := omega) only [u2_ne]
    have hR1 : ShR g A m1 := hR.fr i0.2 k1 fun k h1 h2 => by omega
    have q5 := hI.2.2.2
    obtain ⟨m2, e2, r2, k2⟩ := S_22 (d := d) w0 v0 (by omega) (hR1.2.2.2 0 (by omega)) (by have := q5.1.1; omega)
    have hR2 : ShR g A m2 := hR1.fr i0.2 k2 fun k h1 h2 h3 => by unfold hK at h3; omega
    obtain ⟨m3, e3, r3, k3⟩ := S_22 (d := d) w1 v1 (by omega) (hR2.2.2.2 1 (by omega)) (by have := q5.2.1.1; omega)
    have hR3 : ShR g A m3 := hR2.fr i0.2 k3 fun k h1 h2 h3 => by unfold hK at h3; omega
    obtain ⟨m4, e4, r4, k4⟩ := S_22 (d := d) w2 v2 (by omega) (hR3.2.2.2 2 (by omega)) (by have := q5.2.2.1; omega)
    have K : Fr (fun k => k = s ∨ (s + 5 ≤ k ∧ k ≤ s + 16)) m m4 := by
      refine (((k1.mono fun k hk => Or.inl hk).tr (k2.mono fun k hk => ?_)).tr (k3.mono fun k hk => ?_)).tr (k4.mono fun k hk => ?_) <;> (right; unfold hK at hk; omega)
    refine ⟨m4, ?_, ⟨?_, fun k h2 h3 j h4 h5 => ?_, fun p h2 h3 => ?_, fun k hk => ?_⟩, K.mono fun k hk => by unfold sK; omega⟩
    · rw [T_24_55]
      simp (disch := omega) only [kk, lits, q0_J, q1_J, q2_J, cI_J, cT_J, cB_J, cZ_J, cS_J, c1_J, cA_J, J_clamp, u2_at, reduceIte, f1, hP.1, g1, a.2.1, u2_ne, a.2.2.1, a.2.2.2, hm1, f5, f6, f7, g5, g6, g7, w0.1, w1.1, w2.1, e2, e3, e4]
      rw [if_pos (by omega)]
    · have e : m4.1 s = m1.1 s := by
        rw [k4.1 s (by unfold hK; omega), k3.1 s (by unfold hK; omega), k2.1 s (by unfold hK; omega)]
      rw [e, ← hm1]
      refine ⟨?_, ?_, ?_, ?_⟩
      · simp [u2_at, hP.1]
      · simp [u2_at]
      · simp [u2_at]
      · simp [u2_at]
    · rw [K.1 (s + k) (by omega)]
      exact hP.2.1 k h2 h3 j h4 h5
    · refine (hP.2.2 p h2 (by omega)).fr K fun k h4 h5 => ?_
      unfold hd at h4 h5
      omega
    · rcases (show k = 0 ∨ k = 1 ∨ k = 2 by omega) with rfl | rfl | rfl
      · exact (r2.fr k3 fun k h1 h2 h3 => by unfold hK at h3; omega).fr k4 fun k h1 h2 h3 => by unfold hK at h3; omega
      · exact r3.fr k4 fun k h1 h2 h3 => by unfold hK at h3; omega
      · exact r4
  | succ N ih =>
    intro c m h0 h1 hR hP
    have hF := hd_F hs h0 (show c < 6 by omega)
    have hG := hd_F hg h0 (show c < 6 by omega)
    have hgs := hd_g hs h0 (show c < 6 by omega)
    have hgg := hd_g hg h0 (show c < 6 by omega)
    have hH := hR.2.2.1 c h0 (by omega)
    have hHI := hI.2.2.1 c h0 (by omega)
    obtain ⟨m1, e1, e2, e3⟩ := S_5 (d := d) hF hG (by unfold hd; omega) hH hHI.1.2.2.2.2
    have k1 : Fr (sK s) m m1 := e3.mono fun k hk => sK_hd h0 (by omega) hk
    have hR1 : ShR g A m1 := hR.fr i0.2 k1 fun k h1 h2 h3 => by unfold sK at h3; omega
    have hP1 : PartC s A (c + 1) m1 := by
      refine ⟨by rw [e3.1 s (by unfold hK hd; omega)]; exact hP.1, fun k h2 h3 j h4 h5 => by rw [e3.1 (s + k) (by unfold hK hd; omega)]; exact hP.2.1 k h2 h3 j h4 h5, fun p h2 h3 => ?_⟩
      by_cases e : p = c
      · subst e; exact e2
      · refine (hP.2.2 p h2 (by omega)).fr e3 fun k h4 h5 h6 => ?_
        unfold hK hd at h6
        unfold hd at h4 h5
        omega
    obtain ⟨m', e4, e5, e6⟩ := ih (c + 1) m1 (by omega) (by omega) hR1 hP1
    refine ⟨m', ?_, e5, k1.tr e6⟩
    rw [T_24_55]
    simp (disch := omega) only [kk, lits, q0_J, q1_J, q2_J, cI_J, cT_J, cB_J, cZ_J, cS_J, c1_J, cA_J, J_clamp, u2_at, reduceIte, f1, hP.1, f4, f8, hgs, g1, g4, g8, hgg, hF.1.1, e1]
    rw [if_neg (by omega)]
    exact e4
theorem S_24 (hs : isS s) (hg : isS g) (hne : s ≠ g) (hI : ShI A) (hR : ShR g A m) : ∃ m', cB Q0 (d + 2) 24 [.ref s, .ref g] m = some (none, m') ∧ ShR s A m' ∧ Fr (sK s) m m' := by
  have i0 := hI.1.1
  have hdis : s + 40 < g ∨ g + 40 < s := by rcases hs with h | h | h <;> rcases hg with h2 | h2 | h2 <;> omega
  obtain ⟨⟨f1, f2, f3, f4, -⟩, ⟨f5, f6, f7, -⟩, -⟩ := shF hs
  obtain ⟨⟨g1, g2, g3, g4, -⟩, ⟨g5, g6, g7, -⟩, -⟩ := shF hg
  have a0 := hR.1.1
  generalize hm1 : (up2 (upR (upR (upR m.1 (s + 1) (va_cpy (m.1 (g + 1)) (m.1 (s + 1)) 0 0 8)) (s + 2) (va_cpy (m.1 (g + 2)) (m.1 (s + 2)) 0 0 8)) (s + 3) (va_cpy (m.1 (g + 3)) (m.1 (s + 3)) 0 0 8)) s 4 (J (A.1 0 0)), m.2) = m1
  have k1 : Fr (sK s) m m1 := by
    rw [← hm1]
    refine ⟨fun k hk => ?_, rfl⟩
    unfold sK at hk
    simp (disch := omega) only [u2_ne, uR_ne]
  have hR1 : ShR g A m1 := hR.fr i0.2 k1 fun k h1 h2 h3 => by unfold sK at h3; omega
  have hP : PartC s A 0 m1 := by
    rw [← hm1]
    refine ⟨by simp [u2_at], fun k h2 h3 j h4 h5 => ?_, fun p h2 h3 => by omega⟩
    have hb := hR.2.1 k h2 h3 j h4 h5
    rcases (show k = 1 ∨ k = 2 ∨ k = 3 by omega) with rfl | rfl | rfl <;> simp (disch := omega) only [u2_ne, uR_ne, uR_at, cpy_at, hb]
  obtain ⟨m', e1, e2, e3⟩ := L_24 (d := d) hs hg hne hI (A.1 0 0).toNat 0 m1 (by omega) (by omega) hR1 hP
  refine ⟨m', ?_, e2, k1.tr e3⟩
  rw [cB_eq]
  show rB Q0 24 (cB Q0 (d + 1)) 0 [some (.ref s), some (.ref g)] m = _
  rw [T_24_0]
  simp (disch := omega) only [kk, lits, q0_J, q1_J, q2_J, cI_J, cT_J, cB_J, cZ_J, cS_J, c1_J, cA_J, J_clamp, u2_at, reduceIte, f1, f2, f3, f4, f5, f6, f7, g1, g2, g3, g4, g5, g6, g7, uR_ne, okC_J, a0]
  have e0 : Int.toNat 0 = 0 := rfl
  have e8 : Int.toNat 8 = 8 := rfl
  rw [e0, e8, hm1]
  exact e1
end
