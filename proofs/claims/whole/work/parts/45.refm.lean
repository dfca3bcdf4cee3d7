/-! THE REFERENCE: nights; what is asked is put back -/
theorem fallS_cap (most f x : Int) : fallS most f x = capN most f x := rfl
theorem looH_hair {H : Nat → Int → Int} {b j : Int} (h : ¬ looH H b 2 j = -1) : looH H b 2 j = H 2 j := by
  unfold looH looC at h ⊢
  by_cases e : 0 ≤ j ∧ ¬ H 2 j = -1
  · rw [if_pos e] at h ⊢
    simp only [if_true] at h ⊢
    split
    · rename_i g
      rw [if_pos g] at h
      exact absurd rfl h
    · rfl
  · rw [if_neg e]
section
variable {m : SM} {d : Nat} {A : Shp} {sh : Int}
theorem L_155h {b most : Int} (hb : 1 ≤ b ∧ b ≤ 2) (hm : 0 ≤ most ∧ most ≤ 2000000000) : ∀ (n : Nat) (c : Int) (A : Shp) (m : SM), 0 ≤ c → c + n = A.1 0 0 → A.1 0 0 ≤ 6 → (0 ≤ A.1 0 2 ∧ A.1 0 2 ≤ most) → (∀ p, c ≤ p → p < A.1 0 0 → HeadI (A.2.1 p)) → ShN sh A m → m.1 177 32 = J most → ∃ m', rB Q0 155 (cB Q0 (d + 1)) 27 [some (.ref 177), some (.int (J b)), some (.int (J c))] m = some (none, m') ∧ ShN sh (nightC A b most n c) m' ∧ FrR tiK tiI m m' := by
  intro n
  induction n with
  | zero =>
    intro c A m h0 h1 h6 hf hI hR h32
    obtain ⟨⟨a0, a1, a2, a3⟩, r1, r2, r3⟩ := hR
    have k1 : FrR tiK tiI m (up2 m.1 177 3 (J (A.1 0 1 + 1)), m.2) := FrR.put7 (Or.inr rfl) _
    have hc : (nightC A b most 0 c).1 0 0 = A.1 0 0 := by simp [nightC, upH]
    refine ⟨_, ?_, ⟨⟨?_, ?_, ?_, ?_⟩, fun k g0 g1 j g2 g3 => ?_, fun p g0 g1 => ?_, r3.1, fun p g0 g1 => ?_⟩, k1⟩
    · rw [T_155_27]
      simp (disch := omega) only [kk, lits, q0_J, q1_J, q2_J, cI_J, cT_J, cB_J, cZ_J, cS_J, c1_J, cA_J, J_clamp, u2_at, reduceIte, a0, a3]
      rw [if_pos (by omega)]
    · simp [u2_at, hc, a0]
    · simp [u2_at, a1]
    · simp [u2_at, a2, nightC, upH, fallC]
    · simp [u2_at, nightC, upH]
    · show up2 m.1 177 3 (J (A.1 0 1 + 1)) (177 + k) j.toNat = _
      rw [u2_ne _ _ (by omega), r1 k g0 g1 j g2 g3]
      unfold nightC upH
      simp only
      rw [if_neg (by omega), if_neg (by omega)]
    · rw [hc] at g1
      show HeadN p (if c ≤ p ∧ _ then _ else A.2.1 p) _
      rw [if_neg (by omega)]
      have k2 : FrR (fun _ => False) tiI m (up2 m.1 177 3 (J (A.1 0 1 + 1)), m.2) := FrR.put7 (Or.inr rfl) _
      exact (r2 p g0 g1).fr k2 fun k g2 g3 g4 => g4
    · rw [hc] at g1
      show _ = (if c ≤ p ∧ _ then _ else A.2.1 p) 0 4
      rw [if_neg (by omega)]
      exact r3.2 p g0 g1
  | succ n ih =>
    intro c A m h0 h1 h6 hf hI hR h32
    have hR0 := hR
    obtain ⟨⟨a0, a1, a2, a3⟩, r1, r2, r3⟩ := hR
    have hbit := r3.2 c h0 (by omega)
    have hi := hI c (by omega) (by omega)
    have i4 := hi.1.2.2.2.2
    have e110 := S_110 (m := m) (d := d) r3.1.1 r3.1.2 h0 (show c < 6 by omega)
    have e7 : fallC A b most (n + 1) c (A.1 0 2) = fallC A b most n (c + 1) (if A.2.1 c 0 4 = 0 then fallS most (A.1 0 2) (lost (A.2.1 c) b) else A.1 0 2) := rfl
    by_cases hz : A.2.1 c 0 4 = 0
    · obtain ⟨m1, q1, q2, q3, q4, q5⟩ := L_155c (d := d) hb hm (p := c) ⟨h0, by omega⟩ 8 0 (A.1 0 2) (A.2.1 c) m (by omega) (by omega) a2 h32 hf.1 hf.2 (r2 c h0 (by omega)).2.2.2 hi.2.2
      rw [Int.add_zero] at q1
      have hl := lost_in (A.2.1 c) b
      have hfs : 0 ≤ fallS most (A.1 0 2) (lost (A.2.1 c) b) ∧ fallS most (A.1 0 2) (lost (A.2.1 c) b) ≤ most := by
        unfold fallS
        split <;> omega
      have hR1 : ShN sh (upS (upHd A c (looH (A.2.1 c) b)) 2 (fallS most (A.1 0 2) (lost (A.2.1 c) b))) m1 := by
        have hc0 : (upS (upHd A c (looH (A.2.1 c) b)) 2 (fallS most (A.1 0 2) (lost (A.2.1 c) b))).1 0 0 = A.1 0 0 := by simp [upS, upHd, upH]
        refine ⟨⟨?_, ?_, ?_, ?_⟩, fun k g0 g1 j g2 g3 => ?_, fun p g0 g1 => ?_, r3.1, fun p g0 g1 => ?_⟩
        · rw [q5.2.1 0 (by omega), hc0]; exact a0
        · rw [q5.2.1 1 (by omega)]; exact a1
        · rw [q2]; simp [upS, upHd, upH]; rfl
        · rw [q5.2.1 3 (by omega), a3]; simp [upS, upHd, upH]
        · rw [q5.1 (177 + k) (by unfold tiK; omega) (by omega), r1 k g0 g1 j g2 g3]
          unfold upS upHd upH
          simp only
          rw [if_neg (by omega)]
        · rw [hc0] at g1
          show HeadN p (if p = c then looH (A.2.1 c) b else A.2.1 p) m1
          have hp := r2 p g0 g1
          have k0 : ∀ k, k ≠ 187 → k ≠ 177 → m1.1 k = m.1 k := fun k hk hk2 => q5.1 k hk hk2
          by_cases e : p = c
          · subst e
            rw [if_pos rfl]
            refine ⟨?_, fun j g2 g3 => ?_, fun j g2 g3 g4 => ?_, fun j g2 g3 => q3 j g2 g3⟩
            · rw [k0 181 (by omega) (by omega), k0 182 (by omega) (by omega), k0 183 (by omega) (by omega), k0 184 (by omega) (by omega)]
              simpa [looH, looC] using hp.1
            · rw [k0 185 (by omega) (by omega)]
              simpa [looH, looC] using hp.2.1 j g2 g3
            · rw [k0 186 (by omega) (by omega), looH_hair g4]
              exact hp.2.2.1 j g2 g3 (by rw [← looH_hair g4]; exact g4)
          · rw [if_neg e]
            refine ⟨?_, fun j g2 g3 => ?_, fun j g2 g3 g4 => ?_, fun j g2 g3 => ?_⟩
            · rw [k0 181 (by omega) (by omega), k0 182 (by omega) (by omega), k0 183 (by omega) (by omega), k0 184 (by omega) (by omega)]
              exact hp.1
            · rw [k0 185 (by omega) (by omega)]
              exact hp.2.1 j g2 g3
            · rw [k0 186 (by omega) (by omega)]
              exact hp.2.2.1 j g2 g3 g4
            · rw [q4 _ (by omega) (by omega)]
              exact hp.2.2.2 j g2 g3
        · rw [hc0] at g1
          show _ = (if p = c then looH (A.2.1 c) b else A.2.1 p) 0 4
          by_cases e : p = c
          · subst e
            rw [if_pos rfl, r3.2 p g0 g1]
            simp [looH, looC]
          · rw [if_neg e]
            exact r3.2 p g0 g1
      obtain ⟨m', e4, e5, e6⟩ := ih (c + 1) _ m1 (by omega) (by show c + 1 + n = A.1 0 0; omega) (by simp [upS, upHd, upH]; exact h6) (by simp [upS, upHd, upH]; exact hfs) (fun p g0 g1 => by
        have g1 : p < A.1 0 0 := by simpa [upS, upHd, upH] using g1
        show HeadI (if p = c then _ else A.2.1 p)
        rw [if_neg (by omega)]
        exact hI p (by omega) g1) hR1 (by rw [q5.2.1 32 (by omega)]; exact h32)
      have k1 : FrR tiK tiI m m1 := q5.mono (fun _ h => h) fun i hi => Or.inl hi
      have hA : ∀ k j, (nightC (upS (upHd A c (looH (A.2.1 c) b)) 2 (fallS most (A.1 0 2) (lost (A.2.1 c) b))) b most n (c + 1)).1 k j = (nightC A b most (n + 1) c).1 k j := by
        intro k j
        show upH (upH (upH A.1 0 2 (fallS most (A.1 0 2) (lost (A.2.1 c) b))) 0 2 (fallC (upS (upHd A c (looH (A.2.1 c) b)) 2 (fallS most (A.1 0 2) (lost (A.2.1 c) b))) b most n (c + 1) (upH A.1 0 2 (fallS most (A.1 0 2) (lost (A.2.1 c) b)) 0 2))) 0 1 (upH A.1 0 2 (fallS most (A.1 0 2) (lost (A.2.1 c) b)) 0 1 + 1) k j = upH (upH A.1 0 2 (fallC A b most (n + 1) c (A.1 0 2))) 0 1 (A.1 0 1 + 1) k j
        have e8 : ∀ f, fallC (upS (upHd A c (looH (A.2.1 c) b)) 2 (fallS most (A.1 0 2) (lost (A.2.1 c) b))) b most n (c + 1) f = fallC A b most n (c + 1) f := fun f => fallC_congr n _ f fun p hp => by
          show (if p = c then _ else A.2.1 p) = _
          rw [if_neg (by omega)]
        rw [e8, e7, if_pos hz]
        unfold upH
        by_cases w1 : k = 0 ∧ j = 1
        · simp [w1]
        · by_cases w2 : k = 0 ∧ j = 2
          · simp [w2]
          · simp [w1, w2]
      have hB : ∀ p, (nightC (upS (upHd A c (looH (A.2.1 c) b)) 2 (fallS most (A.1 0 2) (lost (A.2.1 c) b))) b most n (c + 1)).2.1 p = (nightC A b most (n + 1) c).2.1 p := by
        intro p
        show (if c + 1 ≤ p ∧ (if p = c then looH (A.2.1 c) b else A.2.1 p) 0 4 = 0 then looH (if p = c then looH (A.2.1 c) b else A.2.1 p) b else (if p = c then looH (A.2.1 c) b else A.2.1 p)) = if c ≤ p ∧ A.2.1 p 0 4 = 0 then looH (A.2.1 p) b else A.2.1 p
        by_cases q : p = c
        · subst q
          rw [if_neg (by omega), if_pos rfl, if_pos ⟨by omega, hz⟩]
        · have : (c + 1 ≤ p ↔ c ≤ p) := by omega
          simp only [q, this, if_false]
      have hE : ShN sh (nightC A b most (n + 1) c) m' := by
        have e1 : (nightC (upS (upHd A c (looH (A.2.1 c) b)) 2 (fallS most (A.1 0 2) (lost (A.2.1 c) b))) b most n (c + 1)).1 = (nightC A b most (n + 1) c).1 := funext fun k => funext fun j => hA k j
        have e2 : (nightC (upS (upHd A c (looH (A.2.1 c) b)) 2 (fallS most (A.1 0 2) (lost (A.2.1 c) b))) b most n (c + 1)).2.1 = (nightC A b most (n + 1) c).2.1 := funext hB
        unfold ShN at e5 ⊢
        rw [e1, e2] at e5
        exact e5
      refine ⟨m', ?_, hE, k1.tr e6⟩
      rw [T_155_27]
      simp (disch := omega) only [kk, lits, q0_J, q1_J, q2_J, cI_J, cT_J, cB_J, cZ_J, cS_J, c1_J, cA_J, J_clamp, u2_at, reduceIte, a0, a1, e110]
      rw [if_neg (by omega), if_neg (by omega), q1]
      exact e4
    · obtain ⟨m', e4, e5, e6⟩ := ih (c + 1) A m (by omega) (by omega) h6 hf (fun p g0 g1 => hI p (by omega) g1) hR0 h32
      have e1 : (nightC A b most n (c + 1)).1 = (nightC A b most (n + 1) c).1 := by
        show upH (upH A.1 0 2 (fallC A b most n (c + 1) (A.1 0 2))) 0 1 (A.1 0 1 + 1) = upH (upH A.1 0 2 (fallC A b most (n + 1) c (A.1 0 2))) 0 1 (A.1 0 1 + 1)
        rw [e7, if_neg hz]
      have e2 : (nightC A b most n (c + 1)).2.1 = (nightC A b most (n + 1) c).2.1 := by
        funext p
        show (if c + 1 ≤ p ∧ A.2.1 p 0 4 = 0 then looH (A.2.1 p) b else A.2.1 p) = if c ≤ p ∧ A.2.1 p 0 4 = 0 then looH (A.2.1 p) b else A.2.1 p
        by_cases q : p = c
        · subst q
          rw [if_neg (by omega), if_neg (fun z => hz z.2)]
        · have : (c + 1 ≤ p ↔ c ≤ p) := by omega
          simp only [this]
      refine ⟨m', ?_, ?_, e6⟩
      · rw [T_155_27]
        simp (disch := omega) only [kk, lits, q0_J, q1_J, q2_J, cI_J, cT_J, cB_J, cZ_J, cS_J, c1_J, cA_J, J_clamp, u2_at, reduceIte, a0, a1, e110]
        rw [if_neg (by omega), if_pos (by omega)]
        exact e4
      · unfold ShN at e5 ⊢
        rw [e1, e2] at e5
        exact e5
end
