/-! a night goes, in the class; a shop is copied -/
def fallS (most f x : Int) : Int := if f + x < most then f + x else most
/-- FALLEN behind a night, head by head -/
def fallC (A : Shp) (b most : Int) : Nat → Int → Int → Int
  | 0, _, f => f
  | n + 1, c, f => fallC A b most n (c + 1) (if A.2.1 c 0 4 = 0 then fallS most f (lost (A.2.1 c) b) else f)
theorem fallC_congr {A B : Shp} {b most : Int} : ∀ (n : Nat) (c f : Int), (∀ p, c ≤ p → A.2.1 p = B.2.1 p) → fallC A b most n c f = fallC B b most n c f
  | 0, _, _, _ => rfl
  | n + 1, c, f, h => by
    unfold fallC
    rw [h c (by omega)]
    exact fallC_congr n (c + 1) _ fun p hp => h p (by omega)
theorem fallC_in {A : Shp} {b most : Int} : ∀ (n : Nat) (c f : Int), 0 ≤ f → f ≤ most → 0 ≤ fallC A b most n c f ∧ fallC A b most n c f ≤ most ∧ fallC A b most n c f ≤ f + 8 * n
  | 0, _, f, h0, h1 => by unfold fallC; omega
  | n + 1, c, f, h0, h1 => by
    unfold fallC
    have hl := lost_in (A.2.1 c) b
    by_cases hz : A.2.1 c 0 4 = 0
    · rw [if_pos hz]
      have e : 0 ≤ fallS most f (lost (A.2.1 c) b) ∧ fallS most f (lost (A.2.1 c) b) ≤ most ∧ fallS most f (lost (A.2.1 c) b) ≤ f + 8 := by
        unfold fallS
        split <;> omega
      have := fallC_in (A := A) (b := b) (most := most) n (c + 1) _ e.1 e.2.1
      omega
    · rw [if_neg hz]
      have := fallC_in (A := A) (b := b) (most := most) n (c + 1) f h0 h1
      omega
def nightC (A : Shp) (b most : Int) (n : Nat) (c : Int) : Shp := (upH (upH A.1 0 2 (fallC A b most n c (A.1 0 2))) 0 1 (A.1 0 1 + 1), (fun p => if c ≤ p ∧ A.2.1 p 0 4 = 0 then looH (A.2.1 p) b else A.2.1 p), A.2.2)
theorem ShR.eq {s : Nat} {A B : Shp} {m : SM} (h : ShR s A m) (h1 : ∀ k j, A.1 k j = B.1 k j) (h2 : ∀ p, 0 ≤ p → p < A.1 0 0 → A.2.1 p = B.2.1 p) (h3 : A.2.2 = B.2.2) : ShR s B m := by
  obtain ⟨⟨a0, a1, a2, a3⟩, b, c, e⟩ := h
  refine ⟨⟨by rw [← h1]; exact a0, by rw [← h1]; exact a1, by rw [← h1]; exact a2, by rw [← h1]; exact a3⟩, fun k g0 g1 j g2 g3 => by rw [← h1]; exact b k g0 g1 j g2 g3, fun p g0 g1 => ?_, fun k hk => by rw [← h3]; exact e k hk⟩
  rw [← h1] at g1
  rw [← h2 p g0 g1]
  exact c p g0 g1
section
variable {s : Nat} {A : Shp} {m : SM} {d : Nat}
theorem L_26 (hs : isS s) {b most : Int} (hb : 1 ≤ b ∧ b ≤ 2) (hm : 9999 ≤ most ∧ most ≤ 2147483647) : ∀ (n : Nat) (c : Int) (A : Shp) (m : SM), 0 ≤ c → c + n = A.1 0 0 → A.1 0 0 ≤ 6 → (0 ≤ A.1 0 2 ∧ A.1 0 2 + 8 * n ≤ 1000100) → (∀ p, c ≤ p → p < A.1 0 0 → HeadI (A.2.1 p)) → ShR s A m → ∃ m', rB Q0 26 (cB Q0 (d + 2)) 22 [some (.ref s), none, some (.int (J most)), some (.int (J b)), some (.int (J c))] m = some (none, m') ∧ ShR s (nightC A b most n c) m' ∧ Fr (sK s) m m' := by
  obtain ⟨⟨f1, -, -, -, f4, -⟩, ⟨-, -, -, f5⟩, -⟩ := shF hs
  intro n
  induction n with
  | zero =>
    intro c A m h0 h1 h6 hf hI hR
    have a0 := hR.1.1
    have a1 := hR.1.2.1
    refine ⟨_, ?_, (hR.sc h6 (i := 1) (j := 1) rfl (by omega) (A.1 0 1 + 1)).eq (fun k j => ?_) (fun p g0 g1 => ?_) rfl, Fr.put (by unfold sK; omega) _ _⟩
    · rw [T_26_22]
      simp (disch := omega) only [kk, lits, q0_J, q1_J, q2_J, cI_J, cT_J, cB_J, cZ_J, cS_J, c1_J, cA_J, J_clamp, u2_at, reduceIte, f1, a0, a1]
      rw [if_pos (by omega)]
    · show upH A.1 0 1 (A.1 0 1 + 1) k j = upH (upH A.1 0 2 (fallC A b most 0 c (A.1 0 2))) 0 1 (A.1 0 1 + 1) k j
      unfold upH fallC
      by_cases e1 : k = 0 ∧ j = 1
      · simp [e1]
      · by_cases e2 : k = 0 ∧ j = 2
        · simp [e2]
        · simp [e1, e2]
    · show A.2.1 p = if c ≤ p ∧ _ then _ else A.2.1 p
      have g1 : p < A.1 0 0 := g1
      rw [if_neg (by omega)]
  | succ n ih =>
    intro c A m h0 h1 h6 hf hI hR
    have a0 := hR.1.1
    have a2 := hR.1.2.2.1
    have hF := hd_F hs h0 (show c < 6 by omega)
    have hg := hd_g hs h0 (show c < 6 by omega)
    have hH := hR.2.2.1 c h0 (by omega)
    have hi := hI c (by omega) (by omega)
    have a4 := hH.1.2.2.2.2
    have i4 := hi.1.2.2.2.2
    by_cases hz : A.2.1 c 0 4 = 0
    · obtain ⟨m1, e1, e2, e3⟩ := S_9 (d := d) hF hH hi hb
      have hl := lost_in (A.2.1 c) b
      have hR1 := (hR.hdp h6 h0 e3 e2).sc h6 (i := 2) (j := 2) rfl (by omega) (fallS most (A.1 0 2) (lost (A.2.1 c) b))
      have hfs : 0 ≤ fallS most (A.1 0 2) (lost (A.2.1 c) b) ∧ fallS most (A.1 0 2) (lost (A.2.1 c) b) ≤ A.1 0 2 + 8 := by
        unfold fallS
        split <;> omega
      have a0' := hR1.1.1
      · obtain ⟨m', e4, e5, e6⟩ := ih (c + 1) (upS (upHd A c (looH (A.2.1 c) b)) 2 (fallS most (A.1 0 2) (lost (A.2.1 c) b))) _ (by omega) (by show c + 1 + n = A.1 0 0; omega) h6 (by show 0 ≤ fallS most (A.1 0 2) (lost (A.2.1 c) b) ∧ fallS most (A.1 0 2) (lost (A.2.1 c) b) + 8 * n ≤ 1000100; omega) (fun p g0 g1 => by
          have g1 : p < A.1 0 0 := g1
          show HeadI (if p = c then _ else A.2.1 p)
          rw [if_neg (by omega)]
          exact hI p (by omega) g1) hR1
        refine ⟨m', ?_, e5.eq (fun k j => ?_) (fun p g0 g1 => ?_) rfl, ?_⟩
        · rw [T_26_22]
          simp (disch := omega) only [kk, lits, q0_J, q1_J, q2_J, cI_J, cT_J, cB_J, cZ_J, cS_J, c1_J, cA_J, J_clamp, u2_at, reduceIte, f1, a0, a2, f4, f5, hg, hF.1.1, a4, e1, S_212]
          rw [if_neg (by omega), if_pos hz]
          exact e4
        · show upH (upH (upH A.1 0 2 (fallS most (A.1 0 2) (lost (A.2.1 c) b))) 0 2 (fallC _ b most n (c + 1) (upH A.1 0 2 (fallS most (A.1 0 2) (lost (A.2.1 c) b)) 0 2))) 0 1 (upH A.1 0 2 (fallS most (A.1 0 2) (lost (A.2.1 c) b)) 0 1 + 1) k j = upH (upH A.1 0 2 (fallC A b most (n + 1) c (A.1 0 2))) 0 1 (A.1 0 1 + 1) k j
          have e7 : fallC A b most (n + 1) c (A.1 0 2) = fallC A b most n (c + 1) (fallS most (A.1 0 2) (lost (A.2.1 c) b)) := by
            show fallC A b most n (c + 1) (if _ then _ else _) = _
            rw [if_pos hz]
          have e8 : ∀ f, fallC (upS (upHd A c (looH (A.2.1 c) b)) 2 (fallS most (A.1 0 2) (lost (A.2.1 c) b))) b most n (c + 1) f = fallC A b most n (c + 1) f := fun f => fallC_congr n _ f fun p hp => by
            show (if p = c then _ else A.2.1 p) = _
            rw [if_neg (by omega)]
          rw [e8, e7]
          unfold upH
          by_cases q1 : k = 0 ∧ j = 1
          · simp [q1]
          · by_cases q2 : k = 0 ∧ j = 2
            · simp [q2]
            · simp [q1, q2]
        · show (if c + 1 ≤ p ∧ (if p = c then looH (A.2.1 c) b else A.2.1 p) 0 4 = 0 then looH (if p = c then looH (A.2.1 c) b else A.2.1 p) b else (if p = c then looH (A.2.1 c) b else A.2.1 p)) = if c ≤ p ∧ A.2.1 p 0 4 = 0 then looH (A.2.1 p) b else A.2.1 p
          by_cases q : p = c
          · subst q
            rw [if_neg (by omega), if_pos rfl, if_pos ⟨by omega, hz⟩]
          · have : (c + 1 ≤ p ↔ c ≤ p) := by omega
            simp only [q, this, if_false]
        · refine Fr.tr ?_ e6
          exact (e3.mono fun k hk => sK_hd h0 (by omega) hk).tr (Fr.put (by unfold sK; omega) _ _)
    · obtain ⟨m', e4, e5, e6⟩ := ih (c + 1) A m (by omega) (by omega) h6 (by omega) (fun p g0 g1 => hI p (by omega) g1) hR
      refine ⟨m', ?_, e5.eq (fun k j => ?_) (fun p g0 g1 => ?_) rfl, e6⟩
      · rw [T_26_22]
        simp (disch := omega) only [kk, lits, q0_J, q1_J, q2_J, cI_J, cT_J, cB_J, cZ_J, cS_J, c1_J, cA_J, J_clamp, u2_at, reduceIte, f1, a0, a2, f4, f5, hg, hF.1.1, a4]
        rw [if_neg (by omega), if_neg hz]
        exact e4
      · show upH (upH A.1 0 2 (fallC A b most n (c + 1) (A.1 0 2))) 0 1 (A.1 0 1 + 1) k j = upH (upH A.1 0 2 (fallC A b most (n + 1) c (A.1 0 2))) 0 1 (A.1 0 1 + 1) k j
        have e7 : fallC A b most (n + 1) c (A.1 0 2) = fallC A b most n (c + 1) (A.1 0 2) := by
          show fallC A b most n (c + 1) (if _ then _ else _) = _
          rw [if_neg hz]
        rw [e7]
      · show (if c + 1 ≤ p ∧ A.2.1 p 0 4 = 0 then looH (A.2.1 p) b else A.2.1 p) = if c ≤ p ∧ A.2.1 p 0 4 = 0 then looH (A.2.1 p) b else A.2.1 p
        by_cases q : p = c
        · subst q
          rw [if_neg (by omega), if_neg (fun z => hz z.2)]
        · have : (c + 1 ≤ p ↔ c ≤ p) := by omega
          simp only [this]
end
