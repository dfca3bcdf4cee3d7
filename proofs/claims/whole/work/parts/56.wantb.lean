/-! WANTED, asked of the class -/
def waK : Nat → Prop := fun k => k = 137 ∨ k = 138 ∨ k = 139
section
variable {m : SM} {d : Nat} {n : Int} {T : Int × Cls} {A : Shp}
theorem S_104 (hI : ShI A) (hV : View 1 n T A m) {p v : Int} (hp : 0 ≤ p ∧ p < A.1 0 0) (hv : 0 ≤ v ∧ v ≤ 99) (hG : TogR A T.2 p (A.2.2 0 0 0) m) : cB Q0 (d + 2) 104 [.ref 0, .int (J p), .int (J v)] m = some (some (.int (bi (okP A T.2 p 2 v = true))), m) := by
  have i0 := hI.1.1
  have q := hI.2.2.2.1.1
  have g : GRt 5 p.toNat = some (hd 1 p) := hd_g (s := 1) (Or.inl rfl) hp.1 (by omega)
  have hF := hd_F (s := 1) (Or.inl rfl) hp.1 (show p < 6 by omega)
  have e1 := S_8 hF (hV.1.2.2.1 p hp.1 hp.2) (hI.2.2.1 p hp.1 hp.2) d
  have e2 := L_104 (d := d) hI hV hp hv hG (A.2.2 0 0 0).toNat 0 (by omega) (by omega)
  rw [cB_eq]
  show rB Q0 104 (cB Q0 (d + 1)) 0 [some (.ref 0), some (.int (J p)), some (.int (J v))] m = _
  rw [T_104_0]
  simp (disch := omega) only [kk, lits, q0_J, q1_J, q2_J, cI_J, cT_J, cB_J, cZ_J, cS_J, c1_J, cA_J, J_clamp, u2_at, reduceIte, g, hF.1.1, cO_J, e1, e2]
  unfold okP
  simp only [decide_eq_true_eq]
  rfl
theorem L_103b (hI : ShI A) (hV : View 1 n T A m) {p w : Int} (hp : 0 ≤ p ∧ p < A.1 0 0) (hw : -2147483648 ≤ w ∧ w ≤ 2147483647) (hG : TogR A T.2 p (A.2.2 0 0 0) m) : ∀ (N : Nat) (v c f : Int), v + 1 = N → N ≤ 100 → rB Q0 103 (cB Q0 (d + 2)) 92 [some (.ref 0), some (.int (J p)), some (.int (J w)), some (.int (J c)), some (.int (J f)), some (.int (J v))] m = some (some (.int (J (if w = 0 then (posF (okP A T.2 p 2) N v c f).1 else (posF (okP A T.2 p 2) N v c f).2))), m) := by
  intro N
  induction N with
  | zero =>
    intro v c f h0 h1
    rw [T_103_92]
    simp (disch := omega) only [kk, lits, q0_J, q1_J, q2_J, cI_J, cT_J, cB_J, cZ_J, cS_J, c1_J, cA_J, J_clamp, u2_at, reduceIte]
    rw [if_pos (by omega)]
    by_cases hz : w = 0
    · rw [if_pos hz, if_pos hz]
      rfl
    · rw [if_neg hz, if_neg hz]
      rfl
  | succ N ih =>
    intro v c f h0 h1
    have e1 := S_104 (d := d) hI hV hp (v := v) (by omega) hG
    rw [T_103_92, posF_s]
    by_cases c1 : okP A T.2 p 2 v = true
    · simp (disch := omega) only [kk, lits, q0_J, q1_J, q2_J, cI_J, cT_J, cB_J, cZ_J, cS_J, c1_J, cA_J, J_clamp, u2_at, reduceIte, e1, bi, if_pos c1]
      rw [if_neg (by omega), if_neg (by omega)]
      exact ih (v - 1) (c + 1) v (by omega) (by omega)
    · simp (disch := omega) only [kk, lits, q0_J, q1_J, q2_J, cI_J, cT_J, cB_J, cZ_J, cS_J, c1_J, cA_J, J_clamp, u2_at, reduceIte, e1, bi, if_neg c1]
      rw [if_neg (by omega)]
      exact ih (v - 1) c f (by omega) (by omega)
theorem L_103a (hI : ShI A) {p w : Int} (hp : 0 ≤ p ∧ p < A.1 0 0) (hw : -2147483648 ≤ w ∧ w ≤ 2147483647) : ∀ (N : Nat) (i : Int) (m : SM), View 1 n T A m → 0 ≤ i → i + N = A.2.2 0 0 0 → TogR A T.2 p i m → ∃ m', rB Q0 103 (cB Q0 (d + 4)) 2 [some (.ref 0), some (.int (J p)), some (.int (J w)), some (.int (J i))] m = some (some (.int (J (possA A T.2 p 2 w))), m') ∧ Fr waK m m' := by
  have i0 := hI.1.1
  have q := hI.2.2.2.1
  have hF := hd_F (s := 1) (Or.inl rfl) hp.1 (show p < 6 by omega)
  have g : GRt 5 p.toNat = some (hd 1 p) := hd_g (s := 1) (Or.inl rfl) hp.1 (by omega)
  have hHI := hI.2.2.1 p hp.1 hp.2
  intro N
  induction N with
  | zero =>
    intro i m hV h0 h1 hG
    have r0 : m.1 6 0 = J (A.2.2 0 0 0) := (hV.1.2.2.2 0 (by omega)).1
    obtain rfl : i = A.2.2 0 0 0 := by omega
    have e := L_103b (d := d + 2) hI hV hp hw hG 100 99 0 (-5) (by omega) (by omega)
    refine ⟨m, ?_, Fr.rf⟩
    rw [T_103_2]
    simp (disch := omega) only [kk, lits, q0_J, q1_J, q2_J, cI_J, cT_J, cB_J, cZ_J, cS_J, c1_J, cA_J, J_clamp, u2_at, reduceIte, r0]
    rw [if_pos (Int.le_refl _)]
    exact e
  | succ N ih =>
    intro i m hV h0 h1 hG
    have hrow := hV.1.2.2.2 0 (by omega)
    have r0 : m.1 6 0 = J (A.2.2 0 0 0) := hrow.1
    have r1 : m.1 7 i.toNat = J (A.2.2 0 1 i) := hrow.2 1 (by omega) (by omega) i h0 (by omega)
    have r2 : m.1 8 i.toNat = J (A.2.2 0 2 i) := hrow.2 2 (by omega) (by omega) i h0 (by omega)
    have qi := q.2 i h0 (by omega)
    by_cases hc : A.2.2 0 1 i = p
    · obtain ⟨m1, e1, e2, e3⟩ := S_94 (d := d) (Or.inl rfl) hI hV hp qi.2.1
      have hV1 := hV.frT (Or.inl rfl) hI e3
      have e4 := S_13 (d := d + 3) hF (hV1.1.2.2.1 p hp.1 hp.2) hHI e2 (w := -1) (by omega)
      have hF2 : Fr waK m1 (up2 m1.1 139 i.toNat (J (tog (A.2.1 p) (fun dr => toneA A T.2 p dr (A.2.2 0 2 i)) (-1))), m1.2) := Fr.put (K := waK) (k := 139) (Or.inr (Or.inr rfl)) _ _
      have hF1 : Fr waK m m1 := e3.mono fun k hk => by unfold kT at hk; unfold waK; omega
      obtain ⟨m', e5, e6⟩ := ih (i + 1) _ (hV1.fr hI hF2 fun k hk => by unfold waK; omega) (by omega) (by omega) fun j g0 g1 g2 => by
        show up2 m1.1 139 i.toNat _ 139 j.toNat = _
        rw [u2_at]
        by_cases c : j = i
        · rw [if_pos (by omega), c]
        · rw [if_neg (by omega), e3.1 139 (by unfold kT; omega)]
          exact hG j g0 (by omega) g2
      refine ⟨m', ?_, (hF1.tr hF2).tr e6⟩
      rw [T_103_2]
      simp (disch := omega) only [kk, lits, q0_J, q1_J, q2_J, cI_J, cT_J, cB_J, cZ_J, cS_J, c1_J, cA_J, J_clamp, u2_at, reduceIte, r0, r1, r2, hc, e1, g, hF.1.1, cO_J, e4]
      rw [if_neg (by omega)]
      exact e5
    · obtain ⟨m', e5, e6⟩ := ih (i + 1) m hV (by omega) (by omega) fun j g0 g1 g2 => by
        by_cases c : j = i
        · exact absurd (c ▸ g2) hc
        · exact hG j g0 (by omega) g2
      refine ⟨m', ?_, e6⟩
      rw [T_103_2]
      simp (disch := omega) only [kk, lits, q0_J, q1_J, q2_J, cI_J, cT_J, cB_J, cZ_J, cS_J, c1_J, cA_J, J_clamp, u2_at, reduceIte, r0, r1]
      rw [if_neg (by omega), if_neg hc]
      exact e5
theorem S_103 (hI : ShI A) (hV : View 1 n T A m) {p w : Int} (hp : 0 ≤ p ∧ p < A.1 0 0) (hw : -2147483648 ≤ w ∧ w ≤ 2147483647) : ∃ m', cB Q0 (d + 5) 103 [.ref 0, .int (J p), .int (J w)] m = some (some (.int (J (possA A T.2 p 2 w))), m') ∧ Fr waK m m' := by
  have q := hI.2.2.2.1.1
  obtain ⟨m', e1, e2⟩ := L_103a (d := d) hI hp hw (A.2.2 0 0 0).toNat 0 m hV (by omega) (by omega) (fun j g0 g1 _ => by omega)
  refine ⟨m', ?_, e2⟩
  rw [cB_eq]
  show rB Q0 103 (cB Q0 (d + 4)) 0 [some (.ref 0), some (.int (J p)), some (.int (J w))] m = _
  rw [T_103_0]
  exact e1
def poK : Nat → Prop := fun k => (83 ≤ k ∧ k ≤ 123) ∨ k = 137 ∨ k = 138
theorem wrongA_in {c : Cls} {p : Int} : ∀ (N : Nat) (i : Int), 0 ≤ i → wrongF A c p N i = -5 ∨ 0 ≤ wrongF A c p N i ∧ wrongF A c p N i < i + N
  | 0, _, _ => Or.inl rfl
  | N + 1, i, h => by
    have := wrongA_in (c := c) (p := p) N (i + 1) (by omega)
    rw [wrongF_s]
    split <;> omega
theorem L_105 (hI : ShI A) {p w : Int} (hp : 0 ≤ p ∧ p < A.1 0 0) (hw : -2147483648 ≤ w ∧ w ≤ 2147483647) : ∀ (N : Nat) (v c f u : Int) (m : SM), (0 ≤ u ∧ u ≤ 9) → View 83 n T (upHd A p (upH (A.2.1 p) 0 1 u)) m → v + 1 = N → N ≤ 10 → ∃ m', rB Q0 105 (cB Q0 (d + 6)) 21 [some (.ref 0), some (.int (J p)), some (.int (J w)), some (.int (J c)), some (.int (J f)), some (.int (J v))] m = some (some (.int (J (if w = 0 then (posF (okP A T.2 p 1) N v c f).1 else (posF (okP A T.2 p 1) N v c f).2))), m') ∧ Fr poK m m' := by
  have i0 := hI.1.1
  have hF := hd_F (s := 83) (Or.inr (Or.inr rfl)) hp.1 (show p < 6 by omega)
  have g : GRt 87 p.toNat = some (hd 83 p) := hd_g (s := 83) (Or.inr (Or.inr rfl)) hp.1 (by omega)
  have hHI := hI.2.2.1 p hp.1 hp.2
  have hX : ∀ x, 0 ≤ x → x ≤ 9 → HeadI (upH (A.2.1 p) 0 1 x) := fun x g0 g1 => by
    obtain ⟨⟨a0, a1, a2, a3, a4⟩, b, c⟩ := hHI
    exact ⟨⟨a0, ⟨g0, g1⟩, a2, a3, a4⟩, b, c⟩
  intro N
  induction N with
  | zero =>
    intro v c f u m hu hV h0 h1
    refine ⟨m, ?_, Fr.rf⟩
    rw [T_105_21]
    simp (disch := omega) only [kk, lits, q0_J, q1_J, q2_J, cI_J, cT_J, cB_J, cZ_J, cS_J, c1_J, cA_J, J_clamp, u2_at, reduceIte]
    rw [if_pos (by omega)]
    by_cases hz : w = 0
    · rw [if_pos hz, if_pos hz]
      rfl
    · rw [if_neg hz, if_neg hz]
      rfl
  | succ N ih =>
    intro v c f u m hu hV h0 h1
    have hF1 : Fr (hK (hd 83 p)) m (up2 m.1 (hd 83 p) 1 (J v), m.2) := Fr.put (K := hK (hd 83 p)) (k := hd 83 p) (by unfold hK; omega) _ _
    have hR0 : HeadR (hd 83 p) (upH (A.2.1 p) 0 1 u) m := by
      have := hV.1.2.2.1 p hp.1 hp.2
      rw [upHd_p] at this
      exact this
    have hR1 := hR0.p0 (i := 1) (j := 1) rfl (by omega) v
    have hS : ShR 83 (upHd A p (upH (A.2.1 p) 0 1 v)) (up2 m.1 (hd 83 p) 1 (J v), m.2) := by
      refine (hV.1.hdp i0.2 hp.1 hF1 hR1).eq (fun k j => rfl) (fun q h2 h3 => ?_) rfl
      show (if q = p then _ else if q = p then _ else _) = if q = p then _ else _
      by_cases e : q = p
      · rw [if_pos e, if_pos e]
        funext a j
        unfold upH
        by_cases e2 : a = 0 ∧ j = 1
        · rw [if_pos e2, if_pos e2]
        · rw [if_neg e2, if_neg e2, if_neg e2]
      · rw [if_neg e, if_neg e, if_neg e]
    have hIv := upHd_I hI (p := p) (hX v (by omega) (by omega))
    have hT1 : Stg n T (upHd A p (upH (A.2.1 p) 0 1 v)) (up2 m.1 (hd 83 p) 1 (J v), m.2) := hV.2.fr hF1 fun k hk => by
      unfold hK hd
      omega
    obtain ⟨m2, e1, e2⟩ := S_102 (d := d) (Or.inr (Or.inr rfl)) hIv ⟨hS, hT1⟩ (p := p) (by omega)
    have hV2 := View.frT (Or.inr (Or.inr rfl)) ⟨hS, hT1⟩ hIv e2
    have hFa : Fr poK m (up2 m.1 (hd 83 p) 1 (J v), m.2) := Fr.put (K := poK) (k := hd 83 p) (by unfold poK hd; omega) _ _
    have hFb : Fr poK m m2 := hFa.tr (e2.mono fun k hk => by unfold kT at hk; unfold poK; omega)
    have hin := wrongA_in (A := upHd A p (upH (A.2.1 p) 0 1 v)) (c := T.2) (p := p) ((upHd A p (upH (A.2.1 p) 0 1 v)).2.2 0 0 0).toNat 0 (by omega)
    have hq : ((upHd A p (upH (A.2.1 p) 0 1 v)).2.2 0 0 0) ≤ 5 := hI.2.2.2.1.1.2
    change wrongA (upHd A p (upH (A.2.1 p) 0 1 v)) T.2 p = -5 ∨ 0 ≤ wrongA (upHd A p (upH (A.2.1 p) 0 1 v)) T.2 p ∧ wrongA (upHd A p (upH (A.2.1 p) 0 1 v)) T.2 p < _ at hin
    rw [posF_s]
    by_cases c1 : wrongA (upHd A p (upH (A.2.1 p) 0 1 v)) T.2 p = -5
    · obtain ⟨m', e5, e6⟩ := ih (v - 1) (c + 1) v v m2 (by omega) hV2 (by omega) (by omega)
      refine ⟨m', ?_, hFb.tr e6⟩
      rw [T_105_21]
      simp (disch := omega) only [kk, lits, q0_J, q1_J, q2_J, cI_J, cT_J, cB_J, cZ_J, cS_J, c1_J, cA_J, J_clamp, u2_at, reduceIte, g, hF.1.1, cO_J, e1]
      rw [if_neg (by omega), if_pos c1, if_pos (show okP A T.2 p 1 v = true from decide_eq_true c1)]
      exact e5
    · obtain ⟨m', e5, e6⟩ := ih (v - 1) c f v m2 (by omega) hV2 (by omega) (by omega)
      refine ⟨m', ?_, hFb.tr e6⟩
      rw [T_105_21]
      simp (disch := omega) only [kk, lits, q0_J, q1_J, q2_J, cI_J, cT_J, cB_J, cZ_J, cS_J, c1_J, cA_J, J_clamp, u2_at, reduceIte, g, hF.1.1, cO_J, e1]
      rw [if_neg (by omega), if_neg c1, if_neg (show ¬ okP A T.2 p 1 v = true from fun z => c1 (of_decide_eq_true z))]
      exact e5
theorem S_105 (hI : ShI A) (hV : View 1 n T A m) {p w : Int} (hp : 0 ≤ p ∧ p < A.1 0 0) (hw : -2147483648 ≤ w ∧ w ≤ 2147483647) : ∃ m', cB Q0 (d + 7) 105 [.ref 0, .int (J p), .int (J w)] m = some (some (.int (J (possA A T.2 p 1 w))), m') ∧ Fr poK m m' := by
  obtain ⟨m1, e1, e2, e3⟩ := S_24 (d := d + 4) (s := 83) (g := 1) (Or.inr (Or.inr rfl)) (Or.inl rfl) (by omega) hI hV.1
  have hu := (hI.2.2.1 p hp.1 hp.2).1.2.1
  have hS : ShR 83 (upHd A p (upH (A.2.1 p) 0 1 (A.2.1 p 0 1))) m1 := e2.eq (fun k j => rfl) (fun q h2 h3 => by
    show _ = if q = p then _ else _
    by_cases e : q = p
    · rw [if_pos e, e]
      funext a j
      unfold upH
      by_cases e2 : a = 0 ∧ j = 1
      · rw [if_pos e2, e2.1, e2.2]
      · rw [if_neg e2]
    · rw [if_neg e]) rfl
  have hT1 : Stg n T (upHd A p (upH (A.2.1 p) 0 1 (A.2.1 p 0 1))) m1 := hV.2.fr e3 fun k hk => by
    unfold sK
    omega
  obtain ⟨m', e4, e5⟩ := L_105 (d := d) hI hp hw 10 9 0 (-5) (A.2.1 p 0 1) m1 hu ⟨hS, hT1⟩ (by omega) (by omega)
  refine ⟨m', ?_, (e3.mono fun k hk => by unfold sK at hk; unfold poK; omega).tr e5⟩
  rw [cB_eq]
  show rB Q0 105 (cB Q0 (d + 6)) 0 [some (.ref 0), some (.int (J p)), some (.int (J w))] m = _
  rw [T_105_0]
  simp (disch := omega) only [kk, lits, q0_J, q1_J, q2_J, cI_J, cT_J, cB_J, cZ_J, cS_J, c1_J, cA_J, J_clamp, u2_at, reduceIte, e1]
  exact e4
end
