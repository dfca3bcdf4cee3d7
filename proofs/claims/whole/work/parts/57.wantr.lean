/-! THE REFERENCE: wanted -/
def heK (c : Nat) : Nat → Prop := fun k => k = 197 ∨ k = c
section
variable {m : SM} {d : Nat} {A : Shp} {sh h : Int} {L : Cla}
theorem ShN.hv183 {p u v : Int} (hp : 0 ≤ p) (h : ShN sh (upHd A p (upH (A.2.1 p) 0 2 u)) m) : ShN sh (upHd A p (upH (A.2.1 p) 0 2 v)) (up2 m.1 183 p.toNat (J v), m.2) := by
  obtain ⟨⟨a0, a1, a2, a3⟩, b, c, e⟩ := h
  have k0 : ∀ k, k ≠ 183 → ((up2 m.1 183 p.toNat (J v), m.2) : SM).1 k = m.1 k := fun k hk => u2_ne _ _ hk
  refine ⟨?_, fun k h0 h1 j h2 h3 => ?_, fun q h0 h1 => ?_, e.1, fun q h0 h1 => ?_⟩
  · rw [k0 177 (by omega)]
    exact ⟨a0, a1, a2, a3⟩
  · rw [k0 (177 + k) (by omega)]
    exact b k h0 h1 j h2 h3
  · obtain ⟨q0, q1, q2, q3⟩ := c q h0 h1
    unfold HeadN
    rw [k0 185 (by omega), k0 186 (by omega), k0 187 (by omega), k0 181 (by omega), k0 182 (by omega), k0 184 (by omega)]
    by_cases e1 : q = p
    · rw [e1] at q0 q1 q2 q3 ⊢
      rw [upHd_p] at q0 q1 q2 q3 ⊢
      refine ⟨?_, q1, q2, q3⟩
      obtain ⟨z0, z1, z2, z3⟩ := q0
      refine ⟨z0, z1, ?_, z3⟩
      show up2 m.1 183 p.toNat (J v) 183 p.toNat = _
      rw [u2_at, if_pos rfl]
      exact congrArg J (if_pos ⟨rfl, rfl⟩).symm
    · have e2 : ∀ H, (upHd A p H).2.1 q = A.2.1 q := fun H => if_neg e1
      rw [e2] at q0 q1 q2 q3 ⊢
      refine ⟨?_, q1, q2, q3⟩
      have k9 : ((up2 m.1 183 p.toNat (J v), m.2) : SM).1 183 q.toNat = m.1 183 q.toNat := by
        show up2 m.1 183 p.toNat (J v) 183 q.toNat = _
        rw [u2_at, if_neg (by omega)]
      rw [k9]
      exact q0
  · have := e.2 q h0 h1
    rw [this]
    by_cases e1 : q = p
    · rw [e1, upHd_p, upHd_p]
      rfl
    · have e2 : ∀ H, (upHd A p H).2.1 q = A.2.1 q := fun H => if_neg e1
      rw [e2, e2]
theorem L_173 (hI : ShI A) (ht : ThI (rainL 0 L, clsL L)) {p w : Int} (hp : 0 ≤ p ∧ p < A.1 0 0) (hw : -2147483648 ≤ w ∧ w ≤ 2147483647) : ∀ (N : Nat) (v c f u : Int) (m2 : SM), (0 ≤ u ∧ u ≤ 99) → ShN sh (upHd A p (upH (A.2.1 p) 0 2 u)) m2 → StgN h L m2 → RwN A m2 → FrR (heK 183) noI m m2 → (∀ j, j ≠ p.toNat → m2.1 183 j = m.1 183 j) → m.1 183 p.toNat = J (A.2.1 p 0 2) → v + 1 = N → N ≤ 100 → ∃ m', rB Q0 173 (cB Q0 (d + 7)) 18 [some (.ref 177), some (.int (J p)), some (.int (J w)), some (.int (J (A.2.1 p 0 2))), some (.int (J c)), some (.int (J f)), some (.int (J v))] m2 = some (some (.int (J (if w = 0 then (posF (okP A (clsL L) p 2) N v c f).1 else (posF (okP A (clsL L) p 2) N v c f).2))), m') ∧ FrR piK noI m m' := by
  have i0 := hI.1.1
  have hHI := hI.2.2.1 p hp.1 hp.2
  have hX : ∀ x, 0 ≤ x → x ≤ 99 → HeadI (upH (A.2.1 p) 0 2 x) := fun x g0 g1 => by
    obtain ⟨⟨a0, a1, a2, a3, a4⟩, b, c⟩ := hHI
    exact ⟨⟨a0, a1, ⟨g0, g1⟩, a3, a4⟩, b, c⟩
  intro N
  induction N with
  | zero =>
    intro v c f u m2 hu hS hT hW hF hj hj2 h0 h1
    refine ⟨(up2 m2.1 183 p.toNat (J (A.2.1 p 0 2)), m2.2), ?_, ⟨fun k g1 g2 => ?_, fun i hi => ?_, hF.2.2⟩⟩
    · rw [T_173_18]
      simp (disch := omega) only [kk, lits, q0_J, q1_J, q2_J, cI_J, cT_J, cB_J, cZ_J, cS_J, c1_J, cA_J, J_clamp, u2_at, reduceIte]
      rw [if_pos (by omega)]
      by_cases hz : w = 0
      · rw [if_pos hz, if_pos hz]
        rfl
      · rw [if_neg hz, if_neg hz]
        rfl
    · by_cases e : k = 183
      · subst e
        funext j
        show up2 m2.1 183 p.toNat (J (A.2.1 p 0 2)) 183 j = _
        rw [u2_at]
        by_cases e2 : j = p.toNat
        · rw [if_pos e2, e2, hj2]
        · rw [if_neg e2, hj j e2]
      · show up2 m2.1 183 p.toNat (J (A.2.1 p 0 2)) k = _
        rw [u2_ne _ _ e, hF.1 k (by unfold heK; unfold piK at g1; omega) g2]
    · show up2 m2.1 183 p.toNat (J (A.2.1 p 0 2)) 177 i = _
      rw [u2_ne _ _ (by omega), hF.2.1 i hi]
  | succ N ih =>
    intro v c f u m2 hu hS hT hW hF hj hj2 h0 h1
    have hS3 := ShN.hv183 (v := v) hp.1 hS
    have hF3 : FrR (fun k => k = 183) noI m2 (up2 m2.1 183 p.toNat (J v), m2.2) := FrR.put (K := fun k => k = 183) (KI := noI) (k := 183) rfl (by omega) _ _
    have hT3 : StgN h L (up2 m2.1 183 p.toNat (J v), m2.2) := hT.fr hF3 (fun k g1 g2 g3 => by omega) (by unfold noI; exact fun z => z)
    have hW3 : RwN A (up2 m2.1 183 p.toNat (J v), m2.2) := by
      have k0 : ∀ k, k ≠ 183 → ((up2 m2.1 183 p.toNat (J v), m2.2) : SM).1 k = m2.1 k := fun k hk => u2_ne _ _ hk
      unfold RwN
      refine ⟨⟨by rw [k0 177 (by omega)]; exact hW.1.1, fun k h0 h1 j h2 h3 => by rw [k0 (202 + k) (by omega)]; exact hW.1.2 k h0 h1 j h2 h3⟩, ?_⟩
      rw [k0 177 (by omega), k0 206 (by omega), k0 207 (by omega), k0 208 (by omega), k0 209 (by omega)]
      exact hW.2
    have hIv := upHd_I hI (p := p) (hX v (by omega) (by omega))
    obtain ⟨m4, e1, e2⟩ := S_171 (d := d) (A := upHd A p (upH (A.2.1 p) 0 2 v)) hIv ⟨hS3, hT3⟩ hW3 ht (p := p) (by omega)
    have hV4 := ViewN.frP (A := upHd A p (upH (A.2.1 p) 0 2 v)) ⟨hS3, hT3⟩ e2
    have hW4 : RwN A m4 := hW3.bk (BK.of e2)
    have hF4 : FrR (heK 183) noI m m4 := (hF.tr (hF3.mono (fun k hk => Or.inr hk) (fun _ z => z))).tr (e2.mono (fun k hk => Or.inl hk) (fun _ z => z))
    have hj4 : ∀ j, j ≠ p.toNat → m4.1 183 j = m.1 183 j := fun j hne => by
      rw [e2.1 183 (by unfold piK; omega) (by omega)]
      show up2 m2.1 183 p.toNat (J v) 183 j = _
      rw [u2_at, if_neg hne, hj j hne]
    have hin := wrongA_in (A := upHd A p (upH (A.2.1 p) 0 2 v)) (c := clsL L) (p := p) ((upHd A p (upH (A.2.1 p) 0 2 v)).2.2 0 0 0).toNat 0 (by omega)
    have hq : ((upHd A p (upH (A.2.1 p) 0 2 v)).2.2 0 0 0) ≤ 5 := hI.2.2.2.1.1.2
    change wrongA (upHd A p (upH (A.2.1 p) 0 2 v)) (clsL L) p = -5 ∨ 0 ≤ wrongA (upHd A p (upH (A.2.1 p) 0 2 v)) (clsL L) p ∧ wrongA (upHd A p (upH (A.2.1 p) 0 2 v)) (clsL L) p < _ at hin
    rw [posF_s]
    by_cases c1 : wrongA (upHd A p (upH (A.2.1 p) 0 2 v)) (clsL L) p = -5
    · obtain ⟨m', e5, e6⟩ := ih (v - 1) (c + 1) v v m4 (by omega) hV4.1 hV4.2 hW4 hF4 hj4 hj2 (by omega) (by omega)
      refine ⟨m', ?_, e6⟩
      rw [T_173_18]
      simp (disch := omega) only [kk, lits, q0_J, q1_J, q2_J, cI_J, cT_J, cB_J, cZ_J, cS_J, c1_J, cA_J, J_clamp, u2_at, reduceIte, e1]
      rw [if_neg (by omega), if_pos (by omega), if_pos (show okP A (clsL L) p 2 v = true from decide_eq_true c1)]
      exact e5
    · obtain ⟨m', e5, e6⟩ := ih (v - 1) c f v m4 (by omega) hV4.1 hV4.2 hW4 hF4 hj4 hj2 (by omega) (by omega)
      refine ⟨m', ?_, e6⟩
      rw [T_173_18]
      simp (disch := omega) only [kk, lits, q0_J, q1_J, q2_J, cI_J, cT_J, cB_J, cZ_J, cS_J, c1_J, cA_J, J_clamp, u2_at, reduceIte, e1]
      rw [if_neg (by omega), if_neg (by omega), if_neg (show ¬ okP A (clsL L) p 2 v = true from fun z => c1 (of_decide_eq_true z))]
      exact e5
theorem S_173 (hI : ShI A) (hV : ViewN sh h L A m) (hW : RwN A m) (ht : ThI (rainL 0 L, clsL L)) {p w : Int} (hp : 0 ≤ p ∧ p < A.1 0 0) (hw : -2147483648 ≤ w ∧ w ≤ 2147483647) : ∃ m', cB Q0 (d + 8) 173 [.ref 177, .int (J p), .int (J w)] m = some (some (.int (J (possA A (clsL L) p 2 w))), m') ∧ FrR piK noI m m' := by
  have i0 := hI.1.1
  have hu := (hI.2.2.1 p hp.1 hp.2).1.2.2.1
  have hr : m.1 183 p.toNat = J (A.2.1 p 0 2) := (hV.1.2.2.1 p hp.1 hp.2).1.2.2.1
  have hS : ShN sh (upHd A p (upH (A.2.1 p) 0 2 (A.2.1 p 0 2))) m := by
    have e : upHd A p (upH (A.2.1 p) 0 2 (A.2.1 p 0 2)) = A := by
      unfold upHd
      have : (fun q => if q = p then upH (A.2.1 p) 0 2 (A.2.1 p 0 2) else A.2.1 q) = A.2.1 := by
        funext q
        by_cases e : q = p
        · rw [if_pos e, e]
          funext a j
          unfold upH
          by_cases e2 : a = 0 ∧ j = 2
          · rw [if_pos e2, e2.1, e2.2]
          · rw [if_neg e2]
        · rw [if_neg e]
      rw [this]
    rw [e]
    exact hV.1
  obtain ⟨m', e1, e2⟩ := L_173 (d := d) hI ht hp hw 100 99 0 (-5) (A.2.1 p 0 2) m hu hS hV.2 hW FrR.rf (fun _ _ => rfl) hr (by omega) (by omega)
  refine ⟨m', ?_, e2⟩
  rw [cB_eq]
  show rB Q0 173 (cB Q0 (d + 7)) 0 [some (.ref 177), some (.int (J p)), some (.int (J w))] m = _
  rw [T_173_0]
  simp (disch := omega) only [kk, lits, q0_J, q1_J, q2_J, cI_J, cT_J, cB_J, cZ_J, cS_J, c1_J, cA_J, J_clamp, u2_at, reduceIte, hr]
  exact e1
theorem ShN.hv182 {p u v : Int} (hp : 0 ≤ p) (h : ShN sh (upHd A p (upH (A.2.1 p) 0 1 u)) m) : ShN sh (upHd A p (upH (A.2.1 p) 0 1 v)) (up2 m.1 182 p.toNat (J v), m.2) := by
  obtain ⟨⟨a0, a1, a2, a3⟩, b, c, e⟩ := h
  have k0 : ∀ k, k ≠ 182 → ((up2 m.1 182 p.toNat (J v), m.2) : SM).1 k = m.1 k := fun k hk => u2_ne _ _ hk
  refine ⟨?_, fun k h0 h1 j h2 h3 => ?_, fun q h0 h1 => ?_, e.1, fun q h0 h1 => ?_⟩
  · rw [k0 177 (by omega)]
    exact ⟨a0, a1, a2, a3⟩
  · rw [k0 (177 + k) (by omega)]
    exact b k h0 h1 j h2 h3
  · obtain ⟨q0, q1, q2, q3⟩ := c q h0 h1
    unfold HeadN
    rw [k0 185 (by omega), k0 186 (by omega), k0 187 (by omega), k0 181 (by omega), k0 183 (by omega), k0 184 (by omega)]
    by_cases e1 : q = p
    · rw [e1] at q0 q1 q2 q3 ⊢
      rw [upHd_p] at q0 q1 q2 q3 ⊢
      refine ⟨?_, q1, q2, q3⟩
      obtain ⟨z0, z1, z2, z3⟩ := q0
      refine ⟨z0, ?_, z2, z3⟩
      show up2 m.1 182 p.toNat (J v) 182 p.toNat = _
      rw [u2_at, if_pos rfl]
      exact congrArg J (if_pos ⟨rfl, rfl⟩).symm
    · have e2 : ∀ H, (upHd A p H).2.1 q = A.2.1 q := fun H => if_neg e1
      rw [e2] at q0 q1 q2 q3 ⊢
      refine ⟨?_, q1, q2, q3⟩
      have k9 : ((up2 m.1 182 p.toNat (J v), m.2) : SM).1 182 q.toNat = m.1 182 q.toNat := by
        show up2 m.1 182 p.toNat (J v) 182 q.toNat = _
        rw [u2_at, if_neg (by omega)]
      rw [k9]
      exact q0
  · have := e.2 q h0 h1
    rw [this]
    by_cases e1 : q = p
    · rw [e1, upHd_p, upHd_p]
      rfl
    · have e2 : ∀ H, (upHd A p H).2.1 q = A.2.1 q := fun H => if_neg e1
      rw [e2, e2]
theorem L_174 (hI : ShI A) (ht : ThI (rainL 0 L, clsL L)) {p w : Int} (hp : 0 ≤ p ∧ p < A.1 0 0) (hw : -2147483648 ≤ w ∧ w ≤ 2147483647) : ∀ (N : Nat) (v c f u : Int) (m2 : SM), (0 ≤ u ∧ u ≤ 9) → ShN sh (upHd A p (upH (A.2.1 p) 0 1 u)) m2 → StgN h L m2 → RwN A m2 → FrR (heK 182) noI m m2 → (∀ j, j ≠ p.toNat → m2.1 182 j = m.1 182 j) → m.1 182 p.toNat = J (A.2.1 p 0 1) → v + 1 = N → N ≤ 10 → ∃ m', rB Q0 174 (cB Q0 (d + 7)) 18 [some (.ref 177), some (.int (J p)), some (.int (J w)), some (.int (J (A.2.1 p 0 1))), some (.int (J c)), some (.int (J f)), some (.int (J v))] m2 = some (some (.int (J (if w = 0 then (posF (okP A (clsL L) p 1) N v c f).1 else (posF (okP A (clsL L) p 1) N v c f).2))), m') ∧ FrR piK noI m m' := by
  have i0 := hI.1.1
  have hHI := hI.2.2.1 p hp.1 hp.2
  have hX : ∀ x, 0 ≤ x → x ≤ 9 → HeadI (upH (A.2.1 p) 0 1 x) := fun x g0 g1 => by
    obtain ⟨⟨a0, a1, a2, a3, a4⟩, b, c⟩ := hHI
    exact ⟨⟨a0, ⟨g0, g1⟩, a2, a3, a4⟩, b, c⟩
  intro N
  induction N with
  | zero =>
    intro v c f u m2 hu hS hT hW hF hj hj2 h0 h1
    refine ⟨(up2 m2.1 182 p.toNat (J (A.2.1 p 0 1)), m2.2), ?_, ⟨fun k g1 g2 => ?_, fun i hi => ?_, hF.2.2⟩⟩
    · rw [T_174_18]
      simp (disch := omega) only [kk, lits, q0_J, q1_J, q2_J, cI_J, cT_J, cB_J, cZ_J, cS_J, c1_J, cA_J, J_clamp, u2_at, reduceIte]
      rw [if_pos (by omega)]
      by_cases hz : w = 0
      · rw [if_pos hz, if_pos hz]
        rfl
      · rw [if_neg hz, if_neg hz]
        rfl
    · by_cases e : k = 182
      · subst e
        funext j
        show up2 m2.1 182 p.toNat (J (A.2.1 p 0 1)) 182 j = _
        rw [u2_at]
        by_cases e2 : j = p.toNat
        · rw [if_pos e2, e2, hj2]
        · rw [if_neg e2, hj j e2]
      · show up2 m2.1 182 p.toNat (J (A.2.1 p 0 1)) k = _
        rw [u2_ne _ _ e, hF.1 k (by unfold heK; unfold piK at g1; omega) g2]
    · show up2 m2.1 182 p.toNat (J (A.2.1 p 0 1)) 177 i = _
      rw [u2_ne _ _ (by omega), hF.2.1 i hi]
  | succ N ih =>
    intro v c f u m2 hu hS hT hW hF hj hj2 h0 h1
    have hS3 := ShN.hv182 (v := v) hp.1 hS
    have hF3 : FrR (fun k => k = 182) noI m2 (up2 m2.1 182 p.toNat (J v), m2.2) := FrR.put (K := fun k => k = 182) (KI := noI) (k := 182) rfl (by omega) _ _
    have hT3 : StgN h L (up2 m2.1 182 p.toNat (J v), m2.2) := hT.fr hF3 (fun k g1 g2 g3 => by omega) (by unfold noI; exact fun z => z)
    have hW3 : RwN A (up2 m2.1 182 p.toNat (J v), m2.2) := by
      have k0 : ∀ k, k ≠ 182 → ((up2 m2.1 182 p.toNat (J v), m2.2) : SM).1 k = m2.1 k := fun k hk => u2_ne _ _ hk
      unfold RwN
      refine ⟨⟨by rw [k0 177 (by omega)]; exact hW.1.1, fun k h0 h1 j h2 h3 => by rw [k0 (202 + k) (by omega)]; exact hW.1.2 k h0 h1 j h2 h3⟩, ?_⟩
      rw [k0 177 (by omega), k0 206 (by omega), k0 207 (by omega), k0 208 (by omega), k0 209 (by omega)]
      exact hW.2
    have hIv := upHd_I hI (p := p) (hX v (by omega) (by omega))
    obtain ⟨m4, e1, e2⟩ := S_171 (d := d) (A := upHd A p (upH (A.2.1 p) 0 1 v)) hIv ⟨hS3, hT3⟩ hW3 ht (p := p) (by omega)
    have hV4 := ViewN.frP (A := upHd A p (upH (A.2.1 p) 0 1 v)) ⟨hS3, hT3⟩ e2
    have hW4 : RwN A m4 := hW3.bk (BK.of e2)
    have hF4 : FrR (heK 182) noI m m4 := (hF.tr (hF3.mono (fun k hk => Or.inr hk) (fun _ z => z))).tr (e2.mono (fun k hk => Or.inl hk) (fun _ z => z))
    have hj4 : ∀ j, j ≠ p.toNat → m4.1 182 j = m.1 182 j := fun j hne => by
      rw [e2.1 182 (by unfold piK; omega) (by omega)]
      show up2 m2.1 182 p.toNat (J v) 182 j = _
      rw [u2_at, if_neg hne, hj j hne]
    have hin := wrongA_in (A := upHd A p (upH (A.2.1 p) 0 1 v)) (c := clsL L) (p := p) ((upHd A p (upH (A.2.1 p) 0 1 v)).2.2 0 0 0).toNat 0 (by omega)
    have hq : ((upHd A p (upH (A.2.1 p) 0 1 v)).2.2 0 0 0) ≤ 5 := hI.2.2.2.1.1.2
    change wrongA (upHd A p (upH (A.2.1 p) 0 1 v)) (clsL L) p = -5 ∨ 0 ≤ wrongA (upHd A p (upH (A.2.1 p) 0 1 v)) (clsL L) p ∧ wrongA (upHd A p (upH (A.2.1 p) 0 1 v)) (clsL L) p < _ at hin
    rw [posF_s]
    by_cases c1 : wrongA (upHd A p (upH (A.2.1 p) 0 1 v)) (clsL L) p = -5
    · obtain ⟨m', e5, e6⟩ := ih (v - 1) (c + 1) v v m4 (by omega) hV4.1 hV4.2 hW4 hF4 hj4 hj2 (by omega) (by omega)
      refine ⟨m', ?_, e6⟩
      rw [T_174_18]
      simp (disch := omega) only [kk, lits, q0_J, q1_J, q2_J, cI_J, cT_J, cB_J, cZ_J, cS_J, c1_J, cA_J, J_clamp, u2_at, reduceIte, e1]
      rw [if_neg (by omega), if_pos (by omega), if_pos (show okP A (clsL L) p 1 v = true from decide_eq_true c1)]
      exact e5
    · obtain ⟨m', e5, e6⟩ := ih (v - 1) c f v m4 (by omega) hV4.1 hV4.2 hW4 hF4 hj4 hj2 (by omega) (by omega)
      refine ⟨m', ?_, e6⟩
      rw [T_174_18]
      simp (disch := omega) only [kk, lits, q0_J, q1_J, q2_J, cI_J, cT_J, cB_J, cZ_J, cS_J, c1_J, cA_J, J_clamp, u2_at, reduceIte, e1]
      rw [if_neg (by omega), if_neg (by omega), if_neg (show ¬ okP A (clsL L) p 1 v = true from fun z => c1 (of_decide_eq_true z))]
      exact e5
theorem S_174 (hI : ShI A) (hV : ViewN sh h L A m) (hW : RwN A m) (ht : ThI (rainL 0 L, clsL L)) {p w : Int} (hp : 0 ≤ p ∧ p < A.1 0 0) (hw : -2147483648 ≤ w ∧ w ≤ 2147483647) : ∃ m', cB Q0 (d + 8) 174 [.ref 177, .int (J p), .int (J w)] m = some (some (.int (J (possA A (clsL L) p 1 w))), m') ∧ FrR piK noI m m' := by
  have i0 := hI.1.1
  have hu := (hI.2.2.1 p hp.1 hp.2).1.2.1
  have hr : m.1 182 p.toNat = J (A.2.1 p 0 1) := (hV.1.2.2.1 p hp.1 hp.2).1.2.1
  have hS : ShN sh (upHd A p (upH (A.2.1 p) 0 1 (A.2.1 p 0 1))) m := by
    have e : upHd A p (upH (A.2.1 p) 0 1 (A.2.1 p 0 1)) = A := by
      unfold upHd
      have : (fun q => if q = p then upH (A.2.1 p) 0 1 (A.2.1 p 0 1) else A.2.1 q) = A.2.1 := by
        funext q
        by_cases e : q = p
        · rw [if_pos e, e]
          funext a j
          unfold upH
          by_cases e2 : a = 0 ∧ j = 1
          · rw [if_pos e2, e2.1, e2.2]
          · rw [if_neg e2]
        · rw [if_neg e]
      rw [this]
    rw [e]
    exact hV.1
  obtain ⟨m', e1, e2⟩ := L_174 (d := d) hI ht hp hw 10 9 0 (-5) (A.2.1 p 0 1) m hu hS hV.2 hW FrR.rf (fun _ _ => rfl) hr (by omega) (by omega)
  refine ⟨m', ?_, e2⟩
  rw [cB_eq]
  show rB Q0 174 (cB Q0 (d + 7)) 0 [some (.ref 177), some (.int (J p)), some (.int (J w))] m = _
  rw [T_174_0]
  simp (disch := omega) only [kk, lits, q0_J, q1_J, q2_J, cI_J, cT_J, cB_J, cZ_J, cS_J, c1_J, cA_J, J_clamp, u2_at, reduceIte, hr]
  exact e1
end
