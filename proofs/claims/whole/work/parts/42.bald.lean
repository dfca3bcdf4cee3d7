/-! bald, a plan's row, the first row that is not so (class) -/
section
variable {s : Nat} {A : Shp} {m : SM} {d : Nat} {n : Int} {T : Int × Cls}
def baldF (rain p : Int) : Nat → Int → Shp → Int
  | 0, _, _ => -5
  | n + 1, k, A => if hairs (A.2.1 p) = 0 then k else baldF rain p n (k + 1) (nightSh A rain 2147483647)
theorem baldF_s (rain p : Int) (n : Nat) (k : Int) (A : Shp) : baldF rain p (n + 1) k A = if hairs (A.2.1 p) = 0 then k else baldF rain p n (k + 1) (nightSh A rain 2147483647) := rfl
theorem nightSh_h (A : Shp) (rain most : Int) : (nightSh A rain most).1 0 3 = A.1 0 3 ∧ (nightSh A rain most).1 0 0 = A.1 0 0 := by
  obtain ⟨c1, -⟩ := nightSh_c A rain most
  exact ⟨c1 0 3 (by omega), c1 0 0 (by omega)⟩
theorem Stg.sh {n : Int} {T : Int × Cls} {A B : Shp} {m : SM} (h : Stg n T A m) (e : B.1 0 3 = A.1 0 3) : Stg n T B m := by
  refine ⟨h.1, ?_, h.2.2⟩
  rw [e]
  exact h.2.1
theorem View.night (hs : isS s) (hI : ShI A) (hV : View s n T A m) {most : Int} (hm : 9999 ≤ most ∧ most ≤ 2147483647) (g2 : A.1 0 2 ≤ most) (g3 : A.1 0 1 + 1 ≤ 20000) (g4 : A.1 0 2 + 48 ≤ 1000000) : ∃ m', cB Q0 (d + 4) 97 [.ref 0, .ref s, .int (J 1), .int (J most)] m = some (none, m') ∧ View s n T (nightSh A T.1 most) m' ∧ ShI (nightSh A T.1 most) ∧ Fr (sK s) m m' := by
  have i3 := hI.1.2.2.2
  obtain ⟨m', e1, e2, e3⟩ := S_97 (d := d) hs hV.1 hI hV.1.1.2.2.2 hV.2.1.1 i3 hV.2.1.2 hV.2.2.1.1 hV.2.2.2.1 hm 1 (by omega) g2 (by omega) (by omega)
  exact ⟨m', e1, ⟨e2, (hV.2.fr e3 fun k h1 h2 => by unfold sK at h2; rcases hs with e | e | e <;> omega).sh (nightSh_h A T.1 most).1⟩, nightSh_I hI g2 g3 g4, e3⟩
theorem L_98 {p : Int} : ∀ (N : Nat) (k : Int) (A : Shp) (m : SM), ShI A → View 83 n T A m → (0 ≤ p ∧ p < A.1 0 0) → 0 ≤ k → k + N = 61 → A.1 0 1 + N ≤ 20000 → A.1 0 2 + 48 * N ≤ 1000000 → ∃ m', rB Q0 98 (cB Q0 (d + 4)) 13 [some (.ref 0), some (.int (J p)), some (.int (J k))] m = some (some (.int (J (baldF T.1 p N k A))), m') ∧ Fr (sK 83) m m' := by
  have hs : isS 83 := Or.inr (Or.inr rfl)
  intro N
  induction N with
  | zero =>
    intro k A m hI hV hp h0 h1 h2 h3
    refine ⟨m, ?_, Fr.rf⟩
    rw [T_98_13]
    simp (disch := omega) only [kk, lits, q0_J, q1_J, q2_J, cI_J, cT_J, cB_J, cZ_J, cS_J, c1_J, cA_J, J_clamp, u2_at, reduceIte]
    rw [if_pos (by omega)]
    rfl
  | succ N ih =>
    intro k A m hI hV hp h0 h1 h2 h3
    have i0 := hI.1.1
    have i2 := hI.1.2.2.1
    have hF := hd_F hs hp.1 (by omega)
    have hgp := hd_g hs hp.1 (show p < 6 by omega)
    have hgp : GRt 87 p.toNat = some (hd 83 p) := hgp
    have e8 := S_8 hF (hV.1.2.2.1 p hp.1 hp.2) (hI.2.2.1 p hp.1 hp.2) (d + 3)
    have h8 := hairs_in (A.2.1 p)
    by_cases hz : hairs (A.2.1 p) = 0
    · refine ⟨m, ?_, Fr.rf⟩
      rw [T_98_13]
      simp (disch := omega) only [kk, lits, q0_J, q1_J, q2_J, cI_J, cT_J, cB_J, cZ_J, cS_J, c1_J, cA_J, J_clamp, u2_at, reduceIte, hgp, hF.1.1, e8]
      rw [if_neg (by omega), if_pos hz, baldF_s, if_pos hz]
    · obtain ⟨m1, e1, e2, e3, e4⟩ := View.night (d := d) (most := 2147483647) hs hI hV (by omega) (by omega) (by omega) (by omega)
      obtain ⟨c1, c2, c3, c4⟩ := nightSh_c A T.1 2147483647
      have hf := fallC_in (A := A) (b := byN T.1 (A.1 0 1)) (most := 2147483647) (A.1 0 0).toNat 0 (A.1 0 2) (by omega) (by omega)
      obtain ⟨m', e5, e6⟩ := ih (k + 1) _ m1 e3 e2 (by rw [(nightSh_h A T.1 2147483647).2]; exact hp) (by omega) (by omega) (by rw [c2]; omega) (by rw [c3]; omega)
      refine ⟨m', ?_, e4.tr e6⟩
      rw [T_98_13]
      simp (disch := omega) only [kk, lits, q0_J, q1_J, q2_J, cI_J, cT_J, cB_J, cZ_J, cS_J, c1_J, cA_J, J_clamp, u2_at, reduceIte, hgp, hF.1.1, e8, e1]
      rw [if_neg (by omega), if_neg hz, e5, baldF_s, if_neg hz]
def baldA (A : Shp) (rain p : Int) : Int := baldF rain p 61 0 A
theorem S_98 (hI : ShI A) (hV : View 1 n T A m) {p : Int} (hp : 0 ≤ p ∧ p < A.1 0 0) (h1 : A.1 0 1 ≤ 9999) (h2 : A.1 0 2 ≤ 9999) : ∃ m', cB Q0 (d + 5) 98 [.ref 0, .int (J p)] m = some (some (.int (J (baldA A T.1 p))), m') ∧ Fr (sK 83) m m' := by
  obtain ⟨m1, e1, e2, e3⟩ := S_24 (d := d + 2) (s := 83) (g := 1) (Or.inr (Or.inr rfl)) (Or.inl rfl) (by omega) hI hV.1
  have hV1 : View 83 n T A m1 := ⟨e2, hV.2.fr e3 fun k h1 h2 => by unfold sK at h2; omega⟩
  obtain ⟨m', e4, e5⟩ := L_98 (d := d) (p := p) 61 0 A m1 hI hV1 hp (by omega) (by omega) (by omega) (by omega)
  refine ⟨m', ?_, e3.tr e5⟩
  rw [cB_eq]
  show rB Q0 98 (cB Q0 (d + 4)) 0 [some (.ref 0), some (.int (J p))] m = _
  rw [T_98_0]
  simp (disch := omega) only [kk, lits, q0_J, q1_J, q2_J, cI_J, cT_J, cB_J, cZ_J, cS_J, c1_J, cA_J, J_clamp, u2_at, reduceIte, e1]
  exact e4
/-- a row of the plan goes -/
def goRow (rain : Int) (A : Shp) (w p : Int) : Shp := if w = 0 then nightSh A rain 2147483647 else if 0 ≤ p ∧ p ≤ A.1 0 0 - 1 then (if w = 1 then upHd A p (shearC (A.2.1 p) 0) else upHd A p (upH (A.2.1 p) 0 4 (if w = 2 then 1 else 0))) else A
theorem upHd_I (hI : ShI A) {p : Int} {H : Nat → Int → Int} (hH : HeadI H) : ShI (upHd A p H) := by
  obtain ⟨a, b, c, e⟩ := hI
  refine ⟨a, b, fun q h0 h1 => ?_, e⟩
  show HeadI (if q = p then H else A.2.1 q)
  split
  · exact hH
  · exact c q h0 h1
theorem shear_I {H : Nat → Int → Int} (hI : HeadI H) : HeadI (shearC H 0) := by
  refine ⟨by simpa [shearC] using hI.1, fun j h0 h1 => by simpa [shearC] using hI.2.1 j h0 h1, fun j h0 h1 => ?_⟩
  left
  simp [shearC, h0]
theorem shelf_I {H : Nat → Int → Int} (hI : HeadI H) {v : Int} (hv : v = 0 ∨ v = 1) : HeadI (upH H 0 4 v) := by
  refine ⟨?_, fun j h0 h1 => by simpa [upH] using hI.2.1 j h0 h1, fun j h0 h1 => by simpa [upH] using hI.2.2 j h0 h1⟩
  have := hI.1
  simp [upH]
  omega
theorem S_99 (hI : ShI A) (hV : View 83 n T A m) {w p : Int} (hw : 0 ≤ w ∧ w ≤ 3) (hp1 : -2147483648 ≤ p) (hp2 : p ≤ 2147483647) (g3 : A.1 0 1 + 1 ≤ 20000) (g4 : A.1 0 2 + 48 ≤ 1000000) : ∃ m', cB Q0 (d + 5) 99 [.ref 0, .int (J w), .int (J p)] m = some (none, m') ∧ View 83 n T (goRow T.1 A w p) m' ∧ ShI (goRow T.1 A w p) ∧ Fr (sK 83) m m' := by
  have hs : isS 83 := Or.inr (Or.inr rfl)
  have i0 := hI.1.1
  have i2 := hI.1.2.2.1
  have a0 := hV.1.1.1
  have hst : ∀ {m' : SM} (B : Shp), Fr (sK 83) m m' → B.1 0 3 = A.1 0 3 → Stg n T B m' := fun B hf e => (hV.2.fr hf fun k h1 h2 => by unfold sK at h2; omega).sh e
  by_cases h0 : w = 0
  · obtain ⟨m1, e1, e2, e3, e4⟩ := View.night (d := d) (most := 2147483647) hs hI hV (by omega) (by omega) (by omega) (by omega)
    refine ⟨m1, ?_, by unfold goRow; rw [if_pos h0]; exact e2, by unfold goRow; rw [if_pos h0]; exact e3, e4⟩
    rw [cB_eq]
    show rB Q0 99 (cB Q0 (d + 4)) 0 [some (.ref 0), some (.int (J w)), some (.int (J p))] m = _
    rw [T_99_0]
    simp (disch := omega) only [kk, lits, q0_J, q1_J, q2_J, cI_J, cT_J, cB_J, cZ_J, cS_J, c1_J, cA_J, J_clamp, u2_at, reduceIte, e1]
    rw [if_pos h0]
  · by_cases hp : 0 ≤ p ∧ p ≤ A.1 0 0 - 1
    · have hF := hd_F hs hp.1 (by omega)
      have hgp := hd_g hs hp.1 (show p < 6 by omega)
      have hgp : GRt 87 p.toNat = some (hd 83 p) := hgp
      have hH := hV.1.2.2.1 p hp.1 (by omega)
      have hHI := hI.2.2.1 p hp.1 (by omega)
      by_cases h1 : w = 1
      · obtain ⟨m1, e1, e2, e3⟩ := S_6 (d := d + 2) hF hH
        have k1 : Fr (sK 83) m m1 := e3.mono fun k hk => sK_hd hp.1 (by omega) hk
        refine ⟨m1, ?_, ?_, ?_, k1⟩
        · rw [cB_eq]
          show rB Q0 99 (cB Q0 (d + 4)) 0 [some (.ref 0), some (.int (J w)), some (.int (J p))] m = _
          rw [T_99_0]
          simp (disch := omega) only [kk, lits, q0_J, q1_J, q2_J, cI_J, cT_J, cB_J, cZ_J, cS_J, c1_J, cA_J, J_clamp, u2_at, reduceIte, a0, S_85, hgp, hF.1.1, e1]
          rw [if_neg h0, if_pos hp, if_pos h1]
        · unfold goRow
          rw [if_neg h0, if_pos hp, if_pos h1]
          exact ⟨hV.1.hdp i0.2 hp.1 e3 e2, hst _ k1 rfl⟩
        · unfold goRow
          rw [if_neg h0, if_pos hp, if_pos h1]
          exact upHd_I hI (shear_I hHI)
      · have key : ∀ v : Int, (v = 0 ∨ v = 1) → View 83 n T (upHd A p (upH (A.2.1 p) 0 4 v)) (up2 m.1 (hd 83 p) 4 (J v), m.2) ∧ ShI (upHd A p (upH (A.2.1 p) 0 4 v)) ∧ Fr (sK 83) m (up2 m.1 (hd 83 p) 4 (J v), m.2) := by
          intro v hv
          have k0 : Fr (hK (hd 83 p)) m (up2 m.1 (hd 83 p) 4 (J v), m.2) := Fr.put (by unfold hK; omega) _ _
          have k1 : Fr (sK 83) m (up2 m.1 (hd 83 p) 4 (J v), m.2) := k0.mono fun k hk => sK_hd hp.1 (by omega) hk
          exact ⟨⟨hV.1.hdp i0.2 hp.1 k0 (hH.p0 (i := 4) (j := 4) rfl (by omega) v), hst _ k1 rfl⟩, upHd_I hI (shelf_I hHI hv), k1⟩
        by_cases h2 : w = 2
        · obtain ⟨q1, q2, q3⟩ := key 1 (Or.inr rfl)
          refine ⟨_, ?_, ?_, ?_, q3⟩
          · rw [cB_eq]
            show rB Q0 99 (cB Q0 (d + 4)) 0 [some (.ref 0), some (.int (J w)), some (.int (J p))] m = _
            rw [T_99_0]
            simp (disch := omega) only [kk, lits, q0_J, q1_J, q2_J, cI_J, cT_J, cB_J, cZ_J, cS_J, c1_J, cA_J, J_clamp, u2_at, reduceIte, a0, S_85, hgp, hF.1.1]
            rw [if_neg h0, if_pos hp, if_neg h1, if_pos h2]
          · unfold goRow
            rw [if_neg h0, if_pos hp, if_neg h1, if_pos h2]
            exact q1
          · unfold goRow
            rw [if_neg h0, if_pos hp, if_neg h1, if_pos h2]
            exact q2
        · obtain ⟨q1, q2, q3⟩ := key 0 (Or.inl rfl)
          refine ⟨_, ?_, ?_, ?_, q3⟩
          · rw [cB_eq]
            show rB Q0 99 (cB Q0 (d + 4)) 0 [some (.ref 0), some (.int (J w)), some (.int (J p))] m = _
            rw [T_99_0]
            simp (disch := omega) only [kk, lits, q0_J, q1_J, q2_J, cI_J, cT_J, cB_J, cZ_J, cS_J, c1_J, cA_J, J_clamp, u2_at, reduceIte, a0, S_85, hgp, hF.1.1]
            rw [if_neg h0, if_pos hp, if_neg h1, if_neg h2]
          · unfold goRow
            rw [if_neg h0, if_pos hp, if_neg h1, if_neg h2]
            exact q1
          · unfold goRow
            rw [if_neg h0, if_pos hp, if_neg h1, if_neg h2]
            exact q2
    · refine ⟨m, ?_, ?_, ?_, Fr.rf⟩
      · rw [cB_eq]
        show rB Q0 99 (cB Q0 (d + 4)) 0 [some (.ref 0), some (.int (J w)), some (.int (J p))] m = _
        rw [T_99_0]
        simp (disch := omega) only [kk, lits, q0_J, q1_J, q2_J, cI_J, cT_J, cB_J, cZ_J, cS_J, c1_J, cA_J, J_clamp, u2_at, reduceIte, a0, S_85]
        rw [if_neg h0, if_neg hp]
      · unfold goRow
        rw [if_neg h0, if_neg hp]
        exact hV
      · unfold goRow
        rw [if_neg h0, if_neg hp]
        exact hI
/-- the first row of SEEN, from one on, that is not so -/
def wrongF (A : Shp) (c : Cls) (p : Int) : Nat → Int → Int
  | 0, _ => -5
  | n + 1, i => if (p = -1 ∨ A.2.2 0 1 i = p) ∧ ¬ offA A c (A.2.2 0 1 i) (A.2.2 0 2 i) (-1) = A.2.2 0 3 i then i else wrongF A c p n (i + 1)
theorem wrongF_s (A : Shp) (c : Cls) (p : Int) (n : Nat) (i : Int) : wrongF A c p (n + 1) i = if (p = -1 ∨ A.2.2 0 1 i = p) ∧ ¬ offA A c (A.2.2 0 1 i) (A.2.2 0 2 i) (-1) = A.2.2 0 3 i then i else wrongF A c p n (i + 1) := rfl
def wrongA (A : Shp) (c : Cls) (p : Int) : Int := wrongF A c p (A.2.2 0 0 0).toNat 0
theorem offH_bd {H : Nat → Int → Int} (hI : HeadI H) {t : Int → Int} (ht : ∀ j : Int, 0 ≤ j → j < 8 → -100000 ≤ t j ∧ t j ≤ 100000) (w : Int) : 0 ≤ offH H t w ∧ offH H t w ≤ 900000 := by
  have h1 := tog_bd hI ht w
  have h2 := asOft_bd hI w
  have h3 := ab_nn (tog H t w - asOft H w)
  have h4 := ab_bd (x := tog H t w - asOft H w) (B := 900000) (by omega)
  unfold offH
  omega
theorem offA_bd (hI : ShI A) (hT : ThI T) {p l w : Int} (hp : 0 ≤ p ∧ p < A.1 0 0) : 0 ≤ offA A T.2 p l w ∧ offA A T.2 p l w ≤ 900000 :=
  offH_bd (hI.2.2.1 p hp.1 hp.2) (toneA_bd8 hI hT hp) w
theorem L_102 (hs : isS s) (hI : ShI A) {p : Int} (hp : -1 ≤ p ∧ p ≤ 6) : ∀ (N : Nat) (i : Int) (m : SM), View s n T A m → 0 ≤ i → i + N = A.2.2 0 0 0 → ∃ m', rB Q0 102 (cB Q0 (d + 5)) 8 [some (.ref 0), some (.ref s), some (.int (J p)), some (.ref (s + 5)), some (.int (J i))] m = some (some (.int (J (wrongF A T.2 p N i))), m') ∧ Fr kT m m' := by
  have w0 := (shF hs).2.2.1
  have q := hI.2.2.2.1
  obtain ⟨v1, ⟨v2, v3, v4⟩, v5, v6, v7⟩ := w0
  intro N
  induction N with
  | zero =>
    intro i m hV h0 h1
    have r0 : m.1 (s + 5) 0 = J (A.2.2 0 0 0) := (hV.1.2.2.2 0 (by omega)).1
    refine ⟨m, ?_, Fr.rf⟩
    rw [T_102_8]
    simp (disch := omega) only [kk, lits, q0_J, q1_J, q2_J, cI_J, cT_J, cB_J, cZ_J, cS_J, c1_J, cA_J, J_clamp, u2_at, reduceIte, v1, r0]
    rw [if_pos (by omega)]
    rfl
  | succ N ih =>
    intro i m hV h0 h1
    have hrow := hV.1.2.2.2 0 (by omega)
    have r0 : m.1 (s + 5) 0 = J (A.2.2 0 0 0) := hrow.1
    have r1 : m.1 (s + 5 + 1) i.toNat = J (A.2.2 0 1 i) := hrow.2 1 (by omega) (by omega) i h0 (by omega)
    have r2 : m.1 (s + 5 + 2) i.toNat = J (A.2.2 0 2 i) := hrow.2 2 (by omega) (by omega) i h0 (by omega)
    have qi := q.2 i h0 (by omega)
    obtain ⟨m1, e1, e2⟩ := S_95 (d := d) (p := A.2.2 0 1 i) (l := A.2.2 0 2 i) hs hI hV qi.1 qi.2.1
    have hV1 := hV.frT hs hI e2
    have r3 : m1.1 (s + 5 + 3) i.toNat = J (A.2.2 0 3 i) := (hV1.1.2.2.2 0 (by omega)).2 3 (by omega) (by omega) i h0 (by omega)
    have hob := offA_bd hI hV.2.2.2 (l := A.2.2 0 2 i) (w := -1) qi.1
    have i0 := hI.1.1
    by_cases hc : p = -1 ∨ A.2.2 0 1 i = p
    · by_cases ho : offA A T.2 (A.2.2 0 1 i) (A.2.2 0 2 i) (-1) = A.2.2 0 3 i
      · obtain ⟨m', e3, e4⟩ := ih (i + 1) m1 hV1 (by omega) (by omega)
        refine ⟨m', ?_, e2.tr e4⟩
        rw [T_102_8]
        simp (disch := omega) only [kk, lits, q0_J, q1_J, q2_J, cI_J, cT_J, cB_J, cZ_J, cS_J, c1_J, cA_J, J_clamp, u2_at, reduceIte, v1, v2, v3, v4, v5, v6, v7, r0, r1, r2, e1, r3]
        rw [wrongF_s, if_neg (fun z : (p = -1 ∨ A.2.2 0 1 i = p) ∧ ¬ offA A T.2 (A.2.2 0 1 i) (A.2.2 0 2 i) (-1) = A.2.2 0 3 i => z.2 ho), if_neg (by omega)]
        by_cases hp1 : p = -1
        · rw [if_pos hp1, if_neg (by omega), if_pos ho, e3]
        · rw [if_neg hp1, if_pos (hc.resolve_left hp1), if_neg (by omega), if_pos ho, e3]
      · refine ⟨m1, ?_, e2⟩
        rw [T_102_8]
        simp (disch := omega) only [kk, lits, q0_J, q1_J, q2_J, cI_J, cT_J, cB_J, cZ_J, cS_J, c1_J, cA_J, J_clamp, u2_at, reduceIte, v1, v2, v3, v4, v5, v6, v7, r0, r1, r2, e1, r3]
        rw [wrongF_s, if_pos (And.intro hc ho), if_neg (by omega)]
        by_cases hp1 : p = -1
        · rw [if_pos hp1, if_neg (by omega), if_neg ho]
        · rw [if_neg hp1, if_pos (hc.resolve_left hp1), if_neg (by omega), if_neg ho]
    · obtain ⟨m', e3, e4⟩ := ih (i + 1) m hV (by omega) (by omega)
      refine ⟨m', ?_, e4⟩
      rw [T_102_8]
      simp (disch := omega) only [kk, lits, q0_J, q1_J, q2_J, cI_J, cT_J, cB_J, cZ_J, cS_J, c1_J, cA_J, J_clamp, u2_at, reduceIte, v1, v2, v3, v4, v5, v6, v7, r0, r1, r2, e1, r3]
      rw [wrongF_s, if_neg (fun z : (p = -1 ∨ A.2.2 0 1 i = p) ∧ _ => hc z.1), if_neg (by omega), if_neg (fun z => hc (Or.inl z)), if_neg (fun z => hc (Or.inr z)), e3]
theorem S_102 (hs : isS s) (hI : ShI A) (hV : View s n T A m) {p : Int} (hp : -1 ≤ p ∧ p ≤ 6) : ∃ m', cB Q0 (d + 6) 102 [.ref 0, .ref s, .int (J p)] m = some (some (.int (J (wrongA A T.2 p))), m') ∧ Fr kT m m' := by
  have q := hI.2.2.2.1.1
  obtain ⟨⟨f1, -, -, -, -, f5, -⟩, -⟩ := shF hs
  obtain ⟨m', e1, e2⟩ := L_102 (d := d) hs hI hp (A.2.2 0 0 0).toNat 0 m hV (by omega) (by omega)
  refine ⟨m', ?_, e2⟩
  rw [cB_eq]
  show rB Q0 102 (cB Q0 (d + 5)) 0 [some (.ref 0), some (.ref s), some (.int (J p))] m = _
  rw [T_102_0]
  simp (disch := omega) only [kk, lits, q0_J, q1_J, q2_J, cI_J, cT_J, cB_J, cZ_J, cS_J, c1_J, cA_J, J_clamp, u2_at, reduceIte, f1, f5]
  exact e1
end
