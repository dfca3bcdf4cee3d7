/-! THE REFERENCE: what is asked changes nothing; bald, what is not so -/
theorem fallC_most {A : Shp} {b M1 M2 : Int} : ∀ (n : Nat) (c f : Int), f + 8 * n < M1 → f + 8 * n < M2 → fallC A b M1 n c f = fallC A b M2 n c f
  | 0, _, _, _, _ => rfl
  | n + 1, c, f, h1, h2 => by
    have hl := lost_in (A.2.1 c) b
    have e : ∀ M, fallC A b M (n + 1) c f = fallC A b M n (c + 1) (if A.2.1 c 0 4 = 0 then fallS M f (lost (A.2.1 c) b) else f) := fun _ => rfl
    rw [e, e]
    by_cases hz : A.2.1 c 0 4 = 0
    · have e1 : fallS M1 f (lost (A.2.1 c) b) = f + lost (A.2.1 c) b := by unfold fallS; rw [if_pos (by omega)]
      have e2 : fallS M2 f (lost (A.2.1 c) b) = f + lost (A.2.1 c) b := by unfold fallS; rw [if_pos (by omega)]
      rw [if_pos hz, if_pos hz, e1, e2]
      exact fallC_most n (c + 1) _ (by omega) (by omega)
    · rw [if_neg hz, if_neg hz]
      exact fallC_most n (c + 1) f (by omega) (by omega)
theorem nightSh_most {A : Shp} {rain M1 M2 : Int} (h6 : A.1 0 0 ≤ 6) (h1 : A.1 0 2 + 48 < M1) (h2 : A.1 0 2 + 48 < M2) : nightSh A rain M1 = nightSh A rain M2 := by
  unfold nightSh nightC
  rw [fallC_most (M1 := M1) (M2 := M2) _ _ _ (by omega) (by omega)]
theorem nightsSh_most {rain M1 M2 : Int} : ∀ (n : Nat) (A : Shp), ShI A → A.1 0 1 + n ≤ 20000 → A.1 0 2 + 48 * n ≤ 1000000 → 1000000 < M1 → 1000000 < M2 → nightsSh rain M1 n A = nightsSh rain M2 n A
  | 0, _, _, _, _, _, _ => rfl
  | n + 1, A, hI, h1, h2, h3, h4 => by
    have i0 := hI.1.1
    have i2 := hI.1.2.2.1
    have e : ∀ M, nightsSh rain M (n + 1) A = nightsSh rain M n (nightSh A rain M) := fun _ => rfl
    rw [e, e, nightSh_most (M1 := M1) (M2 := M2) i0.2 (by omega) (by omega)]
    obtain ⟨c1, c2, c3, c4⟩ := nightSh_c A rain M2
    have hf := fallC_in (A := A) (b := byN rain (A.1 0 1)) (most := M2) (A.1 0 0).toNat 0 (A.1 0 2) (by omega) (by omega)
    exact nightsSh_most n _ (nightSh_I hI (by omega) (by omega) (by omega)) (by rw [c2]; omega) (by rw [c3]; omega) h3 h4
/-- only what is kept aside has changed -/
def BK (m m' : SM) : Prop := (∀ k, k ≠ 177 → k ≠ 187 → k ≠ 197 → k ≠ 198 → ¬ (199 ≤ k ∧ k ≤ 202) → m'.1 k = m.1 k) ∧ (∀ i, ¬ (33 ≤ i ∧ i ≤ 35) → m'.1 177 i = m.1 177 i) ∧ (∀ i : Int, 0 ≤ i → i < 48 → m'.1 187 i.toNat = m.1 187 i.toNat) ∧ m'.2 = m.2
theorem BK.rf {m : SM} : BK m m := ⟨fun _ _ _ _ _ _ => rfl, fun _ _ => rfl, fun _ _ _ => rfl, rfl⟩
theorem BK.tr {a b c : SM} (h1 : BK a b) (h2 : BK b c) : BK a c := ⟨fun k z1 z2 z3 z4 z5 => (h2.1 k z1 z2 z3 z4 z5).trans (h1.1 k z1 z2 z3 z4 z5), fun i hi => (h2.2.1 i hi).trans (h1.2.1 i hi), fun i h0 h3 => (h2.2.2.1 i h0 h3).trans (h1.2.2.1 i h0 h3), h2.2.2.2.trans h1.2.2.2⟩
theorem BK.of {m m' : SM} (h : FrR piK (fun _ => False) m m') : BK m m' := ⟨fun k z1 z2 z3 z4 z5 => h.1 k z3 z1, fun i _ => h.2.1 i (fun z => z), fun i _ _ => by rw [h.1 187 (by unfold piK; omega) (by omega)], h.2.2⟩
theorem ShN.bk {sh : Int} {A : Shp} {m m' : SM} (h : ShN sh A m) (h6 : A.1 0 0 ≤ 6) (hB : BK m m') : ShN sh A m' := by
  obtain ⟨⟨a0, a1, a2, a3⟩, b, c, e⟩ := h
  refine ⟨⟨by rw [hB.2.1 0 (by omega)]; exact a0, by rw [hB.2.1 1 (by omega)]; exact a1, by rw [hB.2.1 2 (by omega)]; exact a2, by rw [hB.2.1 3 (by omega)]; exact a3⟩, fun k h0 h1 j h2 h3 => by rw [hB.1 (177 + k) (by omega) (by omega) (by omega) (by omega) (by omega)]; exact b k h0 h1 j h2 h3, fun p h0 h1 => ?_, e⟩
  obtain ⟨q0, q1, q2, q3⟩ := c p h0 h1
  have k0 : ∀ k, 181 ≤ k → k ≤ 186 → m'.1 k = m.1 k := fun k g0 g1 => hB.1 k (by omega) (by omega) (by omega) (by omega) (by omega)
  refine ⟨?_, fun j g0 g1 => by rw [k0 185 (by omega) (by omega)]; exact q1 j g0 g1, fun j g0 g1 g2 => by rw [k0 186 (by omega) (by omega)]; exact q2 j g0 g1 g2, fun j g0 g1 => by rw [hB.2.2.1 _ (by omega) (by omega)]; exact q3 j g0 g1⟩
  rw [k0 181 (by omega) (by omega), k0 182 (by omega) (by omega), k0 183 (by omega) (by omega), k0 184 (by omega) (by omega)]
  exact q0
theorem StgN.bk {h : Int} {L : Cla} {m m' : SM} (hS : StgN h L m) (hB : BK m m') : StgN h L m' := by
  obtain ⟨a, b, c⟩ := hS
  refine ⟨by rw [hB.2.1 15 (by omega)]; exact a, ?_, c⟩
  rcases b with b | ⟨b1, b2, b3, b4⟩
  · exact Or.inl b
  · have k0 : ∀ k, 189 ≤ k → k ≤ 194 → m'.1 k = m.1 k := fun k g0 g1 => hB.1 k (by omega) (by omega) (by omega) (by omega) (by omega)
    exact Or.inr ⟨b1, by rw [k0 189 (by omega) (by omega)]; exact b2, b3, CluAt.fr (k0 190 (by omega) (by omega)) (k0 191 (by omega) (by omega)) (k0 192 (by omega) (by omega)) (k0 193 (by omega) (by omega)) (k0 194 (by omega) (by omega)) _ _ b4⟩
/-- rows told by hand, in the reference -/
def RwN (A : Shp) (m : SM) : Prop :=
  (m.1 177 41 = J (A.2.2 0 0 0) ∧ ∀ k : Nat, 0 < k → k ≤ 3 → ∀ j : Int, 0 ≤ j → j < A.2.2 0 0 0 → m.1 (202 + k) j.toNat = J (A.2.2 0 k j)) ∧
  (m.1 177 45 = J (A.2.2 1 0 0) ∧ ∀ j : Int, 0 ≤ j → j < A.2.2 1 0 0 → m.1 206 j.toNat = J (A.2.2 1 1 j) ∧ m.1 207 j.toNat = J (if A.2.2 1 1 j = 0 then 0 else A.2.2 1 2 j)) ∧
  (m.1 177 46 = J (A.2.2 2 0 0) ∧ ∀ j : Int, 0 ≤ j → j < A.2.2 2 0 0 → m.1 208 j.toNat = J (A.2.2 2 1 j) ∧ m.1 209 j.toNat = J (A.2.2 2 2 j))
theorem RwN.bk {A : Shp} {m m' : SM} (h : RwN A m) (hB : BK m m') : RwN A m' := by
  have k0 : ∀ k, 203 ≤ k → m'.1 k = m.1 k := fun k g0 => hB.1 k (by omega) (by omega) (by omega) (by omega) (by omega)
  refine ⟨⟨by rw [hB.2.1 41 (by omega)]; exact h.1.1, fun k h0 h1 j h2 h3 => by rw [k0 (202 + k) (by omega)]; exact h.1.2 k h0 h1 j h2 h3⟩, ⟨by rw [hB.2.1 45 (by omega)]; exact h.2.1.1, fun j h2 h3 => ?_⟩, ⟨by rw [hB.2.1 46 (by omega)]; exact h.2.2.1, fun j h2 h3 => ?_⟩⟩
  · rw [k0 206 (by omega), k0 207 (by omega)]
    exact h.2.1.2 j h2 h3
  · rw [k0 208 (by omega), k0 209 (by omega)]
    exact h.2.2.2 j h2 h3
def qK : Nat → Prop := fun k => k = 187 ∨ k = 197
def qI : Nat → Prop := fun i => i = 1 ∨ i = 2 ∨ i = 3
section
variable {m : SM} {d : Nat} {A : Shp} {sh h : Int} {L : Cla}
theorem back {m1 m2 : SM} {f n : Int} (h1 : m.1 177 1 = J sh) (h2 : m.1 177 2 = J f) (h3 : m.1 177 3 = J n) (h32 : m.1 177 32 = J 9999) (k1 : FrR svK svI m m1) (hk : Kept sh f n (m.1 187) m1) (k2 : FrR qK qI m1 m2) : ∃ m3, cB Q0 (d + 1) 159 [.ref 177] m2 = some (none, m3) ∧ BK m m3 := by
  have hk2 : Kept sh f n (m.1 187) m2 := by
    obtain ⟨a, b, c, e⟩ := hk
    refine ⟨by rw [k2.2.1 33 (by unfold qI; omega)]; exact a, by rw [k2.2.1 34 (by unfold qI; omega)]; exact b, by rw [k2.2.1 35 (by unfold qI; omega)]; exact c, fun i hi => ?_⟩
    rw [k2.1 198 (by unfold qK; omega) (by omega)]
    exact e i hi
  obtain ⟨m3, q1, q2, q3, q4, q5, q6, q7⟩ := S_159 (d := d) hk2
  refine ⟨m3, q1, ⟨fun k z1 z2 z3 z4 z5 => ?_, fun i hi => ?_, q6, q7.2.2.trans (k2.2.2.trans k1.2.2)⟩⟩
  · rw [q7.1 k (by unfold tiK; omega) z1, k2.1 k (by unfold qK; omega) z1, k1.1 k (by unfold svK; omega) z1]
  · by_cases e1 : i = 1
    · subst e1; rw [q2, h1]
    · by_cases e2 : i = 2
      · subst e2; rw [q3, h2]
      · by_cases e3 : i = 3
        · subst e3; rw [q4, h3]
        · by_cases e4 : i = 32
          · subst e4; rw [q5, h32]
          · rw [q7.2.1 i (by omega), k2.2.1 i (by unfold qI; omega), k1.2.1 i (by unfold svI; omega)]
theorem L_160 {m1 : SM} {f n : Int} (h1 : m.1 177 1 = J sh) (h2 : m.1 177 2 = J f) (h3 : m.1 177 3 = J n) (h32 : m.1 177 32 = J 9999) (k1 : FrR svK svI m m1) (hk : Kept sh f n (m.1 187) m1) {p : Int} : ∀ (N : Nat) (k : Int) (A : Shp) (m2 : SM), FrR qK qI m1 m2 → ShI A → ShN sh A m2 → StgN h L m2 → m2.1 177 32 = J 2000000000 → (0 ≤ p ∧ p < A.1 0 0) → 0 ≤ k → k + N = 61 → A.1 0 1 + N ≤ 20000 → A.1 0 2 + 48 * N ≤ 1000000 → ∃ m3, rB Q0 160 (cB Q0 (d + 3)) 6 [some (.ref 177), some (.int (J p)), some (.int (J k))] m2 = some (some (.int (J (baldF (rainL 0 L) p N k A))), m3) ∧ BK m m3 := by
  intro N
  induction N with
  | zero =>
    intro k A m2 k2 hI hR hS hm hp h4 h5 h6 h7
    obtain ⟨m3, q1, q2⟩ := back (d := d + 2) h1 h2 h3 h32 k1 hk k2
    refine ⟨m3, ?_, q2⟩
    rw [T_160_6]
    simp (disch := omega) only [kk, lits, q0_J, q1_J, q2_J, cI_J, cT_J, cB_J, cZ_J, cS_J, c1_J, cA_J, J_clamp, u2_at, reduceIte, q1]
    rw [if_pos (by omega), if_pos (by omega)]
    rfl
  | succ N ih =>
    intro k A m2 k2 hI hR hS hm hp h4 h5 h6 h7
    have i0 := hI.1.1
    have i2 := hI.1.2.2.1
    have e8 := S_151 (d := d + 2) (p := p) ⟨hp.1, by omega⟩ (hR.2.2.1 p hp.1 hp.2) (hI.2.2.1 p hp.1 hp.2)
    have h8 := hairs_in (A.2.1 p)
    by_cases hz : hairs (A.2.1 p) = 0
    · obtain ⟨m3, q1, q2⟩ := back (d := d + 2) h1 h2 h3 h32 k1 hk k2
      refine ⟨m3, ?_, q2⟩
      rw [T_160_6]
      simp (disch := omega) only [kk, lits, q0_J, q1_J, q2_J, cI_J, cT_J, cB_J, cZ_J, cS_J, c1_J, cA_J, J_clamp, u2_at, reduceIte, e8, q1]
      rw [if_neg (by omega), if_pos (by omega), if_neg (by omega), baldF_s, if_pos hz]
    · obtain ⟨m4, q1, q2, q3⟩ := S_155 (d := d) hR hI hS (most := 2000000000) (by omega) hm (by omega)
      have en : nightSh A (rainL 0 L) 2000000000 = nightSh A (rainL 0 L) 2147483647 := nightSh_most i0.2 (by omega) (by omega)
      rw [en] at q2
      obtain ⟨c1, c2, c3, c4⟩ := nightSh_c A (rainL 0 L) 2147483647
      have hf := fallC_in (A := A) (b := byN (rainL 0 L) (A.1 0 1)) (most := 2147483647) (A.1 0 0).toNat 0 (A.1 0 2) (by omega) (by omega)
      have k3 : FrR qK qI m2 m4 := q3.mono (fun k hk => Or.inl hk) (fun i hi => Or.inr hi)
      obtain ⟨m3, q4, q5⟩ := ih (k + 1) _ m4 (k2.tr k3) (nightSh_I hI (by omega) (by omega) (by omega)) q2 (hS.fr q3 (fun k g1 g2 g3 => by unfold tiK at g3; omega) (by unfold tiI; omega)) (by rw [q3.2.1 32 (by unfold tiI; omega)]; exact hm) (by rw [(nightSh_h A (rainL 0 L) 2147483647).2]; exact hp) (by omega) (by omega) (by rw [c2]; omega) (by rw [c3]; omega)
      refine ⟨m3, ?_, q5⟩
      rw [T_160_6]
      simp (disch := omega) only [kk, lits, q0_J, q1_J, q2_J, cI_J, cT_J, cB_J, cZ_J, cS_J, c1_J, cA_J, J_clamp, u2_at, reduceIte, e8, q1]
      rw [if_neg (by omega), if_neg (by omega), q4, baldF_s, if_neg hz]
theorem S_160 (hI : ShI A) (hV : ViewN sh h L A m) (h32 : m.1 177 32 = J 9999) {p : Int} (hp : 0 ≤ p ∧ p < A.1 0 0) (g1 : A.1 0 1 ≤ 9999) (g2 : A.1 0 2 ≤ 9999) : ∃ m3, cB Q0 (d + 4) 160 [.ref 177, .int (J p)] m = some (some (.int (J (baldA A (rainL 0 L) p))), m3) ∧ BK m m3 := by
  obtain ⟨a0, a1, a2, a3⟩ := hV.1.1
  obtain ⟨m1, q1, q2, q3, q4⟩ := S_158 (d := d + 2) a1 a2 a3
  have hR1 : ShN sh A m1 := hV.1.fr q4 (fun k g1 g2 => by unfold svK at g2; omega) (fun i g1 g2 => by unfold svI at g2; omega)
  have hS1 : StgN h L m1 := hV.2.fr q4 (fun k g1 g2 g3 => by unfold svK at g3; omega) (by unfold svI; omega)
  obtain ⟨m3, q5, q6⟩ := L_160 (d := d) (h := h) (L := L) a1 a2 a3 h32 q4 q2 (p := p) 61 0 A m1 FrR.rf hI hR1 hS1 q3 hp (by omega) (by omega) (by omega) (by omega)
  refine ⟨m3, ?_, q6⟩
  rw [cB_eq]
  show rB Q0 160 (cB Q0 (d + 3)) 0 [some (.ref 177), some (.int (J p))] m = _
  rw [T_160_0]
  simp (disch := omega) only [kk, lits, q0_J, q1_J, q2_J, cI_J, cT_J, cB_J, cZ_J, cS_J, c1_J, cA_J, J_clamp, u2_at, reduceIte, q1]
  exact q5
theorem L_171 (hI : ShI A) (ht : ThI (rainL 0 L, clsL L)) {p : Int} (hp : -1 ≤ p ∧ p ≤ 6) : ∀ (N : Nat) (i : Int) (m : SM), ViewN sh h L A m → RwN A m → 0 ≤ i → i + N = A.2.2 0 0 0 → ∃ m', rB Q0 171 (cB Q0 (d + 6)) 2 [some (.ref 177), some (.int (J p)), some (.int (J i))] m = some (some (.int (J (wrongF A (clsL L) p N i))), m') ∧ FrR piK (fun _ => False) m m' := by
  have i0 := hI.1.1
  have q := hI.2.2.2.1
  intro N
  induction N with
  | zero =>
    intro i m hV hW h0 h1
    refine ⟨m, ?_, FrR.rf⟩
    rw [T_171_2]
    simp (disch := omega) only [kk, lits, q0_J, q1_J, q2_J, cI_J, cT_J, cB_J, cZ_J, cS_J, c1_J, cA_J, J_clamp, u2_at, reduceIte, hW.1.1]
    rw [if_pos (by omega)]
    rfl
  | succ N ih =>
    intro i m hV hW h0 h1
    have r0 := hW.1.1
    have r1 : m.1 203 i.toNat = J (A.2.2 0 1 i) := hW.1.2 1 (by omega) (by omega) i h0 (by omega)
    have r2 : m.1 204 i.toNat = J (A.2.2 0 2 i) := hW.1.2 2 (by omega) (by omega) i h0 (by omega)
    have r3 : m.1 205 i.toNat = J (A.2.2 0 3 i) := hW.1.2 3 (by omega) (by omega) i h0 (by omega)
    have qi := q.2 i h0 (by omega)
    obtain ⟨m1, e1, e2⟩ := S_153 (d := d) hI hV ht (p := A.2.2 0 1 i) (l := A.2.2 0 2 i) qi.1 qi.2.1
    have r3' : m1.1 205 i.toNat = J (A.2.2 0 3 i) := by rw [e2.1 205 (by unfold piK; omega) (by omega)]; exact r3
    have hob : 0 ≤ offA A (clsL L) (A.2.2 0 1 i) (A.2.2 0 2 i) (-1) ∧ offA A (clsL L) (A.2.2 0 1 i) (A.2.2 0 2 i) (-1) ≤ 900000 := offA_bd hI ht (l := A.2.2 0 2 i) (w := -1) qi.1
    by_cases hc : p = -1 ∨ A.2.2 0 1 i = p
    · by_cases ho : offA A (clsL L) (A.2.2 0 1 i) (A.2.2 0 2 i) (-1) = A.2.2 0 3 i
      · obtain ⟨m', e3, e4⟩ := ih (i + 1) m1 (hV.frP e2) (hW.bk (BK.of e2)) (by omega) (by omega)
        refine ⟨m', ?_, e2.tr e4⟩
        rw [T_171_2]
        simp (disch := omega) only [kk, lits, q0_J, q1_J, q2_J, cI_J, cT_J, cB_J, cZ_J, cS_J, c1_J, cA_J, J_clamp, u2_at, reduceIte, r0, r1, r2, e1, r3']
        rw [wrongF_s, if_neg (fun z : (p = -1 ∨ A.2.2 0 1 i = p) ∧ ¬ offA A (clsL L) (A.2.2 0 1 i) (A.2.2 0 2 i) (-1) = A.2.2 0 3 i => z.2 ho), if_neg (by omega)]
        by_cases hp1 : p < 0
        · rw [if_pos hp1, if_pos ho, e3]
        · rw [if_neg hp1, if_pos (hc.resolve_left (by omega)), if_pos ho, e3]
      · refine ⟨m1, ?_, e2⟩
        rw [T_171_2]
        simp (disch := omega) only [kk, lits, q0_J, q1_J, q2_J, cI_J, cT_J, cB_J, cZ_J, cS_J, c1_J, cA_J, J_clamp, u2_at, reduceIte, r0, r1, r2, e1, r3']
        rw [wrongF_s, if_pos (And.intro hc ho), if_neg (by omega)]
        by_cases hp1 : p < 0
        · rw [if_pos hp1, if_neg ho]
        · rw [if_neg hp1, if_pos (hc.resolve_left (by omega)), if_neg ho]
    · obtain ⟨m', e3, e4⟩ := ih (i + 1) m hV hW (by omega) (by omega)
      refine ⟨m', ?_, e4⟩
      rw [T_171_2]
      simp (disch := omega) only [kk, lits, q0_J, q1_J, q2_J, cI_J, cT_J, cB_J, cZ_J, cS_J, c1_J, cA_J, J_clamp, u2_at, reduceIte, r0, r1, r2, e1, r3']
      rw [wrongF_s, if_neg (fun z : (p = -1 ∨ A.2.2 0 1 i = p) ∧ ¬ offA A (clsL L) (A.2.2 0 1 i) (A.2.2 0 2 i) (-1) = A.2.2 0 3 i => hc z.1), if_neg (by omega), if_neg (by omega), if_neg (fun z => hc (Or.inr z)), e3]
theorem S_171 (hI : ShI A) (hV : ViewN sh h L A m) (hW : RwN A m) (ht : ThI (rainL 0 L, clsL L)) {p : Int} (hp : -1 ≤ p ∧ p ≤ 6) : ∃ m', cB Q0 (d + 7) 171 [.ref 177, .int (J p)] m = some (some (.int (J (wrongA A (clsL L) p))), m') ∧ FrR piK (fun _ => False) m m' := by
  have q := hI.2.2.2.1.1
  obtain ⟨m', e1, e2⟩ := L_171 (d := d) hI ht hp (A.2.2 0 0 0).toNat 0 m hV hW (by omega) (by omega)
  refine ⟨m', ?_, e2⟩
  rw [cB_eq]
  show rB Q0 171 (cB Q0 (d + 6)) 0 [some (.ref 177), some (.int (J p))] m = _
  rw [T_171_0]
  exact e1
end
