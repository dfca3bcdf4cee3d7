/-! THE REFERENCE: nights, and what is put back -/
section
variable {m : SM} {d : Nat} {A : Shp} {sh h : Int} {L : Cla}
theorem CluAt.fr {m m' : SM} (h0 : m'.1 190 = m.1 190) (h1 : m'.1 191 = m.1 191) (h2 : m'.1 192 = m.1 192) (h3 : m'.1 193 = m.1 193) (h4 : m'.1 194 = m.1 194) : ∀ (r : Cla) (i : Int), CluAt m i r → CluAt m' i r
  | [], _, _ => trivial
  | (w, k, ts) :: r, i, g => by
    have hs : ∀ (ts : List Int) (a : Int), SigAt m a ts → SigAt m' a ts := by
      intro ts
      induction ts with
      | nil => intro _ _; trivial
      | cons t ts ih => intro a q; exact ⟨by rw [h4]; exact q.1, ih _ q.2⟩
    refine ⟨⟨by rw [h0]; exact g.1.1, by rw [h1]; exact g.1.2.1, fun hw => ?_⟩, CluAt.fr h0 h1 h2 h3 h4 r (i + 1) g.2⟩
    obtain ⟨a, e1, e2, e3, e4, e5⟩ := g.1.2.2 hw
    exact ⟨a, by rw [h2]; exact e1, by rw [h3]; exact e2, e3, e4, hs _ _ e5⟩
theorem StgN.fr {m m' : SM} {K KI : Nat → Prop} (hS : StgN h L m) (hF : FrR K KI m m') (hK : ∀ k, 189 ≤ k → k ≤ 194 → ¬ K k) (hKI : ¬ KI 15) : StgN h L m' := by
  obtain ⟨a, b, c⟩ := hS
  refine ⟨by rw [hF.2.1 15 hKI]; exact a, ?_, c⟩
  rcases b with b | ⟨b1, b2, b3, b4⟩
  · exact Or.inl b
  · refine Or.inr ⟨b1, ?_, b3, ?_⟩
    · rw [hF.1 189 (hK _ (by omega) (by omega)) (by omega)]
      exact b2
    · exact CluAt.fr (hF.1 190 (hK _ (by omega) (by omega)) (by omega)) (hF.1 191 (hK _ (by omega) (by omega)) (by omega)) (hF.1 192 (hK _ (by omega) (by omega)) (by omega)) (hF.1 193 (hK _ (by omega) (by omega)) (by omega)) (hF.1 194 (hK _ (by omega) (by omega)) (by omega)) _ _ b4
theorem rainL_in : ∀ (L : Cla) (n : Int), ClaI L → (0 ≤ n ∧ n ≤ 99) → 0 ≤ rainL n L ∧ rainL n L ≤ 99
  | [], n, _, hn => hn
  | (w, k, ts) :: r, n, hI, hn => by
    have hi := hI
    unfold ClaI at hi
    exact rainL_in r (if w = 2 then k else n) hi.2.2.2 (by split; exact hi.2.1; exact hn)
theorem S_155 (hR : ShN sh A m) (hI : ShI A) (hS : StgN h L m) {most : Int} (hm : 0 ≤ most ∧ most ≤ 2000000000) (h32 : m.1 177 32 = J most) (hf : A.1 0 2 ≤ most) : ∃ m', cB Q0 (d + 3) 155 [.ref 177] m = some (none, m') ∧ ShN sh (nightSh A (rainL 0 L) most) m' ∧ FrR tiK tiI m m' := by
  have i0 := hI.1.1
  have i1 := hI.1.2.1
  have i2 := hI.1.2.2.1
  have hr := rainL_in L 0 hS.2.2 (by omega)
  have a3 := hR.1.2.2.2
  have e145 := S_145 (d := d) hS
  obtain ⟨m', e1, e2, e3⟩ := L_155h (d := d + 1) (byN_in (rainL 0 L) (A.1 0 1)) hm (A.1 0 0).toNat 0 A m (by omega) (by omega) i0.2 ⟨i2.1, hf⟩ (fun p h0 h1 => hI.2.2.1 p h0 h1) hR h32
  refine ⟨m', ?_, e2, e3⟩
  rw [cB_eq]
  show rB Q0 155 (cB Q0 (d + 2)) 0 [some (.ref 177)] m = _
  rw [T_155_0]
  unfold byN at e1
  by_cases hz : rainL 0 L ≤ 0
  · rw [if_pos hz] at e1
    simp (disch := omega) only [kk, lits, q0_J, q1_J, q2_J, cI_J, cT_J, cB_J, cZ_J, cS_J, c1_J, cA_J, J_clamp, u2_at, reduceIte, e145]
    rw [if_pos hz]
    exact e1
  · rw [if_neg hz] at e1
    have he : A.1 0 1 - (A.1 0 1).tdiv (rainL 0 L) * (rainL 0 L) = A.1 0 1 % (rainL 0 L) := by rw [Int.tdiv_eq_ediv_of_nonneg i1.1, Int.mul_comm, ← Int.emod_def]
    have hle : 0 ≤ A.1 0 1 % (rainL 0 L) ∧ A.1 0 1 % (rainL 0 L) < rainL 0 L := ⟨Int.emod_nonneg _ (by omega), Int.emod_lt_of_pos _ (by omega)⟩
    simp (disch := omega) only [kk, lits, q0_J, q1_J, q2_J, cI_J, cT_J, cB_J, cZ_J, cS_J, c1_J, cA_J, J_clamp, u2_at, reduceIte, e145, a3, J_div, he]
    rw [if_neg hz, if_neg (by omega)]
    by_cases hz2 : A.1 0 1 % (rainL 0 L) = 0
    · rw [if_pos hz2] at e1 ⊢
      exact e1
    · rw [if_neg hz2] at e1 ⊢
      exact e1
theorem L_156 {N : Int} (hN : N ≤ 100) {most : Int} (hm : 0 ≤ most ∧ most ≤ 2000000000) : ∀ (n : Nat) (c : Int) (A : Shp) (m : SM), 0 ≤ c → c + n = N → ShI A → A.1 0 2 ≤ most → A.1 0 1 + n ≤ 20000 → A.1 0 2 + 48 * n ≤ 1000000 → ShN sh A m → StgN h L m → m.1 177 32 = J most → ∃ m', rB Q0 156 (cB Q0 (d + 3)) 2 [some (.ref 177), some (.int (J N)), some (.int (J c))] m = some (none, m') ∧ ShN sh (nightsSh (rainL 0 L) most n A) m' ∧ FrR tiK tiI m m' := by
  intro n
  induction n with
  | zero =>
    intro c A m h0 h1 hI h2 h3 h4 hR hS h32
    refine ⟨m, ?_, hR, FrR.rf⟩
    rw [T_156_2]
    simp (disch := omega) only [kk, lits, q0_J, q1_J, q2_J, cI_J, cT_J, cB_J, cZ_J, cS_J, c1_J, cA_J, J_clamp, u2_at, reduceIte]
    rw [if_pos (by omega)]
  | succ n ih =>
    intro c A m h0 h1 hI h2 h3 h4 hR hS h32
    obtain ⟨c1, c2, c3, c4⟩ := nightSh_c A (rainL 0 L) most
    have i2 := hI.1.2.2.1
    have i0 := hI.1.1
    have hf := fallC_in (A := A) (b := byN (rainL 0 L) (A.1 0 1)) (most := most) (A.1 0 0).toNat 0 (A.1 0 2) (by omega) h2
    obtain ⟨m1, e1, e2, e3⟩ := S_155 (d := d) hR hI hS hm h32 h2
    obtain ⟨m', e4, e5, e6⟩ := ih (c + 1) (nightSh A (rainL 0 L) most) m1 (by omega) (by omega) (nightSh_I hI h2 (by omega) (by omega)) (by rw [c3]; exact hf.2.1) (by rw [c2]; omega) (by rw [c3]; omega) e2 (hS.fr e3 (fun k g1 g2 g3 => by unfold tiK at g3; omega) (by unfold tiI; omega)) (by rw [e3.2.1 32 (by unfold tiI; omega)]; exact h32)
    refine ⟨m', ?_, e5, e3.tr e6⟩
    rw [T_156_2]
    simp (disch := omega) only [kk, lits, q0_J, q1_J, q2_J, cI_J, cT_J, cB_J, cZ_J, cS_J, c1_J, cA_J, J_clamp, u2_at, reduceIte, e1]
    rw [if_neg (by omega)]
    exact e4
theorem S_156 (hR : ShN sh A m) (hI : ShI A) (hS : StgN h L m) {most : Int} (hm : 0 ≤ most ∧ most ≤ 2000000000) (h32 : m.1 177 32 = J most) (N : Nat) (hN : N ≤ 100) (g2 : A.1 0 2 ≤ most) (g3 : A.1 0 1 + N ≤ 20000) (g4 : A.1 0 2 + 48 * N ≤ 1000000) : ∃ m', cB Q0 (d + 4) 156 [.ref 177, .int (J N)] m = some (none, m') ∧ ShN sh (nightsSh (rainL 0 L) most N A) m' ∧ FrR tiK tiI m m' := by
  obtain ⟨m', e1, e2, e3⟩ := L_156 (d := d) (N := N) (h := h) (L := L) (sh := sh) (by omega) hm N 0 A m (by omega) (by omega) hI g2 g3 g4 hR hS h32
  refine ⟨m', ?_, e2, e3⟩
  rw [cB_eq]
  show rB Q0 156 (cB Q0 (d + 3)) 0 [some (.ref 177), some (.int (J N))] m = _
  rw [T_156_0]
  exact e1
/-- what is kept while something is asked: bits, FALLEN, NIGHT, all TIGHT -/
def Kept (sh f n : Int) (t : Nat → Int32) (m : SM) : Prop := m.1 177 33 = J sh ∧ m.1 177 34 = J f ∧ m.1 177 35 = J n ∧ ∀ i : Nat, i < 48 → m.1 198 i = t i
def svK : Nat → Prop := fun k => k = 198
def svI : Nat → Prop := fun i => i = 32 ∨ i = 33 ∨ i = 34 ∨ i = 35
theorem L_158 : ∀ (n : Nat) (c : Int) (m : SM), 0 ≤ c → c + n = 48 → (∀ i : Int, 0 ≤ i → i < c → m.1 198 i.toNat = m.1 187 i.toNat) → ∃ m', rB Q0 158 (cB Q0 d) 33 [some (.ref 177), some (.int (J c))] m = some (none, m') ∧ (∀ i : Int, 0 ≤ i → i < 48 → m'.1 198 i.toNat = m.1 187 i.toNat) ∧ FrR svK (fun _ => False) m m' := by
  intro n
  induction n with
  | zero =>
    intro c m h0 h1 h2
    obtain rfl : c = 48 := by omega
    refine ⟨m, ?_, h2, FrR.rf⟩
    rw [T_158_33]
    simp (disch := omega) only [kk, lits, q0_J, q1_J, q2_J, cI_J, cT_J, cB_J, cZ_J, cS_J, c1_J, cA_J, J_clamp, u2_at, reduceIte]
    rw [if_pos (by omega)]
  | succ n ih =>
    intro c m h0 h1 h2
    have k1 : FrR svK (fun _ => False) m (up2 m.1 198 c.toNat (m.1 187 c.toNat), m.2) := FrR.put (K := svK) (k := 198) (by exact rfl) (by omega) _ _
    obtain ⟨m', e1, e2, e3⟩ := ih (c + 1) (up2 m.1 198 c.toNat (m.1 187 c.toNat), m.2) (by omega) (by omega) (fun i g0 g1 => by
      show up2 m.1 198 c.toNat (m.1 187 c.toNat) 198 i.toNat = up2 m.1 198 c.toNat (m.1 187 c.toNat) 187 i.toNat
      rw [u2_ne (j := 187) _ _ (by omega), u2_at]
      by_cases e : i = c
      · subst e; rw [if_pos rfl]
      · rw [if_neg (by omega)]
        exact h2 i g0 (by omega))
    refine ⟨m', ?_, fun i g0 g1 => ?_, k1.tr e3⟩
    · rw [T_158_33]
      simp (disch := omega) only [kk, lits, q0_J, q1_J, q2_J, cI_J, cT_J, cB_J, cZ_J, cS_J, c1_J, cA_J, J_clamp, u2_at, reduceIte]
      rw [if_neg (by omega)]
      exact e1
    · rw [e2 i g0 g1]
      show up2 m.1 198 c.toNat (m.1 187 c.toNat) 187 i.toNat = _
      rw [u2_ne _ _ (by omega)]
theorem S_158 {f n : Int} (h1 : m.1 177 1 = J sh) (h2 : m.1 177 2 = J f) (h3 : m.1 177 3 = J n) : ∃ m', cB Q0 (d + 1) 158 [.ref 177] m = some (none, m') ∧ Kept sh f n (m.1 187) m' ∧ m'.1 177 32 = J 2000000000 ∧ FrR svK svI m m' := by
  generalize hm1 : (up2 (up2 (up2 (up2 m.1 177 32 (J 2000000000)) 177 33 (J sh)) 177 34 (J f)) 177 35 (J n), m.2) = m1
  have k1 : FrR svK svI m m1 := by
    rw [← hm1]
    refine ⟨fun k _ hk => by simp (disch := omega) only [u2_ne], fun i hi => ?_, rfl⟩
    unfold svI at hi
    simp only [u2_at]
    rw [if_neg (by omega), if_neg (by omega), if_neg (by omega), if_neg (by omega)]
  obtain ⟨m', e1, e2, e3⟩ := L_158 (d := d) 48 0 m1 (by omega) (by omega) (fun i g0 g1 => by omega)
  have k187 : m1.1 187 = m.1 187 := k1.1 187 (by unfold svK; omega) (by omega)
  have lit : (2000000000 : Int32) = J 2000000000 := rfl
  refine ⟨m', ?_, ⟨?_, ?_, ?_, fun i hi => ?_⟩, ?_, k1.tr (e3.mono (fun _ h => h) (fun _ h => h.elim))⟩
  · rw [cB_eq]
    show rB Q0 158 (cB Q0 d) 0 [some (.ref 177)] m = _
    rw [T_158_0]
    simp only [kk, u2_at, h1, h2, h3, lit]
    simp only [show ¬ (1 : Nat) = 32 by omega, show ¬ (2 : Nat) = 32 by omega, show ¬ (2 : Nat) = 33 by omega, show ¬ (3 : Nat) = 32 by omega, show ¬ (3 : Nat) = 33 by omega, show ¬ (3 : Nat) = 34 by omega, if_false, h1, h2, h3, hm1, lits]
    exact e1
  · rw [e3.2.1 33 (fun h => h), ← hm1]; simp [u2_at]
  · rw [e3.2.1 34 (fun h => h), ← hm1]; simp [u2_at]
  · rw [e3.2.1 35 (fun h => h), ← hm1]; simp [u2_at]
  · have := e2 (i : Int) (by omega) (by omega)
    rw [Int.toNat_natCast] at this
    rw [this, k187]
  · rw [e3.2.1 32 (fun h => h), ← hm1]; simp [u2_at]
theorem L_159 {t : Nat → Int32} : ∀ (n : Nat) (c : Int) (m : SM), 0 ≤ c → c + n = 48 → (∀ i : Nat, i < 48 → m.1 198 i = t i) → (∀ i : Int, 0 ≤ i → i < c → m.1 187 i.toNat = t i.toNat) → ∃ m', rB Q0 159 (cB Q0 d) 33 [some (.ref 177), some (.int (J c))] m = some (none, m') ∧ (∀ i : Int, 0 ≤ i → i < 48 → m'.1 187 i.toNat = t i.toNat) ∧ FrR tiK (fun _ => False) m m' := by
  intro n
  induction n with
  | zero =>
    intro c m h0 h1 h2 h3
    obtain rfl : c = 48 := by omega
    refine ⟨m, ?_, h3, FrR.rf⟩
    rw [T_159_33]
    simp (disch := omega) only [kk, lits, q0_J, q1_J, q2_J, cI_J, cT_J, cB_J, cZ_J, cS_J, c1_J, cA_J, J_clamp, u2_at, reduceIte]
    rw [if_pos (by omega)]
  | succ n ih =>
    intro c m h0 h1 h2 h3
    have k1 : FrR tiK (fun _ => False) m (up2 m.1 187 c.toNat (t c.toNat), m.2) := FrR.put (K := tiK) (k := 187) (by exact rfl) (by omega) _ _
    have hc := h2 c.toNat (by omega)
    obtain ⟨m', e1, e2, e3⟩ := ih (c + 1) (up2 m.1 187 c.toNat (t c.toNat), m.2) (by omega) (by omega) (fun i hi => by
      show up2 m.1 187 c.toNat (t c.toNat) 198 i = _
      rw [u2_ne _ _ (by omega)]
      exact h2 i hi) (fun i g0 g1 => by
      show up2 m.1 187 c.toNat (t c.toNat) 187 i.toNat = _
      rw [u2_at]
      by_cases e : i = c
      · subst e; rw [if_pos rfl]
      · rw [if_neg (by omega)]
        exact h3 i g0 (by omega))
    refine ⟨m', ?_, e2, k1.tr e3⟩
    rw [T_159_33]
    simp (disch := omega) only [kk, lits, q0_J, q1_J, q2_J, cI_J, cT_J, cB_J, cZ_J, cS_J, c1_J, cA_J, J_clamp, u2_at, reduceIte, hc]
    rw [if_neg (by omega)]
    exact e1
/-- behind what was asked all is as it was -/
theorem S_159 {f n : Int} {t : Nat → Int32} (hK : Kept sh f n t m) : ∃ m', cB Q0 (d + 1) 159 [.ref 177] m = some (none, m') ∧ m'.1 177 1 = J sh ∧ m'.1 177 2 = J f ∧ m'.1 177 3 = J n ∧ m'.1 177 32 = J 9999 ∧ (∀ i : Int, 0 ≤ i → i < 48 → m'.1 187 i.toNat = t i.toNat) ∧ FrR tiK (fun i => i = 1 ∨ i = 2 ∨ i = 3 ∨ i = 32) m m' := by
  obtain ⟨h1, h2, h3, h4⟩ := hK
  generalize hm1 : (up2 (up2 (up2 (up2 m.1 177 32 (J 9999)) 177 1 (J sh)) 177 2 (J f)) 177 3 (J n), m.2) = m1
  have k1 : FrR tiK (fun i => i = 1 ∨ i = 2 ∨ i = 3 ∨ i = 32) m m1 := by
    rw [← hm1]
    refine ⟨fun k _ hk => by simp (disch := omega) only [u2_ne], fun i hi => ?_, rfl⟩
    simp only [u2_at]
    rw [if_neg (by omega), if_neg (by omega), if_neg (by omega), if_neg (by omega)]
  have k198 : m1.1 198 = m.1 198 := k1.1 198 (by unfold tiK; omega) (by omega)
  obtain ⟨m', e1, e2, e3⟩ := L_159 (d := d) (t := t) 48 0 m1 (by omega) (by omega) (fun i hi => by rw [k198]; exact h4 i hi) (fun i g0 g1 => by omega)
  refine ⟨m', ?_, ?_, ?_, ?_, ?_, e2, k1.tr (e3.mono (fun _ h => h) (fun _ h => h.elim))⟩
  · rw [cB_eq]
    show rB Q0 159 (cB Q0 d) 0 [some (.ref 177)] m = _
    rw [T_159_0]
    simp only [kk, u2_at]
    simp only [show ¬ (33 : Nat) = 32 by omega, show ¬ (34 : Nat) = 32 by omega, show ¬ (34 : Nat) = 1 by omega, show ¬ (35 : Nat) = 32 by omega, show ¬ (35 : Nat) = 1 by omega, show ¬ (35 : Nat) = 2 by omega, if_false, h1, h2, h3, lits, hm1]
    exact e1
  · rw [e3.2.1 1 (fun h => h), ← hm1]; simp [u2_at]
  · rw [e3.2.1 2 (fun h => h), ← hm1]; simp [u2_at]
  · rw [e3.2.1 3 (fun h => h), ← hm1]; simp [u2_at]
  · rw [e3.2.1 32 (fun h => h), ← hm1]; simp [u2_at]
end
