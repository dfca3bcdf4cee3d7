/-! THE SETTERS, asked of the reference -/
def stK : Nat → Prop := fun k => 178 ≤ k ∧ k ≤ 187
def stI : Nat → Prop := fun i => i = 0 ∨ i = 1
theorem HeadN.p0 {p q : Int} {H : Nat → Int → Int} {m : SM} {w : Nat} {j : Int} (hj : j = (w : Int)) (hw : w < 4) (h : HeadN p H m) (hp : 0 ≤ p) (hq : 0 ≤ q) (v : Int) : HeadN p (if p = q then upH H 0 j v else H) (up2 m.1 (181 + w) q.toNat (J v), m.2) := by
  subst hj
  obtain ⟨⟨a0, a1, a2, a3⟩, r1, r2, r3⟩ := h
  have g : ∀ a i, a ≠ 0 → (if p = q then upH H 0 (w : Int) v else H) a i = H a i := fun a i ha => by
    split
    · unfold upH; rw [if_neg (fun z => ha z.1)]
    · rfl
  refine ⟨?_, fun i h0 h1 => ?_, fun i h0 h1 hz => ?_, fun i h0 h1 => ?_⟩
  · by_cases e : p = q
    · subst e
      rw [if_pos rfl]
      rcases (show w = 0 ∨ w = 1 ∨ w = 2 ∨ w = 3 by omega) with rfl | rfl | rfl | rfl <;> simp [u2_at, u2_ne, upH, a0, a1, a2, a3]
    · have hne : ¬ p.toNat = q.toNat := by omega
      rw [if_neg e]
      rcases (show w = 0 ∨ w = 1 ∨ w = 2 ∨ w = 3 by omega) with rfl | rfl | rfl | rfl <;> simp [u2_at, u2_ne, hne, a0, a1, a2, a3]
  · show up2 m.1 (181 + w) q.toNat (J v) 185 (4 * p + i).toNat = _
    rw [u2_ne _ _ (by omega), g 1 i (by omega)]
    exact r1 i h0 h1
  · show up2 m.1 (181 + w) q.toNat (J v) 186 (8 * p + i).toNat = _
    rw [g 2 i (by omega)] at hz ⊢
    rw [u2_ne _ _ (by omega)]
    exact r2 i h0 h1 hz
  · show up2 m.1 (181 + w) q.toNat (J v) 187 (8 * p + i).toNat = _
    rw [u2_ne _ _ (by omega), g 3 i (by omega)]
    exact r3 i h0 h1
theorem HeadN.pr {p q : Int} {H : Nat → Int → Int} {m : SM} (h : HeadN p H m) (hp : 0 ≤ p) (hq : 0 ≤ q) {c : Int} (hc : 0 ≤ c ∧ c < 4) (v : Int) : HeadN p (if p = q then upH H 1 c v else H) (up2 m.1 185 (4 * q + c).toNat (J v), m.2) := by
  obtain ⟨⟨a0, a1, a2, a3⟩, r1, r2, r3⟩ := h
  have e1 : ∀ k, k ≠ 185 → up2 m.1 185 (4 * q + c).toNat (J v) k = m.1 k := fun k hk => u2_ne _ _ hk
  have g : ∀ a j, a ≠ 1 → (if p = q then upH H 1 c v else H) a j = H a j := fun a j ha => by
    split
    · unfold upH; rw [if_neg (fun z => ha z.1)]
    · rfl
  refine ⟨?_, fun j h0 h1 => ?_, fun j h0 h1 hz => ?_, fun j h0 h1 => ?_⟩
  · show up2 m.1 185 (4 * q + c).toNat (J v) 181 p.toNat = _ ∧ up2 m.1 185 (4 * q + c).toNat (J v) 182 p.toNat = _ ∧ up2 m.1 185 (4 * q + c).toNat (J v) 183 p.toNat = _ ∧ up2 m.1 185 (4 * q + c).toNat (J v) 184 p.toNat = _
    rw [e1 181 (by omega), e1 182 (by omega), e1 183 (by omega), e1 184 (by omega), g 0 0 (by omega), g 0 1 (by omega), g 0 2 (by omega), g 0 3 (by omega)]
    exact ⟨a0, a1, a2, a3⟩
  · show up2 m.1 185 (4 * q + c).toNat (J v) 185 (4 * p + j).toNat = _
    rw [u2_at]
    by_cases e : p = q
    · subst e
      rw [if_pos rfl]
      unfold upH
      by_cases e2 : j = c
      · subst e2
        rw [if_pos rfl, if_pos ⟨rfl, rfl⟩]
      · rw [if_neg (by omega), if_neg (fun z => e2 z.2)]
        exact r1 j h0 h1
    · rw [if_neg (by omega), if_neg e]
      exact r1 j h0 h1
  · show up2 m.1 185 (4 * q + c).toNat (J v) 186 (8 * p + j).toNat = _
    rw [g 2 j (by omega)] at hz ⊢
    rw [e1 186 (by omega)]
    exact r2 j h0 h1 hz
  · show up2 m.1 185 (4 * q + c).toNat (J v) 187 (8 * p + j).toNat = _
    rw [e1 187 (by omega), g 3 j (by omega)]
    exact r3 j h0 h1
theorem HeadN.ha {p q : Int} {H : Nat → Int → Int} {m : SM} (h : HeadN p H m) (hp : 0 ≤ p) (hq : 0 ≤ q) {c : Int} (hc : 0 ≤ c ∧ c < 8) (v : Int) : HeadN p (if p = q then upH H 2 c v else H) (up2 m.1 186 (8 * q + c).toNat (J v), m.2) := by
  obtain ⟨⟨a0, a1, a2, a3⟩, r1, r2, r3⟩ := h
  have e1 : ∀ k, k ≠ 186 → up2 m.1 186 (8 * q + c).toNat (J v) k = m.1 k := fun k hk => u2_ne _ _ hk
  have g : ∀ a j, a ≠ 2 → (if p = q then upH H 2 c v else H) a j = H a j := fun a j ha => by
    split
    · unfold upH; rw [if_neg (fun z => ha z.1)]
    · rfl
  refine ⟨?_, fun j h0 h1 => ?_, fun j h0 h1 hz => ?_, fun j h0 h1 => ?_⟩
  · show up2 m.1 186 (8 * q + c).toNat (J v) 181 p.toNat = _ ∧ up2 m.1 186 (8 * q + c).toNat (J v) 182 p.toNat = _ ∧ up2 m.1 186 (8 * q + c).toNat (J v) 183 p.toNat = _ ∧ up2 m.1 186 (8 * q + c).toNat (J v) 184 p.toNat = _
    rw [e1 181 (by omega), e1 182 (by omega), e1 183 (by omega), e1 184 (by omega), g 0 0 (by omega), g 0 1 (by omega), g 0 2 (by omega), g 0 3 (by omega)]
    exact ⟨a0, a1, a2, a3⟩
  · show up2 m.1 186 (8 * q + c).toNat (J v) 185 (4 * p + j).toNat = _
    rw [e1 185 (by omega), g 1 j (by omega)]
    exact r1 j h0 h1
  · show up2 m.1 186 (8 * q + c).toNat (J v) 186 (8 * p + j).toNat = _
    rw [u2_at]
    by_cases e : p = q
    · subst e
      rw [if_pos rfl] at hz ⊢
      unfold upH at hz ⊢
      by_cases e2 : j = c
      · subst e2
        rw [if_pos rfl, if_pos ⟨rfl, rfl⟩]
      · rw [if_neg (fun z => e2 z.2)] at hz
        rw [if_neg (by omega), if_neg (fun z => e2 z.2)]
        exact r2 j h0 h1 hz
    · rw [if_neg e] at hz
      rw [if_neg (by omega), if_neg e]
      exact r2 j h0 h1 hz
  · show up2 m.1 186 (8 * q + c).toNat (J v) 187 (8 * p + j).toNat = _
    rw [e1 187 (by omega), g 3 j (by omega)]
    exact r3 j h0 h1
theorem ShN.hp {sh q : Int} {A : Shp} {m m' : SM} {H' : Nat → Int → Int} (h : ShN sh A m) (hs : m'.1 177 = m.1 177) (h3 : ∀ k, 178 ≤ k → k ≤ 180 → m'.1 k = m.1 k) (hh : ∀ p, 0 ≤ p → p < A.1 0 0 → HeadN p (if p = q then H' else A.2.1 p) m') (h4 : H' 0 4 = A.2.1 q 0 4) : ShN sh (upHd A q H') m' := by
  obtain ⟨⟨a0, a1, a2, a3⟩, b, c, e⟩ := h
  refine ⟨by rw [hs]; exact ⟨a0, a1, a2, a3⟩, fun k h0 h1 j h2 h5 => ?_, hh, e.1, fun p h0 h1 => ?_⟩
  · rw [h3 (177 + k) (by omega) (by omega)]
    exact b k h0 h1 j h2 h5
  · show bitP sh p = (if p = q then H' else A.2.1 p) 0 4
    by_cases w : p = q
    · rw [if_pos w, h4, ← w]; exact e.2 p h0 h1
    · rw [if_neg w]; exact e.2 p h0 h1
theorem ShN.dr {sh : Int} {A : Shp} {m : SM} (h : ShN sh A m) {k : Nat} {j : Int} (hk : 0 < k ∧ k ≤ 3) (hj : 0 ≤ j) (v : Int) : ShN sh (upD A k j v) (up2 m.1 (177 + k) j.toNat (J v), m.2) := by
  have hF : FrR (fun q => q = 177 + k) noI m (up2 m.1 (177 + k) j.toNat (J v), m.2) := FrR.put (K := fun q => q = 177 + k) (KI := noI) (k := 177 + k) rfl (by omega) _ _
  obtain ⟨⟨a0, a1, a2, a3⟩, b, c, e⟩ := h
  have hc : ∀ i, (upD A k j v).1 0 i = A.1 0 i := fun i => by
    show upH A.1 k j v 0 i = _
    unfold upH
    rw [if_neg (by omega)]
  refine ⟨?_, fun q h0 h1 i h2 h3 => ?_, fun p h0 h1 => (c p h0 (by rw [← hc 0]; exact h1)).fr hF fun q h2 h3 => ?_, e.1, fun p h0 h1 => e.2 p h0 (by rw [← hc 0]; exact h1)⟩
  · rw [hc, hc, hc]
    show up2 m.1 (177 + k) j.toNat (J v) 177 0 = _ ∧ up2 m.1 (177 + k) j.toNat (J v) 177 1 = _ ∧ up2 m.1 (177 + k) j.toNat (J v) 177 2 = _ ∧ up2 m.1 (177 + k) j.toNat (J v) 177 3 = _
    rw [u2_ne _ _ (by omega)]
    exact ⟨a0, a1, a2, a3⟩
  · show up2 m.1 (177 + k) j.toNat (J v) (177 + q) i.toNat = J (upH A.1 k j v q i)
    unfold upH
    by_cases e1 : q = k
    · subst e1
      rw [u2_at]
      by_cases e2 : i = j
      · subst e2
        rw [if_pos rfl, if_pos ⟨rfl, rfl⟩]
      · rw [if_neg (toNat_ne h2 hj e2), if_neg (fun z => e2 z.2)]
        exact b q h0 h1 i h2 h3
    · rw [u2_ne _ _ (by omega), if_neg (fun z => e1 z.1)]
      exact b q h0 h1 i h2 h3
  · omega
theorem RwN.fr {A B : Shp} {m m' : SM} {K KI : Nat → Prop} (h : RwN A m) (hF : FrR K KI m m') (hK : ∀ k, 203 ≤ k → k ≤ 209 → ¬ K k) (hKI : ∀ i, 41 ≤ i → i ≤ 46 → ¬ KI i) (hE : A.2.2 = B.2.2) : RwN B m' := by
  unfold RwN
  rw [← hE, hF.2.1 41 (hKI _ (by omega) (by omega)), hF.2.1 45 (hKI _ (by omega) (by omega)), hF.2.1 46 (hKI _ (by omega) (by omega)), hF.1 206 (hK _ (by omega) (by omega)) (by omega), hF.1 207 (hK _ (by omega) (by omega)) (by omega), hF.1 208 (hK _ (by omega) (by omega)) (by omega), hF.1 209 (hK _ (by omega) (by omega)) (by omega)]
  refine ⟨⟨h.1.1, fun k h0 h1 j h2 h3 => ?_⟩, h.2.1, h.2.2⟩
  rw [hF.1 (202 + k) (hK _ (by omega) (by omega)) (by omega)]
  exact h.1.2 k h0 h1 j h2 h3
section
variable {m : SM} {d : Nat} {A : Shp} {sh : Int}
theorem L_119 {p : Int} (hp : 0 ≤ p ∧ p < 6) : ∀ (n : Nat) (c : Int) (m : SM), 0 ≤ c → c + n = 8 → (∀ j : Int, 0 ≤ j → j < c → m.1 187 (8 * p + j).toNat = J 0) → ∃ m', rB Q0 119 (cB Q0 d) 2 [some (.ref 177), some (.int (J p)), some (.int (J c))] m = some (none, m') ∧ (∀ j : Int, 0 ≤ j → j < 8 → m'.1 187 (8 * p + j).toNat = J 0) ∧ (∀ i : Int, 0 ≤ i → (i < 8 * p ∨ 8 * p + 8 ≤ i) → m'.1 187 i.toNat = m.1 187 i.toNat) ∧ FrR tiK noI m m' := by
  intro n
  induction n with
  | zero =>
    intro c m h0 h1 h2
    obtain rfl : c = 8 := by omega
    refine ⟨m, ?_, h2, fun _ _ _ => rfl, FrR.rf⟩
    rw [T_119_2]
    simp (disch := omega) only [kk, lits, q0_J, q1_J, q2_J, cI_J, cT_J, cB_J, cZ_J, cS_J, c1_J, cA_J, J_clamp, u2_at, reduceIte]
    rw [if_pos (by omega)]
  | succ n ih =>
    intro c m h0 h1 h2
    have k1 : FrR tiK noI m (up2 m.1 187 (8 * p + c).toNat (J 0), m.2) := FrR.put (K := tiK) (KI := noI) (k := 187) (by exact rfl) (by omega) _ _
    obtain ⟨m', q1, q2, q3, q4⟩ := ih (c + 1) (up2 m.1 187 (8 * p + c).toNat (J 0), m.2) (by omega) (by omega) (fun j g0 g1 => by
      show up2 m.1 187 (8 * p + c).toNat (J 0) 187 (8 * p + j).toNat = _
      rw [u2_at]
      by_cases e : j = c
      · rw [if_pos (by omega)]
      · rw [if_neg (by omega)]
        exact h2 j g0 (by omega))
    refine ⟨m', ?_, q2, fun i g0 g1 => ?_, k1.tr q4⟩
    · rw [T_119_2]
      simp (disch := omega) only [kk, lits, q0_J, q1_J, q2_J, cI_J, cT_J, cB_J, cZ_J, cS_J, c1_J, cA_J, J_clamp, u2_at, reduceIte]
      rw [if_neg (by omega)]
      exact q1
    · rw [q3 i g0 g1]
      show up2 m.1 187 (8 * p + c).toNat (J 0) 187 i.toNat = _
      rw [u2_at, if_neg (by omega)]
theorem S_119 {p : Int} (hp : 0 ≤ p ∧ p < 6) : ∃ m', cB Q0 (d + 1) 119 [.ref 177, .int (J p)] m = some (none, m') ∧ (∀ j : Int, 0 ≤ j → j < 8 → m'.1 187 (8 * p + j).toNat = J 0) ∧ (∀ i : Int, 0 ≤ i → (i < 8 * p ∨ 8 * p + 8 ≤ i) → m'.1 187 i.toNat = m.1 187 i.toNat) ∧ FrR tiK noI m m' := by
  obtain ⟨m', q1, q2⟩ := L_119 (d := d) hp 8 0 m (by omega) (by omega) (fun j g0 g1 => by omega)
  refine ⟨m', ?_, q2⟩
  rw [cB_eq]
  show rB Q0 119 (cB Q0 d) 0 [some (.ref 177), some (.int (J p))] m = _
  rw [T_119_0]
  exact q1
theorem L_120 {p : Int} (hp : 0 ≤ p ∧ p < 6) {cf : Nat → List Value → SM → Rs SM} : ∀ (n : Nat) (c : Int) (m : SM), 0 ≤ c → c + n = 4 → m.1 177 0 = J p → (∀ j : Int, 0 ≤ j → j < c → m.1 185 (4 * p + j).toNat = J 0) → ∃ m', rB Q0 120 cf 116 [some (.ref 177), none, none, none, some (.int (J c))] m = some (some (.int (J p)), m') ∧ m'.1 177 0 = J (p + 1) ∧ (∀ j : Int, 0 ≤ j → j < 4 → m'.1 185 (4 * p + j).toNat = J 0) ∧ (∀ i : Int, 0 ≤ i → (i < 4 * p ∨ 4 * p + 4 ≤ i) → m'.1 185 i.toNat = m.1 185 i.toNat) ∧ FrR (fun k => k = 185) (fun i => i = 0) m m' := by
  intro n
  induction n with
  | zero =>
    intro c m h0 h1 h7 h2
    obtain rfl : c = 4 := by omega
    refine ⟨(up2 m.1 177 0 (J (p + 1)), m.2), ?_, ?_, fun j g0 g1 => ?_, fun i _ _ => ?_, FrR.put7 (KI := fun i => i = 0) rfl _⟩
    · rw [T_120_116]
      simp (disch := omega) only [kk, lits, q0_J, q1_J, q2_J, cI_J, cT_J, cB_J, cZ_J, cS_J, c1_J, cA_J, J_clamp, u2_at, reduceIte, h7]
      rw [if_pos (by omega), show p + 1 - 1 = p by omega]
    · show up2 m.1 177 0 (J (p + 1)) 177 0 = _
      rw [u2_at, if_pos rfl]
    · show up2 m.1 177 0 (J (p + 1)) 185 _ = _
      rw [u2_ne _ _ (by omega)]
      exact h2 j g0 g1
    · show up2 m.1 177 0 (J (p + 1)) 185 _ = _
      rw [u2_ne _ _ (by omega)]
  | succ n ih =>
    intro c m h0 h1 h7 h2
    have k1 : FrR (fun k => k = 185) (fun i => i = 0) m (up2 m.1 185 (4 * p + c).toNat (J 0), m.2) := FrR.put (K := fun k => k = 185) (KI := fun i => i = 0) (k := 185) (by exact rfl) (by omega) _ _
    obtain ⟨m', q1, q2, q3, q4, q5⟩ := ih (c + 1) (up2 m.1 185 (4 * p + c).toNat (J 0), m.2) (by omega) (by omega) (by
      show up2 m.1 185 (4 * p + c).toNat (J 0) 177 0 = _
      rw [u2_ne _ _ (by omega)]; exact h7) (fun j g0 g1 => by
      show up2 m.1 185 (4 * p + c).toNat (J 0) 185 (4 * p + j).toNat = _
      rw [u2_at]
      by_cases e : j = c
      · rw [if_pos (by omega)]
      · rw [if_neg (by omega)]
        exact h2 j g0 (by omega))
    refine ⟨m', ?_, q2, q3, fun i g0 g1 => ?_, k1.tr q5⟩
    · rw [T_120_116]
      simp (disch := omega) only [kk, lits, q0_J, q1_J, q2_J, cI_J, cT_J, cB_J, cZ_J, cS_J, c1_J, cA_J, J_clamp, u2_at, reduceIte, h7]
      rw [if_neg (by omega)]
      exact q1
    · rw [q4 i g0 g1]
      show up2 m.1 185 (4 * p + c).toNat (J 0) 185 i.toNat = _
      rw [u2_at, if_neg (by omega)]
end
