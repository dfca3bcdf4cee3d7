/-! THE REFERENCE: shades, how much one is off, the nearest drawer -/
section
variable {m : SM} {d : Nat} {A : Shp} {sh h : Int} {L : Cla}
/-- the reference's view: its SHOP, and its stage -/
def ViewN (sh h : Int) (L : Cla) (A : Shp) (m : SM) : Prop := ShN sh A m ∧ StgN h L m
theorem ViewN.frP (hV : ViewN sh h L A m) {m' : SM} (hF : FrR piK (fun _ => False) m m') : ViewN sh h L A m' :=
  ⟨hV.1.fr hF (fun k g1 g2 => by unfold piK at g2; omega) (fun _ _ z => z), hV.2.fr hF (fun k g1 g2 g3 => by unfold piK at g3; omega) (fun z => z)⟩
theorem S_147 (hI : ShI A) (hV : ViewN sh h L A m) {p dr l i a : Int} {ts : List Int} (hp : 0 ≤ p ∧ p < A.1 0 0) (hdr : 0 ≤ dr ∧ dr ≤ 7) (hl : 0 ≤ l ∧ l ≤ 1) (hi : 0 ≤ i ∧ i < 60) (e1 : m.1 192 i.toNat = J a) (e2 : m.1 193 i.toNat = J (a + ts.length)) (ha : 0 ≤ a) (ha2 : a + ts.length ≤ 600) (hS : SigAt m a ts) (hW : WfT ts 0) : ∃ m', cB Q0 (d + 2) 147 [.ref 177, .int (J i), .int (J p), .int (J dr), .int (J l)] m = some (some (.int (bi (hd1 (evL (lets A p dr l) ts []) = 1))), m') ∧ FrR piK (fun _ => False) m m' := by
  obtain ⟨m', q1, q2⟩ := L_147 (d := d) hI hp hdr hl hi ha2 ts [] a m ha rfl hW (by simp) hS trivial hV.1 e2
  refine ⟨m', ?_, q2⟩
  rw [cB_eq]
  show rB Q0 147 (cB Q0 (d + 1)) 0 [some (.ref 177), some (.int (J i)), some (.int (J p)), some (.int (J dr)), some (.int (J l))] m = _
  rw [T_147_0]
  simp (disch := omega) only [kk, lits, q0_J, q1_J, q2_J, cI_J, cT_J, cB_J, cZ_J, cS_J, c1_J, cA_J, J_clamp, u2_at, reduceIte, e1]
  exact q1
theorem L_148 (hI : ShI A) {p dr l : Int} (hp : 0 ≤ p ∧ p < A.1 0 0) (hdr : 0 ≤ dr ∧ dr ≤ 7) (hl : 0 ≤ l ∧ l ≤ 1) (h60 : begL h + L.length ≤ 60) : ∀ (r : Cla) (i k : Int) (m : SM), 0 ≤ i → i + r.length = begL h + L.length → CluAt m i r → ClaI r → ViewN sh h L A m → ∃ m', rB Q0 148 (cB Q0 (d + 2)) 27 [some (.ref 177), some (.int (J p)), some (.int (J dr)), some (.int (J l)), some (.int (J k)), some (.int (J i))] m = some (some (.int (J (k + warm (lets A p dr l) (clsL r)))), m') ∧ FrR piK (fun _ => False) m m'
  | [], i, k, m, h0, h1, _, _, hV => by
    have h1 : i + ((0 : Nat) : Int) = begL h + L.length := h1
    refine ⟨m, ?_, FrR.rf⟩
    rw [T_148_27]
    simp (disch := omega) only [kk, lits, q0_J, q1_J, q2_J, cI_J, cT_J, cB_J, cZ_J, cS_J, c1_J, cA_J, J_clamp, u2_at, reduceIte, S_144 hV.2]
    rw [if_pos (by omega)]
    simp [clsL, warm]
  | (w, n, ts) :: r, i, k, m, h0, h1, hA, hC, hV => by
    have h1 : i + ((r.length + 1 : Nat) : Int) = begL h + L.length := h1
    have ha := hA.1
    have hc := hC
    unfold ClaI at hc
    by_cases e : w = 2
    · obtain ⟨m', q1, q2⟩ := L_148 hI hp hdr hl h60 r (i + 1) k m (by omega) (by omega) hA.2 hc.2.2.2 hV
      refine ⟨m', ?_, q2⟩
      rw [T_148_27]
      simp (disch := omega) only [kk, lits, q0_J, q1_J, q2_J, cI_J, cT_J, cB_J, cZ_J, cS_J, c1_J, cA_J, J_clamp, u2_at, reduceIte, S_144 hV.2, ha.1, ha.2.1]
      rw [if_neg (by omega), if_pos (by omega), q1]
      simp [clsL, e]
    · obtain ⟨a, g1, g2, g3, g4, g5⟩ := ha.2.2 e
      obtain ⟨m1, q1, q2⟩ := S_147 (d := d) hI hV (p := p) (dr := dr) (l := l) (i := i) hp hdr hl ⟨h0, by omega⟩ g1 g2 g3 g4 g5 (hc.2.2.1 e).2
      have hA1 : CluAt m1 (i + 1) r := CluAt.fr (q2.1 190 (by unfold piK; omega) (by omega)) (q2.1 191 (by unfold piK; omega) (by omega)) (q2.1 192 (by unfold piK; omega) (by omega)) (q2.1 193 (by unfold piK; omega) (by omega)) (q2.1 194 (by unfold piK; omega) (by omega)) _ _ hA.2
      have h190 : m1.1 190 i.toNat = J w := by rw [q2.1 190 (by unfold piK; omega) (by omega)]; exact ha.1
      have h191 : m1.1 191 i.toNat = J n := by rw [q2.1 191 (by unfold piK; omega) (by omega)]; exact ha.2.1
      have e9 : clsL ((w, n, ts) :: r) = ((if w = 0 then n else -n), ts) :: clsL r := by
        show (if w = 2 then clsL r else _) = _
        rw [if_neg e]
      have e10 : warm (lets A p dr l) (clsL ((w, n, ts) :: r)) = hd1 (evL (lets A p dr l) ts []) * (if w = 0 then n else -n) + warm (lets A p dr l) (clsL r) := by rw [e9]; rfl
      by_cases hh : hd1 (evL (lets A p dr l) ts []) = 1
      · obtain ⟨m', q3, q4⟩ := L_148 hI hp hdr hl h60 r (i + 1) (k + (if w = 0 then n else -n)) m1 (by omega) (by omega) hA1 hc.2.2.2 (hV.frP q2)
        refine ⟨m', ?_, q2.tr q4⟩
        rw [T_148_27, e10, hh]
        simp (disch := omega) only [kk, lits, q0_J, q1_J, q2_J, cI_J, cT_J, cB_J, cZ_J, cS_J, c1_J, cA_J, J_clamp, u2_at, reduceIte, S_144 hV.2, ha.1, q1, h190, h191]
        rw [if_neg (by omega), if_neg (by omega), if_pos hh, Int.one_mul]
        by_cases hw : w = 0
        · rw [if_pos hw] at q3 ⊢
          rw [if_pos hw, q3, Int.add_assoc]
        · rw [if_neg hw] at q3 ⊢
          rw [if_neg hw, q3, Int.add_assoc]
      · have hh0 : hd1 (evL (lets A p dr l) ts []) = 0 := (hd1_in _).resolve_right hh
        obtain ⟨m', q3, q4⟩ := L_148 hI hp hdr hl h60 r (i + 1) k m1 (by omega) (by omega) hA1 hc.2.2.2 (hV.frP q2)
        refine ⟨m', ?_, q2.tr q4⟩
        rw [T_148_27, e10, hh0]
        simp (disch := omega) only [kk, lits, q0_J, q1_J, q2_J, cI_J, cT_J, cB_J, cZ_J, cS_J, c1_J, cA_J, J_clamp, u2_at, reduceIte, S_144 hV.2, ha.1, q1, h190, h191]
        rw [if_neg (by omega), if_neg (by omega), if_neg hh, q3, Int.zero_mul, Int.zero_add]
theorem beg60 (hS : StgN h L m) : 0 ≤ begL h ∧ begL h + L.length ≤ 60 ∧ CluAt m (begL h) L := by
  rcases hS.2.1 with ⟨e, e2⟩ | ⟨e, e2, e3, e4⟩
  · subst e e2
    exact ⟨by unfold begL; omega, by unfold begL; simp, trivial⟩
  · have hb : begL h = 10 * h := by unfold begL; rw [if_neg (by omega)]
    rw [hb]
    exact ⟨by omega, by omega, e4⟩
theorem S_148 (hI : ShI A) (hV : ViewN sh h L A m) {p dr l : Int} (hp : 0 ≤ p ∧ p < A.1 0 0) (hdr : 0 ≤ dr ∧ dr ≤ 7) (hl : 0 ≤ l ∧ l ≤ 1) : ∃ m', cB Q0 (d + 3) 148 [.ref 177, .int (J p), .int (J dr), .int (J l)] m = some (some (.int (J (plainA A dr l + warm (lets A p dr l) (clsL L)))), m') ∧ FrR piK (fun _ => False) m m' := by
  obtain ⟨b0, b1, b2⟩ := beg60 hV.2
  obtain ⟨m', q1, q2⟩ := L_148 (d := d) hI hp hdr hl b1 L (begL h) (plainA A dr l) m b0 rfl b2 hV.2.2.2 hV
  have r1 := hV.1.2.1 1 (by omega) (by omega) dr hdr.1 (by omega)
  have r2 := hV.1.2.1 2 (by omega) (by omega) dr hdr.1 (by omega)
  have r1 : m.1 178 dr.toNat = J (A.1 1 dr) := r1
  have r2 : m.1 179 dr.toNat = J (A.1 2 dr) := r2
  refine ⟨m', ?_, q2⟩
  rw [cB_eq]
  show rB Q0 148 (cB Q0 (d + 2)) 0 [some (.ref 177), some (.int (J p)), some (.int (J dr)), some (.int (J l))] m = _
  rw [T_148_0]
  simp (disch := omega) only [kk, lits, q0_J, q1_J, q2_J, cI_J, cT_J, cB_J, cZ_J, cS_J, c1_J, cA_J, J_clamp, u2_at, reduceIte, r1, r2, S_143 hV.2]
  unfold plainA at q1 ⊢
  by_cases e : l = 0
  · rw [if_pos e] at q1 ⊢
    rw [if_pos e]
    exact q1
  · rw [if_neg e] at q1 ⊢
    rw [if_neg e]
    exact q1
theorem clsL_I : ∀ L : Cla, ClaI L → ClsI (clsL L)
  | [], _ => trivial
  | (w, k, ts) :: r, hI => by
    have hi := hI
    unfold ClaI at hi
    have ih := clsL_I r hi.2.2.2
    show ClsI (if w = 2 then clsL r else _)
    by_cases e : w = 2
    · rw [if_pos e]; exact ih
    · rw [if_neg e]
      refine ⟨?_, (hi.2.2.1 e).1, (hi.2.2.1 e).2, ih⟩
      split <;> omega
theorem clsL_len : ∀ L : Cla, (clsL L).length ≤ L.length
  | [] => Nat.le_refl _
  | (w, k, ts) :: r => by
    have := clsL_len r
    show (if w = 2 then clsL r else _).length ≤ r.length + 1
    split
    · omega
    · simp; omega
theorem L10 (hS : StgN h L m) : L.length ≤ 10 := by
  rcases hS.2.1 with ⟨e, e2⟩ | ⟨e, e2, e3, e4⟩
  · subst e2; simp
  · exact e3
theorem S_149 (hI : ShI A) (hV : ViewN sh h L A m) {p dr l : Int} (hp : 0 ≤ p ∧ p < A.1 0 0) (hdr : 0 ≤ dr ∧ dr ≤ 7) (hl : 0 ≤ l ∧ l ≤ 1) : ∃ m', cB Q0 (d + 4) 149 [.ref 177, .int (J p), .int (J dr), .int (J l)] m = some (some (.int (J (toneA A (clsL L) p dr l))), m') ∧ FrR piK (fun _ => False) m m' := by
  obtain ⟨m', q1, q2⟩ := S_148 (d := d) hI hV (p := p) (dr := dr) (l := l) hp hdr hl
  have hV1 := hV.frP q2
  have i0 := hI.1.1
  have i1 := hI.1.2.1
  have hH := hV1.1.2.2.1 p hp.1 hp.2
  have hHI := hI.2.2.1 p hp.1 hp.2
  have b0 := hHI.1.1
  have a0 := hH.1.1
  have a1 := hH.1.2.1
  have a2 := hH.1.2.2.1
  have r1 := hH.2.1 (dr % 4) (by omega) (by omega)
  have a3 := hV1.1.1.2.2.2
  have e4 := tmod4 hdr.1
  have hpl := plain_in hI (l := l) hdr
  have hw := warm_bd (lets A p dr l) (clsL L) (clsL_I L hV.2.2.2)
  have hlen := clsL_len L
  have h10 := L10 hV.2
  refine ⟨m', ?_, q2⟩
  rw [cB_eq]
  show rB Q0 149 (cB Q0 (d + 3)) 0 [some (.ref 177), some (.int (J p)), some (.int (J dr)), some (.int (J l))] m = _
  rw [T_149_0]
  unfold toneA toneH byFront
  generalize hs : plainA A dr l + warm (lets A p dr l) (clsL L) = s at q1
  have emin : (if A.1 0 1 < 20 then A.1 0 1 else 20) = (if 20 < A.1 0 1 then 20 else A.1 0 1) := by
    split <;> split <;> omega
  simp (disch := omega) only [kk, lits, q0_J, q1_J, q2_J, cI_J, cT_J, cB_J, cZ_J, cS_J, c1_J, cA_J, J_clamp, u2_at, reduceIte, q1, a3, S_111, a0, a1, a2, J_div, e4, r1, emin]
  by_cases k1 : A.2.1 p 0 0 = 1
  · simp [k1]
    split <;> rfl
  · by_cases k2 : A.2.1 p 0 0 = 2
    · simp [k2]
    · by_cases k3 : A.2.1 p 0 0 = 3
      · simp [k3]
      · by_cases k4 : A.2.1 p 0 0 = 4
        · by_cases k0 : l = 0
          · simp [k4, k0]
          · have k9 : l = 1 := by omega
            simp [k4, k9]
        · by_cases k5 : A.2.1 p 0 0 = 5
          · simp [k5]
          · by_cases k6 : A.2.1 p 0 0 = 6
            · simp [k6]
            · simp [k1, k2, k3, k4, k5, k6]
end
