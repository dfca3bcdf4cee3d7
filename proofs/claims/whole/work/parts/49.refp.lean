/-! THE REFERENCE: off, near, what is not so -/
def cntF (H : Nat → Int → Int) (w c : Int) : Int := if H 2 c = -1 then 0 else if H 2 c = w then 0 else 1
theorem her_cnt (H : Nat → Int → Int) (w : Int) : ∀ (n : Nat) (c : Int), sumF (herF H w) c n = sumF (cntF H w) c n * H 0 2
  | 0, _ => by simp [sumF]
  | n + 1, c => by
    have e1 : sumF (herF H w) c (n + 1) = herF H w c + sumF (herF H w) (c + 1) n := rfl
    have e2 : sumF (cntF H w) c (n + 1) = cntF H w c + sumF (cntF H w) (c + 1) n := rfl
    rw [e1, e2, her_cnt H w n (c + 1), Int.add_mul]
    congr 1
    unfold herF cntF
    split
    · simp
    · split <;> simp
section
variable {m : SM} {d : Nat} {A : Shp} {sh h : Int} {L : Cla}
theorem thI_of (hS : StgN h L m) (ht : totC (clsL L) ≤ 100) : ThI (rainL 0 L, clsL L) :=
  ⟨rainL_in L 0 hS.2.2 (by omega), Nat.le_trans (clsL_len L) (L10 hS), ht, clsL_I L hS.2.2⟩
theorem L_152 (hI : ShI A) (ht : ThI (rainL 0 L, clsL L)) {p l w : Int} (hp : 0 ≤ p ∧ p < A.1 0 0) (hl : 0 ≤ l ∧ l ≤ 1) (hw : -1 ≤ w ∧ w ≤ 7) : ∀ (n : Nat) (c s k : Int) (m : SM), 0 ≤ c → c + n = 8 → ViewN sh h L A m → -100000 ≤ s + sumF (togF (A.2.1 p) (fun dr => toneA A (clsL L) p dr l) w) c n → s + sumF (togF (A.2.1 p) (fun dr => toneA A (clsL L) p dr l) w) c n ≤ 100000 → 0 ≤ k → k + n ≤ 8 → ∃ m', rB Q0 152 (cB Q0 (d + 4)) 12 [some (.ref 177), some (.int (J p)), some (.int (J l)), some (.int (J w)), some (.int (J s)), some (.int (J k)), some (.int (J (8 * p + c)))] m = some (some (.int (J (ab (s + sumF (togF (A.2.1 p) (fun dr => toneA A (clsL L) p dr l) w) c n - (k + sumF (cntF (A.2.1 p) w) c n) * A.2.1 p 0 2)))), m') ∧ FrR piK (fun _ => False) m m' := by
  have i0 := hI.1.1
  have hHI := hI.2.2.1 p hp.1 hp.2
  have b2 := hHI.1.2.2.1
  intro n
  induction n with
  | zero =>
    intro c s k m h0 h1 hV h2 h3 h4 h5
    obtain rfl : c = 8 := by omega
    have a2 := (hV.1.2.2.1 p hp.1 hp.2).1.2.2.1
    have hk : 0 ≤ k * A.2.1 p 0 2 ∧ k * A.2.1 p 0 2 ≤ 8 * 99 := ⟨Int.mul_nonneg h4 b2.1, Int.mul_le_mul (by omega) b2.2 b2.1 (by omega)⟩
    refine ⟨m, ?_, FrR.rf⟩
    unfold sumF at h2 h3
    rw [T_152_12]
    simp (disch := omega) only [kk, lits, q0_J, q1_J, q2_J, cI_J, cT_J, cB_J, cZ_J, cS_J, c1_J, cA_J, J_clamp, u2_at, reduceIte, a2, S_112]
    rw [if_pos (by omega)]
    simp [sumF]
  | succ n ih =>
    intro c s k m h0 h1 hV h2 h3 h4 h5
    have hi := hHI.2.2 c h0 (by omega)
    have hH := hV.1.2.2.1 p hp.1 hp.2
    have r3 := hH.2.2.2 c h0 (by omega)
    have e1 : sumF (togF (A.2.1 p) (fun dr => toneA A (clsL L) p dr l) w) c (n + 1) = togF (A.2.1 p) (fun dr => toneA A (clsL L) p dr l) w c + sumF (togF (A.2.1 p) (fun dr => toneA A (clsL L) p dr l) w) (c + 1) n := rfl
    have e2 : sumF (cntF (A.2.1 p) w) c (n + 1) = cntF (A.2.1 p) w c + sumF (cntF (A.2.1 p) w) (c + 1) n := rfl
    rw [e1] at h2 h3 ⊢
    rw [e2]
    have e8 : 8 * p + c + 1 = 8 * p + (c + 1) := by omega
    by_cases hz : A.2.1 p 2 c = -1
    · have t0 : togF (A.2.1 p) (fun dr => toneA A (clsL L) p dr l) w c = 0 := by simp [togF, hz]
      have c0 : cntF (A.2.1 p) w c = 0 := by simp [cntF, hz]
      rw [t0, Int.zero_add] at h2 h3 ⊢
      rw [c0, Int.zero_add]
      obtain ⟨m', q1, q2⟩ := ih (c + 1) s k m (by omega) (by omega) hV h2 h3 h4 (by omega)
      refine ⟨m', ?_, q2⟩
      rw [T_152_12]
      simp (disch := omega) only [kk, lits, q0_J, q1_J, q2_J, cI_J, cT_J, cB_J, cZ_J, cS_J, c1_J, cA_J, J_clamp, u2_at, reduceIte, r3, e8]
      rw [if_neg (by omega), if_pos (by omega), q1]
    · have r2 := hH.2.2.1 c h0 (by omega) hz
      by_cases hq : A.2.1 p 2 c = w
      · have t0 : togF (A.2.1 p) (fun dr => toneA A (clsL L) p dr l) w c = 0 := by simp [togF, hq]
        have c0 : cntF (A.2.1 p) w c = 0 := by simp [cntF, hq]
        rw [t0, Int.zero_add] at h2 h3 ⊢
        rw [c0, Int.zero_add]
        obtain ⟨m', q1, q2⟩ := ih (c + 1) s k m (by omega) (by omega) hV h2 h3 h4 (by omega)
        refine ⟨m', ?_, q2⟩
        rw [T_152_12]
        simp (disch := omega) only [kk, lits, q0_J, q1_J, q2_J, cI_J, cT_J, cB_J, cZ_J, cS_J, c1_J, cA_J, J_clamp, u2_at, reduceIte, r3, r2, e8]
        rw [if_neg (by omega), if_neg (by omega), if_pos hq, q1]
      · have t0 : togF (A.2.1 p) (fun dr => toneA A (clsL L) p dr l) w c = toneA A (clsL L) p (A.2.1 p 2 c) l := by simp [togF, hz, hq]
        have c0 : cntF (A.2.1 p) w c = 1 := by simp [cntF, hz, hq]
        rw [t0] at h2 h3 ⊢
        rw [c0]
        obtain ⟨m1, q1, q2⟩ := S_149 (d := d) hI hV (p := p) (dr := A.2.1 p 2 c) (l := l) hp (by omega) hl
        obtain ⟨m', q3, q4⟩ := ih (c + 1) (s + toneA A (clsL L) p (A.2.1 p 2 c) l) (k + 1) m1 (by omega) (by omega) (hV.frP q2) (by omega) (by omega) (by omega) (by omega)
        refine ⟨m', ?_, q2.tr q4⟩
        rw [T_152_12]
        simp (disch := omega) only [kk, lits, q0_J, q1_J, q2_J, cI_J, cT_J, cB_J, cZ_J, cS_J, c1_J, cA_J, J_clamp, u2_at, reduceIte, r3, r2, q1, e8]
        rw [if_neg (by omega), if_neg (by omega), if_neg hq, q3]
        rw [Int.add_assoc, Int.add_assoc k 1]
theorem S_152 (hI : ShI A) (hV : ViewN sh h L A m) (ht : ThI (rainL 0 L, clsL L)) {p l w : Int} (hp : 0 ≤ p ∧ p < A.1 0 0) (hl : 0 ≤ l ∧ l ≤ 1) (hw : -1 ≤ w ∧ w ≤ 7) : ∃ m', cB Q0 (d + 5) 152 [.ref 177, .int (J p), .int (J l), .int (J w)] m = some (some (.int (J (offA A (clsL L) p l w))), m') ∧ FrR piK (fun _ => False) m m' := by
  have hb := sumF_bd (f := togF (A.2.1 p) (fun dr => toneA A (clsL L) p dr l) w) (B := 3000) 8 0 fun j h0 h1 => by
    have hi := (hI.2.2.1 p hp.1 hp.2).2.2 j h0 (by omega)
    have hbd := fun q (hq : 0 ≤ q ∧ q ≤ 7) => toneA_bd hI ht (l := l) hp (dr := q) hq
    unfold togF
    split
    · omega
    · split
      · omega
      · exact hbd _ (by omega)
  obtain ⟨m', q1, q2⟩ := L_152 (d := d) hI ht (p := p) (l := l) (w := w) hp hl hw 8 0 0 0 m (by omega) (by omega) hV (by omega) (by omega) (by omega) (by omega)
  refine ⟨m', ?_, q2⟩
  rw [Int.zero_add, Int.zero_add, ← her_cnt, Int.add_zero] at q1
  rw [cB_eq]
  show rB Q0 152 (cB Q0 (d + 4)) 0 [some (.ref 177), some (.int (J p)), some (.int (J l)), some (.int (J w))] m = _
  rw [T_152_0]
  simp (disch := omega) only [kk, lits, q0_J, q1_J, q2_J, cI_J, cT_J, cB_J, cZ_J, cS_J, c1_J, cA_J, J_clamp, u2_at, reduceIte]
  exact q1
theorem S_153 (hI : ShI A) (hV : ViewN sh h L A m) (ht : ThI (rainL 0 L, clsL L)) {p l : Int} (hp : 0 ≤ p ∧ p < A.1 0 0) (hl : 0 ≤ l ∧ l ≤ 1) : ∃ m', cB Q0 (d + 6) 153 [.ref 177, .int (J p), .int (J l)] m = some (some (.int (J (offA A (clsL L) p l (-1)))), m') ∧ FrR piK (fun _ => False) m m' := by
  obtain ⟨m', q1, q2⟩ := S_152 (d := d) hI hV ht (p := p) (l := l) (w := -1) hp hl (by omega)
  refine ⟨m', ?_, q2⟩
  rw [cB_eq]
  show rB Q0 153 (cB Q0 (d + 5)) 0 [some (.ref 177), some (.int (J p)), some (.int (J l))] m = _
  rw [T_153_0]
  simp (disch := omega) only [kk, lits, q0_J, q1_J, q2_J, cI_J, cT_J, cB_J, cZ_J, cS_J, c1_J, cA_J, J_clamp, u2_at, reduceIte, q1]
theorem L_161 (hI : ShI A) (ht : ThI (rainL 0 L, clsL L)) {p : Int} (hp : 0 ≤ p ∧ p < A.1 0 0) : ∀ (N : Nat) (c b w low : Int) (m : SM), 0 ≤ c → c + N = 8 → ((b = -5 ∧ w = 2147483647 ∧ 0 ≤ low ∧ low ≤ 100000) ∨ (0 ≤ b ∧ b ≤ 7 ∧ low = w ∧ 0 ≤ w ∧ w ≤ 100000)) → ViewN sh h L A m → ∃ m', rB Q0 161 (cB Q0 (d + 4)) 8 [some (.ref 177), some (.int (J p)), some (.int (J b)), some (.int (J low)), some (.int (J c))] m = some (some (.int (J (nearF (nearV A (clsL L) p) (A.1 3) N c b w))), m') ∧ FrR piK (fun _ => False) m m' := by
  have i0 := hI.1.1
  have hHI := hI.2.2.1 p hp.1 hp.2
  have b2 := hHI.1.2.2.1
  intro N
  induction N with
  | zero =>
    intro c b w low m h0 h1 h2 hV
    obtain rfl : c = 8 := by omega
    refine ⟨m, ?_, FrR.rf⟩
    rw [T_161_8]
    simp (disch := omega) only [kk, lits, q0_J, q1_J, q2_J, cI_J, cT_J, cB_J, cZ_J, cS_J, c1_J, cA_J, J_clamp, u2_at, reduceIte]
    rw [if_pos (by omega)]
    rfl
  | succ N ih =>
    intro c b w low m h0 h1 h2 hV
    have hst : m.1 180 c.toNat = J (A.1 3 c) := hV.1.2.1 3 (by omega) (by omega) c h0 (by omega)
    have hsi := hI.2.1 3 (by omega) (by omega) c h0 (by omega)
    by_cases g0 : A.1 3 c ≤ 0
    · obtain ⟨m', q1, q2⟩ := ih (c + 1) b w low m (by omega) (by omega) h2 hV
      refine ⟨m', ?_, q2⟩
      rw [T_161_8]
      simp (disch := omega) only [kk, lits, q0_J, q1_J, q2_J, cI_J, cT_J, cB_J, cZ_J, cS_J, c1_J, cA_J, J_clamp, u2_at, reduceIte, hst]
      rw [if_neg (by omega), if_pos (by omega), q1, nearF_s, if_pos g0]
    · obtain ⟨m1, e1, k1⟩ := S_149 (d := d) hI hV (p := p) (dr := c) (l := 0) hp ⟨h0, by omega⟩ (by omega)
      have hV1 := hV.frP k1
      obtain ⟨m2, e2, k2⟩ := S_149 (d := d) hI hV1 (p := p) (dr := c) (l := 1) hp ⟨h0, by omega⟩ (by omega)
      have hV2 := hV1.frP k2
      have x1 := (hV1.1.2.2.1 p hp.1 hp.2).1.2.2.1
      have x2 := (hV2.1.2.2.1 p hp.1 hp.2).1.2.2.1
      have t0 : -3000 ≤ toneA A (clsL L) p c 0 ∧ toneA A (clsL L) p c 0 ≤ 3000 := toneA_bd hI ht (l := 0) hp (dr := c) ⟨h0, by omega⟩
      have t1 : -3000 ≤ toneA A (clsL L) p c 1 ∧ toneA A (clsL L) p c 1 ≤ 3000 := toneA_bd hI ht (l := 1) hp (dr := c) ⟨h0, by omega⟩
      have n0 := ab_nn (toneA A (clsL L) p c 0 - A.2.1 p 0 2)
      have n1 := ab_nn (toneA A (clsL L) p c 1 - A.2.1 p 0 2)
      have b0 := ab_bd (x := toneA A (clsL L) p c 0 - A.2.1 p 0 2) (B := 10000) (by omega)
      have b1 := ab_bd (x := toneA A (clsL L) p c 1 - A.2.1 p 0 2) (B := 10000) (by omega)
      obtain ⟨v, hv⟩ : ∃ v, v = nearV A (clsL L) p c := ⟨_, rfl⟩
      have hv2 : v = (if ab (toneA A (clsL L) p c 0 - A.2.1 p 0 2) < ab (toneA A (clsL L) p c 1 - A.2.1 p 0 2) then ab (toneA A (clsL L) p c 1 - A.2.1 p 0 2) else ab (toneA A (clsL L) p c 0 - A.2.1 p 0 2)) := hv
      have hvb : 0 ≤ v ∧ v ≤ 10000 := by rw [hv2]; split <;> omega
      have hrun : rB Q0 161 (cB Q0 (d + 4)) 8 [some (.ref 177), some (.int (J p)), some (.int (J b)), some (.int (J low)), some (.int (J c))] m = if b < 0 then rB Q0 161 (cB Q0 (d + 4)) 8 [some (.ref 177), some (.int (J p)), some (.int (J c)), some (.int (J v)), some (.int (J (c + 1)))] m2 else if v < low then rB Q0 161 (cB Q0 (d + 4)) 8 [some (.ref 177), some (.int (J p)), some (.int (J c)), some (.int (J v)), some (.int (J (c + 1)))] m2 else rB Q0 161 (cB Q0 (d + 4)) 8 [some (.ref 177), some (.int (J p)), some (.int (J b)), some (.int (J low)), some (.int (J (c + 1)))] m2 := by
        have hbr : -5 ≤ b ∧ b ≤ 7 := by omega
        have hlr : 0 ≤ low ∧ low ≤ 100000 := by omega
        rw [T_161_8]
        simp (disch := omega) only [kk, lits, q0_J, q1_J, q2_J, cI_J, cT_J, cB_J, cZ_J, cS_J, c1_J, cA_J, J_clamp, u2_at, reduceIte, hst, e1, x1, S_112, e2, x2]
        rw [if_neg (by omega), if_neg (by omega)]
        by_cases hle : ab (toneA A (clsL L) p c 0 - A.2.1 p 0 2) ≤ ab (toneA A (clsL L) p c 1 - A.2.1 p 0 2)
        · have hv3 : v = ab (toneA A (clsL L) p c 1 - A.2.1 p 0 2) := by rw [hv2]; split <;> omega
          rw [if_pos hle, ← hv3]
        · have hv3 : v = ab (toneA A (clsL L) p c 0 - A.2.1 p 0 2) := by rw [hv2]; split <;> omega
          rw [if_neg hle, ← hv3]
      rw [hrun, nearF_s, if_neg g0, ← hv]
      by_cases g1 : w ≤ v
      · obtain ⟨m', q1, q2⟩ := ih (c + 1) b w low m2 (by omega) (by omega) h2 hV2
        refine ⟨m', ?_, (k1.tr k2).tr q2⟩
        rw [if_neg (by omega), if_neg (by omega), if_pos g1, q1]
      · obtain ⟨m', q1, q2⟩ := ih (c + 1) c v v m2 (by omega) (by omega) (Or.inr ⟨h0, by omega, rfl, hvb.1, by omega⟩) hV2
        refine ⟨m', ?_, (k1.tr k2).tr q2⟩
        rw [if_neg g1]
        by_cases g2 : b < 0
        · rw [if_pos g2, q1]
        · rw [if_neg g2, if_pos (by omega), q1]
theorem S_161 (hI : ShI A) (hV : ViewN sh h L A m) (ht : ThI (rainL 0 L, clsL L)) {p : Int} (hp : 0 ≤ p ∧ p < A.1 0 0) : ∃ m', cB Q0 (d + 5) 161 [.ref 177, .int (J p)] m = some (some (.int (J (nearA A (clsL L) p))), m') ∧ FrR piK (fun _ => False) m m' := by
  obtain ⟨m', q1, q2⟩ := L_161 (d := d) hI ht (p := p) hp 8 0 (-5) 2147483647 0 m (by omega) (by omega) (Or.inl ⟨rfl, rfl, by omega, by omega⟩) hV
  refine ⟨m', ?_, q2⟩
  rw [cB_eq]
  show rB Q0 161 (cB Q0 (d + 4)) 0 [some (.ref 177), some (.int (J p))] m = _
  rw [T_161_0]
  exact q1
end
