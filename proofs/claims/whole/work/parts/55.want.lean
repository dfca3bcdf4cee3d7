/-! WANTED, of the class: which HERS would make all rows so -/
def posF (ok : Int → Bool) : Nat → Int → Int → Int → Int × Int
  | 0, _, c, f => (c, f)
  | N + 1, v, c, f => if ok v = true then posF ok N (v - 1) (c + 1) v else posF ok N (v - 1) c f
theorem posF_s {ok : Int → Bool} {N : Nat} {v c f : Int} : posF ok (N + 1) v c f = if ok v = true then posF ok N (v - 1) (c + 1) v else posF ok N (v - 1) c f := rfl
def okP (A : Shp) (c : Cls) (p k v : Int) : Bool := decide (wrongA (upHd A p (upH (A.2.1 p) 0 k v)) c p = -5)
def possA (A : Shp) (c : Cls) (p k w : Int) : Int := if w = 0 then (posF (okP A c p k) (if k = 2 then 100 else 10) (if k = 2 then 99 else 9) 0 (-5)).1 else (posF (okP A c p k) (if k = 2 then 100 else 10) (if k = 2 then 99 else 9) 0 (-5)).2
theorem sumF_mul (v : Int) (f : Int → Int) : ∀ (n : Nat) (c : Int), sumF (fun j => v * f j) c n = v * sumF f c n
  | 0, _ => by simp [sumF]
  | n + 1, c => by
    have e1 : sumF (fun j => v * f j) c (n + 1) = v * f c + sumF (fun j => v * f j) (c + 1) n := rfl
    have e2 : sumF f c (n + 1) = f c + sumF f (c + 1) n := rfl
    rw [e1, e2, sumF_mul v f n (c + 1), Int.mul_add]
theorem upHd_p (A : Shp) (p : Int) (H : Nat → Int → Int) : (upHd A p H).2.1 p = H := if_pos rfl
theorem her_off (A : Shp) (c : Cls) (p l v : Int) : offA (upHd A p (upH (A.2.1 p) 0 2 v)) c p l (-1) = if A.2.1 p 0 0 = 4 ∧ l = 0 then 0 else ab (tog (A.2.1 p) (fun dr => toneA A c p dr l) (-1) - v * hairs (A.2.1 p)) := by
  have eH : (upHd A p (upH (A.2.1 p) 0 2 v)).2.1 p = upH (A.2.1 p) 0 2 v := upHd_p _ _ _
  have h00 : upH (A.2.1 p) 0 2 v 0 0 = A.2.1 p 0 0 := if_neg (by omega)
  have h01 : upH (A.2.1 p) 0 2 v 0 1 = A.2.1 p 0 1 := if_neg (by omega)
  have h02 : upH (A.2.1 p) 0 2 v 0 2 = v := if_pos ⟨rfl, rfl⟩
  have h1 : ∀ j, upH (A.2.1 p) 0 2 v 1 j = A.2.1 p 1 j := fun j => if_neg (by omega)
  have h2 : ∀ j, upH (A.2.1 p) 0 2 v 2 j = A.2.1 p 2 j := fun j => if_neg (by omega)
  have eL : ∀ dr, lets (upHd A p (upH (A.2.1 p) 0 2 v)) p dr l = lets A p dr l := fun dr => by
    funext j
    unfold lets
    rw [eH, h00, h01]
    rfl
  have eA : asOft (upH (A.2.1 p) 0 2 v) (-1) = v * hairs (A.2.1 p) := by
    unfold asOft hairs
    rw [← sumF_mul]
    refine sumF_congr 8 0 fun j _ _ => ?_
    unfold herF hairF
    rw [h2, h02]
    by_cases e : A.2.1 p 2 j = -1
    · rw [if_pos e, if_pos e, Int.mul_zero]
    · rw [if_neg e, if_neg e, if_neg e, Int.mul_one]
  unfold offA offH
  rw [eH, eA]
  by_cases k : A.2.1 p 0 0 = 4 ∧ l = 0
  · rw [if_pos k]
    have et : ∀ dr, toneA (upHd A p (upH (A.2.1 p) 0 2 v)) c p dr l = v := fun dr => by
      unfold toneA toneH
      rw [eH, h00, h02, if_neg (show ¬ A.2.1 p 0 0 = 1 by omega), if_neg (show ¬ A.2.1 p 0 0 = 2 by omega), if_neg (show ¬ A.2.1 p 0 0 = 3 by omega), if_pos k.1, if_pos k.2]
    have eT : tog (upH (A.2.1 p) 0 2 v) (fun dr => toneA (upHd A p (upH (A.2.1 p) 0 2 v)) c p dr l) (-1) = v * hairs (A.2.1 p) := by
      unfold tog hairs
      rw [← sumF_mul]
      refine sumF_congr 8 0 fun j _ _ => ?_
      unfold togF hairF
      rw [h2]
      by_cases e : A.2.1 p 2 j = -1
      · rw [if_pos e, if_pos e, Int.mul_zero]
      · rw [if_neg e, if_neg e, if_neg e, Int.mul_one]
        exact et _
    rw [eT, Int.sub_self]
    rfl
  · rw [if_neg k]
    have eT : ∀ dr, toneA (upHd A p (upH (A.2.1 p) 0 2 v)) c p dr l = toneA A c p dr l := fun dr => by
      unfold toneA
      rw [eL, eH]
      unfold toneH byFront
      rw [h00, h01, h1]
      have e1 : plainA (upHd A p (upH (A.2.1 p) 0 2 v)) dr l = plainA A dr l := rfl
      have e2 : (upHd A p (upH (A.2.1 p) 0 2 v)).1 0 1 = A.1 0 1 := rfl
      rw [e1, e2]
      by_cases k4 : A.2.1 p 0 0 = 4
      · have kl : ¬ l = 0 := fun z => k ⟨k4, z⟩
        simp only [if_neg kl]
      · simp only [if_neg k4]
    have eG : tog (upH (A.2.1 p) 0 2 v) (fun dr => toneA (upHd A p (upH (A.2.1 p) 0 2 v)) c p dr l) (-1) = tog (A.2.1 p) (fun dr => toneA A c p dr l) (-1) := by
      unfold tog
      refine sumF_congr 8 0 fun j _ _ => ?_
      unfold togF
      rw [h2]
      simp only [eT]
    rw [eG]
def TogR (A : Shp) (c : Cls) (p : Int) (i : Int) (m : SM) : Prop := ∀ j, 0 ≤ j → j < i → A.2.2 0 1 j = p → m.1 139 j.toNat = J (tog (A.2.1 p) (fun dr => toneA A c p dr (A.2.2 0 2 j)) (-1))
section
variable {m : SM} {d : Nat} {n : Int} {T : Int × Cls} {A : Shp}
theorem L_104 (hI : ShI A) (hV : View 1 n T A m) {p v : Int} (hp : 0 ≤ p ∧ p < A.1 0 0) (hv : 0 ≤ v ∧ v ≤ 99) (hG : TogR A T.2 p (A.2.2 0 0 0) m) : ∀ (N : Nat) (i : Int), 0 ≤ i → i + N = A.2.2 0 0 0 → rB Q0 104 (cB Q0 (d + 1)) 21 [some (.ref 0), some (.int (J p)), none, some (.ref (hd 1 p)), some (.int (J (v * hairs (A.2.1 p)))), some (.int (J i))] m = some (some (.int (bi (wrongF (upHd A p (upH (A.2.1 p) 0 2 v)) T.2 p N i = -5))), m) := by
  have i0 := hI.1.1
  have q := hI.2.2.2.1
  have hF := hd_F (s := 1) (Or.inl rfl) hp.1 (show p < 6 by omega)
  have hh := hairs_in (A.2.1 p)
  have hHI := hI.2.2.1 p hp.1 hp.2
  have vh : 0 ≤ v * hairs (A.2.1 p) ∧ v * hairs (A.2.1 p) ≤ 99 * 8 := ⟨Int.mul_nonneg hv.1 hh.1, Int.mul_le_mul hv.2 hh.2 hh.1 (by omega)⟩
  intro N
  induction N with
  | zero =>
    intro i h0 h1
    have r0 : m.1 6 0 = J (A.2.2 0 0 0) := (hV.1.2.2.2 0 (by omega)).1
    rw [T_104_21]
    simp (disch := omega) only [kk, lits, q0_J, q1_J, q2_J, cI_J, cT_J, cB_J, cZ_J, cS_J, c1_J, cA_J, J_clamp, u2_at, reduceIte, r0]
    rw [if_pos (by omega)]
    rfl
  | succ N ih =>
    intro i h0 h1
    have hrow := hV.1.2.2.2 0 (by omega)
    have r0 : m.1 6 0 = J (A.2.2 0 0 0) := hrow.1
    have r1 : m.1 7 i.toNat = J (A.2.2 0 1 i) := hrow.2 1 (by omega) (by omega) i h0 (by omega)
    have r2 : m.1 8 i.toNat = J (A.2.2 0 2 i) := hrow.2 2 (by omega) (by omega) i h0 (by omega)
    have r3 : m.1 9 i.toNat = J (A.2.2 0 3 i) := hrow.2 3 (by omega) (by omega) i h0 (by omega)
    have qi := q.2 i h0 (by omega)
    have e1 := S_10 (d := d) hF (hV.1.2.2.1 p hp.1 hp.2) hHI qi.2.1
    have es : wrongF (upHd A p (upH (A.2.1 p) 0 2 v)) T.2 p (N + 1) i = if (p = -1 ∨ A.2.2 0 1 i = p) ∧ ¬ offA (upHd A p (upH (A.2.1 p) 0 2 v)) T.2 (A.2.2 0 1 i) (A.2.2 0 2 i) (-1) = A.2.2 0 3 i then i else wrongF (upHd A p (upH (A.2.1 p) 0 2 v)) T.2 p N (i + 1) := rfl
    have e2 := ih (i + 1) (by omega) (by omega)
    rw [T_104_21]
    by_cases hc : A.2.2 0 1 i = p
    · rw [es, hc, her_off]
      have hg := hG i h0 (by omega) hc
      have hb := tog_bd hHI (t := fun dr => toneA A T.2 p dr (A.2.2 0 2 i)) (toneA_bd8 hI hV.2.2.2 hp) (-1)
      have ha := ab_bd (x := tog (A.2.1 p) (fun dr => toneA A T.2 p dr (A.2.2 0 2 i)) (-1) - v * hairs (A.2.1 p)) (B := 900000) (by omega)
      have ha0 := ab_nn (tog (A.2.1 p) (fun dr => toneA A T.2 p dr (A.2.2 0 2 i)) (-1) - v * hairs (A.2.1 p))
      by_cases k : A.2.1 p 0 0 = 4 ∧ A.2.2 0 2 i = 0
      · rw [if_pos k]
        have e3 := S_210 (m := m) (d := d) (x := v * hairs (A.2.1 p) - v * hairs (A.2.1 p)) (by omega) (by omega)
        rw [Int.sub_self, show ab 0 = 0 from rfl] at e3
        simp (disch := omega) only [kk, lits, q0_J, q1_J, q2_J, cI_J, cT_J, cB_J, cZ_J, cS_J, c1_J, cA_J, J_clamp, u2_at, reduceIte, r0, r1, r2, r3, hc, hF.1.1, cO_J, e1, bi, if_pos k, Int.sub_self, e3, e2]
        rw [if_neg (by omega), if_neg (by omega)]
        by_cases c0 : 0 = A.2.2 0 3 i
        · rw [if_pos c0, if_neg (fun z : (p = -1 ∨ True) ∧ ¬ 0 = A.2.2 0 3 i => z.2 c0)]
        · rw [if_neg c0, if_pos (show (p = -1 ∨ True) ∧ ¬ 0 = A.2.2 0 3 i from ⟨Or.inr trivial, c0⟩), if_neg (by omega)]
      · rw [if_neg k]
        have e3 := S_210 (m := m) (d := d) (x := tog (A.2.1 p) (fun dr => toneA A T.2 p dr (A.2.2 0 2 i)) (-1) - v * hairs (A.2.1 p)) (by omega) (by omega)
        simp (disch := omega) only [kk, lits, q0_J, q1_J, q2_J, cI_J, cT_J, cB_J, cZ_J, cS_J, c1_J, cA_J, J_clamp, u2_at, reduceIte, r0, r1, r2, r3, hc, hF.1.1, cO_J, e1, bi, if_neg k, hg, e3, e2]
        rw [if_neg (by omega)]
        by_cases c0 : ab (tog (A.2.1 p) (fun dr => toneA A T.2 p dr (A.2.2 0 2 i)) (-1) - v * hairs (A.2.1 p)) = A.2.2 0 3 i
        · rw [if_pos c0, if_neg (fun z : (p = -1 ∨ True) ∧ ¬ _ = A.2.2 0 3 i => z.2 c0)]
        · rw [if_neg c0, if_pos (show (p = -1 ∨ True) ∧ ¬ _ = A.2.2 0 3 i from ⟨Or.inr trivial, c0⟩), if_neg (by omega)]
    · simp (disch := omega) only [kk, lits, q0_J, q1_J, q2_J, cI_J, cT_J, cB_J, cZ_J, cS_J, c1_J, cA_J, J_clamp, u2_at, reduceIte, r0, r1, e2]
      rw [if_neg (by omega), if_neg hc, es, if_neg (by omega)]
end
