/-! THE SETTERS: what they answer and leave (one for both sides) -/
def headA (A : Shp) (k v e : Int) : Int := if 0 ≤ k ∧ k ≤ 6 then (if 0 ≤ v ∧ v ≤ 9 then (if 0 ≤ e ∧ e ≤ 99 then (if A.1 0 0 < 6 then A.1 0 0 else -4) else -2) else -2) else -1
def headS (A : Shp) (k v e : Int) : Shp := if 0 ≤ k ∧ k ≤ 6 then (if 0 ≤ v ∧ v ≤ 9 then (if 0 ≤ e ∧ e ≤ 99 then (if A.1 0 0 < 6 then upS (upHd A (A.1 0 0) (newH k v e)) 0 (A.1 0 0 + 1) else A) else A) else A) else A
def setA (A : Shp) (p w x : Int) : Int := if 0 ≤ p ∧ p ≤ A.1 0 0 - 1 then (if 0 ≤ w ∧ w ≤ 1 then (if w = 0 then (if 0 ≤ x ∧ x ≤ 99 then A.2.1 p 0 2 else -2) else (if 0 ≤ x ∧ x ≤ 30 then A.2.1 p 0 3 else -2)) else -1) else -1
def setS (A : Shp) (p w x : Int) : Shp := if 0 ≤ p ∧ p ≤ A.1 0 0 - 1 then (if 0 ≤ w ∧ w ≤ 1 then (if w = 0 then (if 0 ≤ x ∧ x ≤ 99 then upHd A p (upH (A.2.1 p) 0 2 x) else A) else (if 0 ≤ x ∧ x ≤ 30 then upHd A p (upH (A.2.1 p) 0 3 x) else A)) else A) else A
def drwA (A : Shp) (r w x : Int) : Int := if 0 ≤ r ∧ r ≤ 7 then (if 0 ≤ w ∧ w ≤ 2 then (if 0 ≤ x ∧ x ≤ 99 then (if w = 0 then A.1 1 r else if w = 1 then A.1 2 r else A.1 3 r) else -2) else -1) else -1
def drwS (A : Shp) (r w x : Int) : Shp := if 0 ≤ r ∧ r ≤ 7 then (if 0 ≤ w ∧ w ≤ 2 then (if 0 ≤ x ∧ x ≤ 99 then (if w = 0 then upD A 1 r x else if w = 1 then upD A 2 r x else upD A 3 r x) else A) else A) else A
def knoA (A : Shp) (p c r t : Int) : Int := if 0 ≤ p ∧ p ≤ A.1 0 0 - 1 then (if 0 ≤ c ∧ c ≤ 7 then (if 0 ≤ r ∧ r ≤ 7 then (if 1 ≤ t ∧ t ≤ 9 then (if A.2.1 p 2 c = -1 then (if 0 < A.1 3 r then A.1 3 r - 1 else -4) else -3) else -2) else -1) else -1) else -1
def knoS (A : Shp) (p c r t : Int) : Shp := if 0 ≤ p ∧ p ≤ A.1 0 0 - 1 then (if 0 ≤ c ∧ c ≤ 7 then (if 0 ≤ r ∧ r ≤ 7 then (if 1 ≤ t ∧ t ≤ 9 then (if A.2.1 p 2 c = -1 then (if 0 < A.1 3 r then upD (upHd A p (upH (upH (A.2.1 p) 2 c r) 3 c t)) 3 r (A.1 3 r - 1) else A) else A) else A) else A) else A) else A
def sheA (A : Shp) (p : Int) : Int := if 0 ≤ p ∧ p ≤ A.1 0 0 - 1 then A.2.1 p 0 4 else -1
def sheS (A : Shp) (p b : Int) : Shp := if 0 ≤ p ∧ p ≤ A.1 0 0 - 1 then upHd A p (upH (A.2.1 p) 0 4 b) else A
def rowA (A : Shp) (p r x : Int) : Int := if 0 ≤ p ∧ p ≤ A.1 0 0 - 1 then (if 0 ≤ r ∧ r ≤ 3 then (if 0 ≤ x ∧ x ≤ 9 then (if A.2.1 p 0 0 = 6 then A.2.1 p 1 r else -3) else -2) else -1) else -1
def rowS (A : Shp) (p r x : Int) : Shp := if 0 ≤ p ∧ p ≤ A.1 0 0 - 1 then (if 0 ≤ r ∧ r ≤ 3 then (if 0 ≤ x ∧ x ≤ 9 then (if A.2.1 p 0 0 = 6 then upHd A p (upH (A.2.1 p) 1 r x) else A) else A) else A) else A
theorem ShR.cnt {s : Nat} {A : Shp} {m : SM} (h : ShR s A m) (hn : 0 ≤ A.1 0 0 ∧ A.1 0 0 ≤ 5) {H : Nat → Int → Int} (hH : HeadR (hd s (A.1 0 0)) H m) : ShR s (upS (upHd A (A.1 0 0) H) 0 (A.1 0 0 + 1)) (up2 m.1 s 4 (J (A.1 0 0 + 1)), m.2) := by
  have hF : Fr (fun k => k = s) m (up2 m.1 s 4 (J (A.1 0 0 + 1)), m.2) := Fr.put (K := fun k => k = s) rfl _ _
  obtain ⟨⟨a0, a1, a2, a3⟩, b, c, e⟩ := h
  have hc : (upS (upHd A (A.1 0 0) H) 0 (A.1 0 0 + 1)).1 0 0 = A.1 0 0 + 1 := by simp [upS, upH]
  refine ⟨⟨?_, ?_, ?_, ?_⟩, fun k h0 h1 j h2 h3 => ?_, fun p h0 h1 => ?_, fun k hk => (e k hk).fr hF fun k2 h2 h3 => by omega⟩
  · rw [hc]; simp [u2_at]
  · simp [u2_at, upS, upHd, upH, a1]
  · simp [u2_at, upS, upHd, upH, a2]
  · simp [u2_at, upS, upHd, upH, a3]
  · show up2 m.1 s 4 (J (A.1 0 0 + 1)) (s + k) j.toNat = J (upH A.1 0 0 (A.1 0 0 + 1) k j)
    rw [u2_ne _ _ (by omega), b k h0 h1 j h2 h3]
    unfold upH
    rw [if_neg (by omega)]
  · rw [hc] at h1
    show HeadR (hd s p) (if p = A.1 0 0 then H else A.2.1 p) _
    by_cases q : p = A.1 0 0
    · rw [if_pos q, q]
      exact hH.fr hF fun k h2 h3 => by unfold hd at h2; omega
    · rw [if_neg q]
      exact (c p h0 (by omega)).fr hF fun k h2 h3 => by unfold hd at h2; omega
section
variable {m : SM} {d : Nat} {A : Shp}
theorem S_50 (hI : ShI A) (hR : ShR 1 A m) {k v e : Int} (h1 : -2147483648 ≤ k ∧ k ≤ 2147483647) (h2 : -2147483648 ≤ v ∧ v ≤ 2147483647) (h3 : -2147483648 ≤ e ∧ e ≤ 2147483647) : ∃ m', cB Q0 (d + 4) 50 [.ref 0, .int (J k), .int (J v), .int (J e)] m = some (some (.int (J (headA A k v e))), m') ∧ ShR 1 (headS A k v e) m' ∧ Fr (sK 1) m m' := by
  have i0 := hI.1.1
  have a0 := hR.1.1
  have e1 := S_85 (m := m) (d := d + 2) h1.1 h1.2 (show -2147483648 ≤ (0 : Int) by omega) (by omega) (show -2147483648 ≤ (6 : Int) by omega) (by omega)
  have e2 := S_85 (m := m) (d := d + 2) h2.1 h2.2 (show -2147483648 ≤ (0 : Int) by omega) (by omega) (show -2147483648 ≤ (9 : Int) by omega) (by omega)
  have e3 := S_85 (m := m) (d := d + 2) h3.1 h3.2 (show -2147483648 ≤ (0 : Int) by omega) (by omega) (show -2147483648 ≤ (99 : Int) by omega) (by omega)
  have n6 : ∀ {α : Type} (x y : α), bT (Q0.1 1 (J (A.1 0 0)) 6) x y = if A.1 0 0 < 6 then x else y := fun x y => q1_J (b := 6) (by omega) (by omega) (by omega) (by omega) x y
  rw [cB_eq]
  show ∃ m', rB Q0 50 (cB Q0 (d + 3)) 0 [some (.ref 0), some (.int (J k)), some (.int (J v)), some (.int (J e))] m = _ ∧ _
  rw [T_50_0]
  unfold headA headS
  rw [show cB Q0 (d + 3) 85 [.int (J k), .int 0, .int 6] m = _ from e1, bI_e, nz_bi]
  by_cases c1 : 0 ≤ k ∧ k ≤ 6
  · rw [if_pos c1, if_pos c1, if_pos c1, show cB Q0 (d + 3) 85 [.int (J v), .int 0, .int 9] m = _ from e2, bI_e, nz_bi]
    by_cases c2 : 0 ≤ v ∧ v ≤ 9
    · rw [if_pos c2, if_pos c2, if_pos c2, show cB Q0 (d + 3) 85 [.int (J e), .int 0, .int 99] m = _ from e3, bI_e, nz_bi]
      by_cases c3 : 0 ≤ e ∧ e ≤ 99
      · rw [if_pos c3, if_pos c3, if_pos c3, bX_e, a0, n6]
        by_cases c4 : A.1 0 0 < 6
        · rw [if_pos c4, if_pos c4, if_pos c4]
          have hF := hd_F (Or.inl rfl : isS 1) i0.1 c4
          have g5 : GRt 5 (A.1 0 0).toNat = some (hd 1 (A.1 0 0)) := hd_g (Or.inl rfl : isS 1) i0.1 c4
          obtain ⟨m1, q1, q2, q3⟩ := S_4 (m := m) (d := d) hF (k := k) (v := v) (e := e)
          have f1 : Fr (sK 1) m m1 := q3.mono fun k hk => sK_hd (s := 1) i0.1 c4 hk
          have b0 : m1.1 1 4 = J (A.1 0 0) := by
            rw [q3.1 1 (by unfold hK hd; omega)]; exact a0
          have hR1 : ShR 1 (upHd A (A.1 0 0) (A.2.1 (A.1 0 0))) m1 := by
            refine (ShR.eq (A := A) (B := upHd A (A.1 0 0) (A.2.1 (A.1 0 0))) ?_ (fun _ _ => rfl) (fun p _ _ => ?_) rfl)
            · obtain ⟨z0, z1, z2, z3⟩ := hR
              refine ⟨?_, fun k h0 h1 j h2 h3 => ?_, fun p h0 h1 => (z2 p h0 h1).fr q3 fun k h2 h3 => ?_, fun k hk => (z3 k hk).fr q3 fun k2 h2 h3 => ?_⟩
              · rw [q3.1 1 (by unfold hK hd; omega)]; exact z0
              · rw [q3.1 (1 + k) (by unfold hK hd; omega)]; exact z1 k h0 h1 j h2 h3
              · unfold hd at h2 h3; unfold hK hd; omega
              · unfold hK hd; omega
            · show A.2.1 p = if p = A.1 0 0 then A.2.1 (A.1 0 0) else A.2.1 p
              split
              · rename_i w; rw [w]
              · rfl
          have hR2 := ShR.cnt hR1 (H := newH k v e) (show 0 ≤ A.1 0 0 ∧ A.1 0 0 ≤ 5 by omega) q2
          refine ⟨(up2 m1.1 1 4 (J (A.1 0 0 + 1)), m1.2), ?_, ?_, f1.tr (Fr.put (K := sK 1) (k := 1) (by unfold sK; omega) _ _)⟩
          · rw [bX_e, cA_J (n := 6) (by omega) (by omega) i0.1 (show A.1 0 0 < 6 from c4) (by omega), J_clamp i0.1 (by omega), g5, bO_e, hF.1.1, cO_J, q1, bV_e, bX_e, b0, bX_e, bX_e]
            show some (some (Value.int (up2 m1.1 1 4 (J (A.1 0 0) + J 1) 1 4 - J 1)), (up2 m1.1 1 4 (J (A.1 0 0) + J 1), m1.2)) = _
            rw [J_add, u2_at, if_pos rfl, J_sub, show A.1 0 0 + 1 - 1 = A.1 0 0 by omega]
          · refine ShR.eq hR2 (fun _ _ => rfl) (fun p _ _ => ?_) rfl
            show (if p = A.1 0 0 then newH k v e else if p = A.1 0 0 then A.2.1 (A.1 0 0) else A.2.1 p) = if p = A.1 0 0 then newH k v e else A.2.1 p
            split
            · rfl
            · rfl
        · rw [if_neg c4, if_neg c4, if_neg c4]
          exact ⟨m, rfl, hR, Fr.rf⟩
      · rw [if_neg c3, if_neg c3, if_neg c3]
        exact ⟨m, rfl, hR, Fr.rf⟩
    · rw [if_neg c2, if_neg c2, if_neg c2]
      exact ⟨m, rfl, hR, Fr.rf⟩
  · rw [if_neg c1, if_neg c1, if_neg c1]
    exact ⟨m, rfl, hR, Fr.rf⟩
theorem S_53 (hI : ShI A) (hR : ShR 1 A m) {p w x : Int} (h1 : -2147483648 ≤ p ∧ p ≤ 2147483647) (h2 : -2147483648 ≤ w ∧ w ≤ 2147483647) (h3 : -2147483648 ≤ x ∧ x ≤ 2147483647) : ∃ m', cB Q0 (d + 3) 53 [.ref 0, .int (J p), .int (J w), .int (J x)] m = some (some (.int (J (setA A p w x))), m') ∧ ShR 1 (setS A p w x) m' ∧ Fr (sK 1) m m' := by
  have i0 := hI.1.1
  have a0 := hR.1.1
  have e1 := S_87 (d := d) a0 i0.1 i0.2 h1.1 h1.2
  have e2 := S_85 (m := m) (d := d + 1) h2.1 h2.2 (show -2147483648 ≤ (0 : Int) by omega) (by omega) (show -2147483648 ≤ (1 : Int) by omega) (by omega)
  have e3 := S_85 (m := m) (d := d + 1) h3.1 h3.2 (show -2147483648 ≤ (0 : Int) by omega) (by omega) (show -2147483648 ≤ (99 : Int) by omega) (by omega)
  have e4 := S_85 (m := m) (d := d + 1) h3.1 h3.2 (show -2147483648 ≤ (0 : Int) by omega) (by omega) (show -2147483648 ≤ (30 : Int) by omega) (by omega)
  have n0 : ∀ {α : Type} (x y : α), bT (Q0.1 0 (J w) 0) x y = if w = 0 then x else y := fun x y => q0_J (b := 0) (by omega) (by omega) (by omega) (by omega) x y
  rw [cB_eq]
  show ∃ m', rB Q0 53 (cB Q0 (d + 2)) 0 [some (.ref 0), some (.int (J p)), some (.int (J w)), some (.int (J x))] m = _ ∧ _
  rw [T_53_0, e1, bI_e, nz_bi]
  unfold setA setS
  by_cases c1 : 0 ≤ p ∧ p ≤ A.1 0 0 - 1
  · rw [if_pos c1, if_pos c1, if_pos c1, show cB Q0 (d + 2) 85 [.int (J w), .int 0, .int 1] m = _ from e2, bI_e, nz_bi]
    have hF := hd_F (Or.inl rfl : isS 1) c1.1 (by omega)
    have g5 : GRt 5 p.toNat = some (hd 1 p) := hd_g (Or.inl rfl : isS 1) c1.1 (by omega)
    have hH := hR.2.2.1 p c1.1 (by omega)
    obtain ⟨⟨-, -, b2, b3, -⟩, -⟩ := id hH
    by_cases c2 : 0 ≤ w ∧ w ≤ 1
    · rw [if_pos c2, if_pos c2, if_pos c2, n0]
      by_cases c3 : w = 0
      · rw [if_pos c3, if_pos c3, if_pos c3, show cB Q0 (d + 2) 85 [.int (J x), .int 0, .int 99] m = _ from e3, bI_e, nz_bi]
        by_cases c4 : 0 ≤ x ∧ x ≤ 99
        · rw [if_pos c4, if_pos c4, if_pos c4]
          have k1 : Fr (hK (hd 1 p)) m (up2 m.1 (hd 1 p) 2 (J x), m.2) := Fr.put (by unfold hK; omega) _ _
          refine ⟨(up2 m.1 (hd 1 p) 2 (J x), m.2), ?_, hR.hdp i0.2 c1.1 k1 (hH.p0 (i := 2) (j := 2) rfl (by omega) x), k1.mono fun k hk => sK_hd (s := 1) c1.1 (by omega) hk⟩
          rw [cA_J (n := 6) (by omega) (by omega) c1.1 (show p < 6 by omega) (by omega), J_clamp c1.1 (by omega), g5, bO_e, n0, if_pos c3, hF.1.1, cO_J, bX_e, n0, if_pos c3, cO_J, b2, bX_e]
        · rw [if_neg c4, if_neg c4, if_neg c4]
          exact ⟨m, rfl, hR, Fr.rf⟩
      · rw [if_neg c3, if_neg c3, if_neg c3, show cB Q0 (d + 2) 85 [.int (J x), .int 0, .int 30] m = _ from e4, bI_e, nz_bi]
        by_cases c4 : 0 ≤ x ∧ x ≤ 30
        · rw [if_pos c4, if_pos c4, if_pos c4]
          have k1 : Fr (hK (hd 1 p)) m (up2 m.1 (hd 1 p) 3 (J x), m.2) := Fr.put (by unfold hK; omega) _ _
          refine ⟨(up2 m.1 (hd 1 p) 3 (J x), m.2), ?_, hR.hdp i0.2 c1.1 k1 (hH.p0 (i := 3) (j := 3) rfl (by omega) x), k1.mono fun k hk => sK_hd (s := 1) c1.1 (by omega) hk⟩
          rw [cA_J (n := 6) (by omega) (by omega) c1.1 (show p < 6 by omega) (by omega), J_clamp c1.1 (by omega), g5, bO_e, n0, if_neg c3, hF.1.1, cO_J, bX_e, n0, if_neg c3, cO_J, b3, bX_e]
        · rw [if_neg c4, if_neg c4, if_neg c4]
          exact ⟨m, rfl, hR, Fr.rf⟩
    · rw [if_neg c2, if_neg c2, if_neg c2]
      exact ⟨m, rfl, hR, Fr.rf⟩
  · rw [if_neg c1, if_neg c1, if_neg c1]
    exact ⟨m, rfl, hR, Fr.rf⟩
theorem S_54 (hI : ShI A) (hR : ShR 1 A m) {r w x : Int} (h1 : -2147483648 ≤ r ∧ r ≤ 2147483647) (h2 : -2147483648 ≤ w ∧ w ≤ 2147483647) (h3 : -2147483648 ≤ x ∧ x ≤ 2147483647) : ∃ m', cB Q0 (d + 3) 54 [.ref 0, .int (J r), .int (J w), .int (J x)] m = some (some (.int (J (drwA A r w x))), m') ∧ ShR 1 (drwS A r w x) m' ∧ Fr (sK 1) m m' := by
  have i0 := hI.1.1
  have e1 := S_88 (m := m) (d := d) h1.1 h1.2
  have e2 := S_85 (m := m) (d := d + 1) h2.1 h2.2 (show -2147483648 ≤ (0 : Int) by omega) (by omega) (show -2147483648 ≤ (2 : Int) by omega) (by omega)
  have e3 := S_85 (m := m) (d := d + 1) h3.1 h3.2 (show -2147483648 ≤ (0 : Int) by omega) (by omega) (show -2147483648 ≤ (99 : Int) by omega) (by omega)
  have n0 : ∀ {α : Type} (x y : α), bT (Q0.1 0 (J w) 0) x y = if w = 0 then x else y := fun x y => q0_J (b := 0) (by omega) (by omega) (by omega) (by omega) x y
  have n1 : ∀ {α : Type} (x y : α), bT (Q0.1 0 (J w) 1) x y = if w = 1 then x else y := fun x y => q0_J (b := 1) (by omega) (by omega) (by omega) (by omega) x y
  rw [cB_eq]
  show ∃ m', rB Q0 54 (cB Q0 (d + 2)) 0 [some (.ref 0), some (.int (J r)), some (.int (J w)), some (.int (J x))] m = _ ∧ _
  rw [T_54_0, e1, bI_e, nz_bi]
  unfold drwA drwS
  by_cases c1 : 0 ≤ r ∧ r ≤ 7
  · rw [if_pos c1, if_pos c1, if_pos c1, show cB Q0 (d + 2) 85 [.int (J w), .int 0, .int 2] m = _ from e2, bI_e, nz_bi]
    by_cases c2 : 0 ≤ w ∧ w ≤ 2
    · rw [if_pos c2, if_pos c2, if_pos c2, show cB Q0 (d + 2) 85 [.int (J x), .int 0, .int 99] m = _ from e3, bI_e, nz_bi]
      by_cases c3 : 0 ≤ x ∧ x ≤ 99
      · rw [if_pos c3, if_pos c3, if_pos c3, n0]
        have key : ∀ k : Nat, 0 < k → k ≤ 3 → (bT (okI Q0 (.inr (0, 8)) (J r)) (bX (m.1 (1 + k) (Int32.toNatClampNeg (J r))) fun z7 => bT (ok1 Q0 0 (.inr (0, 8)) (J r)) (bX (up2 m.1 (1 + k) (Int32.toNatClampNeg (J r)) (J x), m.2) fun m8 => some (some (Value.int z7), m8)) none) none) = some (some (.int (J (A.1 k r))), (up2 m.1 (1 + k) r.toNat (J x), m.2)) ∧ ShR 1 (upD A k r x) (up2 m.1 (1 + k) r.toNat (J x), m.2) ∧ Fr (sK 1) m (up2 m.1 (1 + k) r.toNat (J x), m.2) := fun k g0 g1 => by
          refine ⟨?_, hR.dr i0.2 ⟨g0, g1⟩ c1.1 x, Fr.put (K := sK 1) (k := 1 + k) (by unfold sK; omega) _ _⟩
          rw [cI_J (n := 8) c1.1 (show r < 8 by omega) (by omega), J_clamp c1.1 (by omega), bX_e, c1_J (n := 8) c1.1 (show r < 8 by omega) (by omega), bX_e, hR.2.1 k g0 g1 r c1.1 (by omega)]
        by_cases c4 : w = 0
        · rw [if_pos c4, if_pos c4, if_pos c4]
          exact ⟨_, key 1 (by omega) (by omega)⟩
        · rw [if_neg c4, if_neg c4, if_neg c4, n1]
          by_cases c5 : w = 1
          · rw [if_pos c5, if_pos c5, if_pos c5]
            exact ⟨_, key 2 (by omega) (by omega)⟩
          · rw [if_neg c5, if_neg c5, if_neg c5]
            exact ⟨_, key 3 (by omega) (by omega)⟩
      · rw [if_neg c3, if_neg c3, if_neg c3]
        exact ⟨m, rfl, hR, Fr.rf⟩
    · rw [if_neg c2, if_neg c2, if_neg c2]
      exact ⟨m, rfl, hR, Fr.rf⟩
  · rw [if_neg c1, if_neg c1, if_neg c1]
    exact ⟨m, rfl, hR, Fr.rf⟩
theorem S_55 (hI : ShI A) (hR : ShR 1 A m) {p c r t : Int} (h1 : -2147483648 ≤ p ∧ p ≤ 2147483647) (h2 : -2147483648 ≤ c ∧ c ≤ 2147483647) (h3 : -2147483648 ≤ r ∧ r ≤ 2147483647) (h4 : -2147483648 ≤ t ∧ t ≤ 2147483647) : ∃ m', cB Q0 (d + 3) 55 [.ref 0, .int (J p), .int (J c), .int (J r), .int (J t)] m = some (some (.int (J (knoA A p c r t))), m') ∧ ShR 1 (knoS A p c r t) m' ∧ Fr (sK 1) m m' := by
  have i0 := hI.1.1
  have a0 := hR.1.1
  have e1 := S_87 (d := d) a0 i0.1 i0.2 h1.1 h1.2
  have e2 := S_85 (m := m) (d := d + 1) h2.1 h2.2 (show -2147483648 ≤ (0 : Int) by omega) (by omega) (show -2147483648 ≤ (7 : Int) by omega) (by omega)
  have e3 := S_88 (m := m) (d := d) h3.1 h3.2
  have e4 := S_85 (m := m) (d := d + 1) h4.1 h4.2 (show -2147483648 ≤ (1 : Int) by omega) (by omega) (show -2147483648 ≤ (9 : Int) by omega) (by omega)
  rw [cB_eq]
  show ∃ m', rB Q0 55 (cB Q0 (d + 2)) 0 [some (.ref 0), some (.int (J p)), some (.int (J c)), some (.int (J r)), some (.int (J t))] m = _ ∧ _
  rw [T_55_0, e1, bI_e, nz_bi]
  unfold knoA knoS
  by_cases c1 : 0 ≤ p ∧ p ≤ A.1 0 0 - 1
  · rw [if_pos c1, if_pos c1, if_pos c1, show cB Q0 (d + 2) 85 [.int (J c), .int 0, .int 7] m = _ from e2, bI_e, nz_bi]
    have hF := hd_F (Or.inl rfl : isS 1) c1.1 (by omega)
    have g5 : GRt 5 p.toNat = some (hd 1 p) := hd_g (Or.inl rfl : isS 1) c1.1 (by omega)
    have hH := hR.2.2.1 p c1.1 (by omega)
    have hi := hI.2.2.1 p c1.1 (by omega)
    by_cases c2 : 0 ≤ c ∧ c ≤ 7
    · rw [if_pos c2, if_pos c2, if_pos c2, e3, bI_e, nz_bi]
      by_cases c3 : 0 ≤ r ∧ r ≤ 7
      · rw [if_pos c3, if_pos c3, if_pos c3, show cB Q0 (d + 2) 85 [.int (J t), .int 1, .int 9] m = _ from e4, bI_e, nz_bi]
        by_cases c4 : 1 ≤ t ∧ t ≤ 9
        · rw [if_pos c4, if_pos c4, if_pos c4]
          have b2 := hH.2.2.1 c c2.1 (by omega)
          have j2 := hi.2.2 c c2.1 (by omega)
          have s3 : m.1 4 r.toNat = J (A.1 3 r) := hR.2.1 3 (by omega) (by omega) r c3.1 (by omega)
          have j3 := hI.2.1 3 (by omega) (by omega) r c3.1 (by omega)
          have nm : ∀ {α : Type} (x y : α), bT (Q0.1 0 (J (A.2.1 p 2 c)) (-1)) x y = if A.2.1 p 2 c = -1 then x else y := fun x y => q0_J (b := -1) (by omega) (by omega) (by omega) (by omega) x y
          have n0 : ∀ {α : Type} (x y : α), bT (Q0.1 1 0 (J (A.1 3 r))) x y = if 0 < A.1 3 r then x else y := fun x y => q1_J (a := 0) (by omega) (by omega) (by omega) (by omega) x y
          rw [cA_J (n := 6) (by omega) (by omega) c1.1 (show p < 6 by omega) (by omega), J_clamp c1.1 (by omega), g5, bO_e, hF.1.1, cO_J, hF.1.2.2.1, bO_e, hF.2.2.1, cI_J (n := 8) c2.1 (show c < 8 by omega) (by omega), bX_e, J_clamp c2.1 (by omega), b2, nm]
          by_cases c5 : A.2.1 p 2 c = -1
          · rw [if_pos c5, if_pos c5, if_pos c5, cI_J (n := 8) c3.1 (show r < 8 by omega) (by omega), bX_e, J_clamp c3.1 (by omega), s3, n0]
            by_cases c6 : 0 < A.1 3 r
            · rw [if_pos c6, if_pos c6, if_pos c6]
              have hh1 := hH.pr (k := 2) (by omega) c2.1 r
              have hh2 := hh1.pr (k := 3) (by omega) c2.1 t
              have k1 : Fr (hK (hd 1 p)) m (up2 (up2 m.1 (hd 1 p + 2) c.toNat (J r)) (hd 1 p + 3) c.toNat (J t), m.2) := (Fr.put (K := hK (hd 1 p)) (k := hd 1 p + 2) (by unfold hK; omega) _ _).tr (Fr.put (K := hK (hd 1 p)) (k := hd 1 p + 3) (by unfold hK; omega) _ _)
              have hR1 := hR.hdp i0.2 c1.1 k1 hh2
              have hR2 := hR1.dr (k := 3) (j := r) i0.2 ⟨by omega, by omega⟩ c3.1 (A.1 3 r - 1)
              refine ⟨(up2 (up2 (up2 m.1 (hd 1 p + 2) c.toNat (J r)) (hd 1 p + 3) c.toNat (J t)) 4 r.toNat (J (A.1 3 r - 1)), m.2), ?_, hR2, (k1.mono fun k hk => sK_hd (s := 1) c1.1 (by omega) hk).tr (Fr.put (K := sK 1) (k := 4) (by unfold sK; omega) _ _)⟩
              have hb : hd 1 p + 2 ≠ 4 ∧ hd 1 p + 3 ≠ 4 := by unfold hd; omega
              simp only [lits]
              simp (disch := omega) only [kk, lits, q0_J, q1_J, q2_J, cI_J, cT_J, cB_J, cZ_J, cS_J, c1_J, cA_J, J_clamp, u2_at, reduceIte, hF.1.1, hF.1.2.2.1, hF.1.2.2.2, hF.2.2.1, hF.2.2.2, s3, u2_ne]
            · rw [if_neg c6, if_neg c6, if_neg c6]
              exact ⟨m, rfl, hR, Fr.rf⟩
          · rw [if_neg c5, if_neg c5, if_neg c5]
            exact ⟨m, rfl, hR, Fr.rf⟩
        · rw [if_neg c4, if_neg c4, if_neg c4]
          exact ⟨m, rfl, hR, Fr.rf⟩
      · rw [if_neg c3, if_neg c3, if_neg c3]
        exact ⟨m, rfl, hR, Fr.rf⟩
    · rw [if_neg c2, if_neg c2, if_neg c2]
      exact ⟨m, rfl, hR, Fr.rf⟩
  · rw [if_neg c1, if_neg c1, if_neg c1]
    exact ⟨m, rfl, hR, Fr.rf⟩
theorem S_56 (hI : ShI A) (hR : ShR 1 A m) {p b : Int} (h1 : -2147483648 ≤ p ∧ p ≤ 2147483647) (h2 : b = 0 ∨ b = 1) : ∃ m', cB Q0 (d + 3) 56 [.ref 0, .int (J p), .int (J b)] m = some (some (.int (J (sheA A p))), m') ∧ ShR 1 (sheS A p b) m' ∧ Fr (sK 1) m m' := by
  have i0 := hI.1.1
  have a0 := hR.1.1
  have e1 := S_87 (d := d) a0 i0.1 i0.2 h1.1 h1.2
  rw [cB_eq]
  show ∃ m', rB Q0 56 (cB Q0 (d + 2)) 0 [some (.ref 0), some (.int (J p)), some (.int (J b))] m = _ ∧ _
  rw [T_56_0, e1, bI_e, nz_bi]
  unfold sheA sheS
  by_cases c1 : 0 ≤ p ∧ p ≤ A.1 0 0 - 1
  · rw [if_pos c1, if_pos c1, if_pos c1]
    have hF := hd_F (Or.inl rfl : isS 1) c1.1 (by omega)
    have g5 : GRt 5 p.toNat = some (hd 1 p) := hd_g (Or.inl rfl : isS 1) c1.1 (by omega)
    have hH := hR.2.2.1 p c1.1 (by omega)
    have hi := (hI.2.2.1 p c1.1 (by omega)).1.2.2.2.2
    obtain ⟨⟨-, -, -, -, b4⟩, -⟩ := id hH
    have nr : ∀ {α : Type} (x y : α), bT (Q0.2.2.2.1 1 (J b)) x y = x := fun x y => by
      rcases h2 with rfl | rfl <;> rfl
    have k1 : Fr (hK (hd 1 p)) m (up2 m.1 (hd 1 p) 4 (J b), m.2) := Fr.put (by unfold hK; omega) _ _
    refine ⟨(up2 m.1 (hd 1 p) 4 (J b), m.2), ?_, hR.hdp i0.2 c1.1 k1 (hH.p0 (i := 4) (j := 4) rfl (by omega) b), k1.mono fun k hk => sK_hd (s := 1) c1.1 (by omega) hk⟩
    rw [cA_J (n := 6) (by omega) (by omega) c1.1 (show p < 6 by omega) (by omega), J_clamp c1.1 (by omega), g5, bO_e, hF.1.1, cO_J, bX_e, b4, show cB Q0 (d + 2) 86 [.int (J (A.2.1 p 0 4))] m = _ from S_86J (d := d + 1) hi, bI_e, cA_J (n := 6) (by omega) (by omega) c1.1 (show p < 6 by omega) (by omega), bO_e, hF.1.1, cO_J, nr, bX_e]
  · rw [if_neg c1, if_neg c1, if_neg c1]
    exact ⟨m, rfl, hR, Fr.rf⟩
theorem S_57 (hI : ShI A) (hR : ShR 1 A m) {p r x : Int} (h1 : -2147483648 ≤ p ∧ p ≤ 2147483647) (h2 : -2147483648 ≤ r ∧ r ≤ 2147483647) (h3 : -2147483648 ≤ x ∧ x ≤ 2147483647) : ∃ m', cB Q0 (d + 3) 57 [.ref 0, .int (J p), .int (J r), .int (J x)] m = some (some (.int (J (rowA A p r x))), m') ∧ ShR 1 (rowS A p r x) m' ∧ Fr (sK 1) m m' := by
  have i0 := hI.1.1
  have a0 := hR.1.1
  have e1 := S_87 (d := d) a0 i0.1 i0.2 h1.1 h1.2
  have e2 := S_85 (m := m) (d := d + 1) h2.1 h2.2 (show -2147483648 ≤ (0 : Int) by omega) (by omega) (show -2147483648 ≤ (3 : Int) by omega) (by omega)
  have e3 := S_85 (m := m) (d := d + 1) h3.1 h3.2 (show -2147483648 ≤ (0 : Int) by omega) (by omega) (show -2147483648 ≤ (9 : Int) by omega) (by omega)
  rw [cB_eq]
  show ∃ m', rB Q0 57 (cB Q0 (d + 2)) 0 [some (.ref 0), some (.int (J p)), some (.int (J r)), some (.int (J x))] m = _ ∧ _
  rw [T_57_0, e1, bI_e, nz_bi]
  unfold rowA rowS
  by_cases c1 : 0 ≤ p ∧ p ≤ A.1 0 0 - 1
  · rw [if_pos c1, if_pos c1, if_pos c1, show cB Q0 (d + 2) 85 [.int (J r), .int 0, .int 3] m = _ from e2, bI_e, nz_bi]
    have hF := hd_F (Or.inl rfl : isS 1) c1.1 (by omega)
    have g5 : GRt 5 p.toNat = some (hd 1 p) := hd_g (Or.inl rfl : isS 1) c1.1 (by omega)
    have hH := hR.2.2.1 p c1.1 (by omega)
    have hi := (hI.2.2.1 p c1.1 (by omega)).1.1
    obtain ⟨⟨b0, -⟩, b1, -⟩ := id hH
    have n6 : ∀ {α : Type} (x y : α), bT (Q0.1 0 (J (A.2.1 p 0 0)) 6) x y = if A.2.1 p 0 0 = 6 then x else y := fun x y => q0_J (b := 6) (by omega) (by omega) (by omega) (by omega) x y
    by_cases c2 : 0 ≤ r ∧ r ≤ 3
    · rw [if_pos c2, if_pos c2, if_pos c2, show cB Q0 (d + 2) 85 [.int (J x), .int 0, .int 9] m = _ from e3, bI_e, nz_bi]
      by_cases c3 : 0 ≤ x ∧ x ≤ 9
      · rw [if_pos c3, if_pos c3, if_pos c3, cA_J (n := 6) (by omega) (by omega) c1.1 (show p < 6 by omega) (by omega), J_clamp c1.1 (by omega), g5, bO_e, hF.1.1, cO_J, bX_e, b0, n6]
        by_cases c4 : A.2.1 p 0 0 = 6
        · rw [if_pos c4, if_pos c4, if_pos c4]
          have k1 : Fr (hK (hd 1 p)) m (up2 m.1 (hd 1 p + 1) r.toNat (J x), m.2) := Fr.put (by unfold hK; omega) _ _
          refine ⟨(up2 m.1 (hd 1 p + 1) r.toNat (J x), m.2), ?_, hR.hdp i0.2 c1.1 k1 (hH.pr (k := 1) (by omega) c2.1 x), k1.mono fun k hk => sK_hd (s := 1) c1.1 (by omega) hk⟩
          simp (disch := omega) only [kk, lits, q0_J, q1_J, q2_J, cI_J, cT_J, cB_J, cZ_J, cS_J, c1_J, cA_J, J_clamp, u2_at, reduceIte, hF.1.1, hF.1.2.1, hF.2.1, b1]
        · rw [if_neg c4, if_neg c4, if_neg c4]
          exact ⟨m, rfl, hR, Fr.rf⟩
      · rw [if_neg c3, if_neg c3, if_neg c3]
        exact ⟨m, rfl, hR, Fr.rf⟩
    · rw [if_neg c2, if_neg c2, if_neg c2]
      exact ⟨m, rfl, hR, Fr.rf⟩
  · rw [if_neg c1, if_neg c1, if_neg c1]
    exact ⟨m, rfl, hR, Fr.rf⟩
end
