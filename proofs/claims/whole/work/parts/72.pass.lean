/-! PASS, on both sides -/
theorem nightsSh_c (rain most : Int) : ∀ (n : Nat) (A : Shp), ShI A → A.1 0 2 ≤ most → A.1 0 1 + n ≤ 20000 → A.1 0 2 + 48 * n ≤ 1000000 → (∀ k j, ¬ (k = 0 ∧ (j = 1 ∨ j = 2)) → (nightsSh rain most n A).1 k j = A.1 k j) ∧ (nightsSh rain most n A).1 0 1 = A.1 0 1 + n ∧ ((nightsSh rain most n A).1 0 2 ≤ most ∧ (nightsSh rain most n A).1 0 2 ≤ A.1 0 2 + 48 * n) ∧ (nightsSh rain most n A).2.2 = A.2.2
  | 0, A, _, h1, _, _ => ⟨fun _ _ _ => rfl, by show A.1 0 1 = _; omega, ⟨h1, by show A.1 0 2 ≤ _; omega⟩, rfl⟩
  | n + 1, A, hI, h1, h2, h3 => by
    have i0 := hI.1.1
    have i2 := hI.1.2.2.1
    obtain ⟨c1, c2, c3, c4⟩ := nightSh_c A rain most
    have hf := fallC_in (A := A) (b := byN rain (A.1 0 1)) (most := most) (A.1 0 0).toNat 0 (A.1 0 2) (by omega) h1
    obtain ⟨e1, e2, e3, e4⟩ := nightsSh_c rain most n (nightSh A rain most) (nightSh_I hI h1 (by omega) (by omega)) (by rw [c3]; omega) (by rw [c2]; omega) (by rw [c3]; omega)
    have e : nightsSh rain most (n + 1) A = nightsSh rain most n (nightSh A rain most) := rfl
    rw [e]
    refine ⟨fun k j hk => (e1 k j hk).trans (c1 k j hk), by rw [e2, c2]; omega, ⟨e3.1, ?_⟩, e4.trans c4⟩
    have := e3.2
    rw [c3] at this
    omega
def passS (A : Shp) (rain a : Int) : Shp := if 0 ≤ a ∧ a ≤ 60 then (if A.1 0 1 + a ≤ 9999 then nightsSh rain 9999 a.toNat A else A) else A
def passA (A : Shp) (a : Int) : Int := if 0 ≤ a ∧ a ≤ 60 then (if A.1 0 1 + a ≤ 9999 then A.1 0 1 + a else -3) else -2
theorem pass_I {A : Shp} (hI : ShI A) (g1 : A.1 0 1 ≤ 9999) (g2 : A.1 0 2 ≤ 9999) (rain a : Int) : ShI (passS A rain a) ∧ (passS A rain a).1 0 1 ≤ 9999 ∧ (passS A rain a).1 0 2 ≤ 9999 ∧ (passS A rain a).1 0 3 = A.1 0 3 := by
  unfold passS
  by_cases c1 : 0 ≤ a ∧ a ≤ 60
  · rw [if_pos c1]
    by_cases c2 : A.1 0 1 + a ≤ 9999
    · rw [if_pos c2]
      obtain ⟨e1, e2, e3, e4⟩ := nightsSh_c rain 9999 a.toNat A hI g2 (by omega) (by omega)
      exact ⟨nightsSh_I a.toNat hI g2 (by omega) (by omega), by rw [e2]; omega, e3.1, e1 0 3 (by omega)⟩
    · rw [if_neg c2]
      exact ⟨hI, g1, g2, rfl⟩
  · rw [if_neg c1]
    exact ⟨hI, g1, g2, rfl⟩
section
variable {m : SM} {d : Nat} {n : Int} {T : Int × Cls} {A : Shp}
theorem S_61 (hI : ShI A) (hV : View 1 n T A m) (g1 : A.1 0 1 ≤ 9999) (g2 : A.1 0 2 ≤ 9999) {a : Int} (h2 : -2147483648 ≤ a ∧ a ≤ 2147483647) : ∃ m', cB Q0 (d + 5) 61 [.ref 0, .int (J a)] m = some (some (.int (J (passA A a))), m') ∧ View 1 n T (passS A T.1 a) m' ∧ Fr (sK 1) m m' := by
  have i1 := hI.1.2.1
  have i3 := hI.1.2.2.2
  have hs : isS 1 := Or.inl rfl
  have e1 := S_85 (m := m) (d := d + 3) h2.1 h2.2 (show -2147483648 ≤ (0 : Int) by omega) (by omega) (show -2147483648 ≤ (60 : Int) by omega) (by omega)
  have z1 := hV.1.1.2.1
  rw [cB_eq]
  show ∃ m', rB Q0 61 (cB Q0 (d + 4)) 0 [some (.ref 0), some (.int (J a))] m = _ ∧ _
  rw [T_61_0, show cB Q0 (d + 4) 85 [.int (J a), .int 0, .int 60] m = _ from e1, bI_e, nz_bi]
  unfold passA passS
  by_cases c1 : 0 ≤ a ∧ a ≤ 60
  · rw [if_pos c1, if_pos c1, if_pos c1, bX_e, z1, J_add, show (9999 : Int32) = J 9999 from rfl, q2_J (by omega) (by omega) (by omega) (by omega)]
    by_cases c2 : A.1 0 1 + a ≤ 9999
    · rw [if_pos c2, if_pos c2, if_pos c2]
      obtain ⟨c3, c4, c5, c6⟩ := nightsSh_c T.1 9999 a.toNat A hI g2 (by omega) (by omega)
      obtain ⟨m', q1, q2, q3⟩ := S_97 (d := d) hs hV.1 hI hV.1.1.2.2.2 hV.2.1.1 i3 hV.2.1.2 hV.2.2.1.1 hV.2.2.2.1 (most := 9999) (by omega) a.toNat (by omega) g2 (by omega) (by omega)
      rw [show ((a.toNat : Nat) : Int) = a by omega] at q1
      have z5 := q2.1.2.1
      rw [c4] at z5
      refine ⟨m', ?_, ⟨q2, (hV.2.fr q3 fun k h1 h2 => by unfold sK at h2; omega).sh (c3 0 3 (by omega))⟩, q3⟩
      rw [q1, bV_e, bX_e, z5, show ((a.toNat : Nat) : Int) = a by omega]
    · rw [if_neg c2, if_neg c2, if_neg c2]
      exact ⟨m, rfl, hV, Fr.rf⟩
  · rw [if_neg c1, if_neg c1, if_neg c1]
    exact ⟨m, rfl, hV, Fr.rf⟩
end
section
variable {m : SM} {d : Nat} {A : Shp} {sh h : Int} {L : Cla}
theorem S_157 (hI : ShI A) (hV : ViewN sh h L A m) (h32 : m.1 177 32 = J 9999) (g1 : A.1 0 1 ≤ 9999) (g2 : A.1 0 2 ≤ 9999) {a : Int} (h2 : -2147483648 ≤ a ∧ a ≤ 2147483647) : ∃ m', cB Q0 (d + 5) 157 [.ref 177, .int (J a)] m = some (some (.int (J (passA A a))), m') ∧ ViewN sh h L (passS A (rainL 0 L) a) m' ∧ FrR tiK tiI m m' := by
  have i1 := hI.1.2.1
  have e1 := S_118 (m := m) (d := d + 2) h2.1 h2.2
  have z1 := hV.1.1.2.2.2
  rw [cB_eq]
  show ∃ m', rB Q0 157 (cB Q0 (d + 4)) 0 [some (.ref 177), some (.int (J a))] m = _ ∧ _
  rw [T_157_0, e1, bI_e, nz_bi]
  unfold passA passS
  by_cases c1 : 0 ≤ a ∧ a ≤ 60
  · rw [if_pos c1, if_pos c1, if_pos c1, bX_e, z1, J_add, show (9999 : Int32) = J 9999 from rfl, q2_J (by omega) (by omega) (by omega) (by omega)]
    by_cases c2 : A.1 0 1 + a ≤ 9999
    · rw [if_pos c2, if_pos c2, if_pos c2]
      obtain ⟨c3, c4, c5, c6⟩ := nightsSh_c (rainL 0 L) 9999 a.toNat A hI g2 (by omega) (by omega)
      obtain ⟨m', q1, q2, q3⟩ := S_156 (d := d) hV.1 hI hV.2 (most := 9999) (by omega) h32 a.toNat (by omega) g2 (by omega) (by omega)
      rw [show ((a.toNat : Nat) : Int) = a by omega] at q1
      have z5 := q2.1.2.2.2
      rw [c4] at z5
      refine ⟨m', ?_, ⟨q2, hV.2.fr q3 (fun k g1 g2 g3 => by unfold tiK at g3; omega) (by unfold tiI; omega)⟩, q3⟩
      rw [q1, bV_e, bX_e, z5, show ((a.toNat : Nat) : Int) = a by omega]
    · rw [if_neg c2, if_neg c2, if_neg c2]
      exact ⟨m, rfl, hV, FrR.rf⟩
  · rw [if_neg c1, if_neg c1, if_neg c1]
    exact ⟨m, rfl, hV, FrR.rf⟩
end
