/-! SHOPS of the class: their cells -/
abbrev Shp : Type := (Nat → Int → Int) × (Int → Nat → Int → Int) × (Nat → Nat → Int → Int)
def RowF (q : Nat) : Prop := SHt q = .inl 3 ∧ (GRt q 1 = some (q + 1) ∧ GRt q 2 = some (q + 2) ∧ GRt q 3 = some (q + 3)) ∧ SHt (q + 1) = .inr (0, 10) ∧ SHt (q + 2) = .inr (0, 10) ∧ SHt (q + 3) = .inr (0, 10)
def ShF (s : Nat) : Prop := (SHt s = .inl 4 ∧ GRt s 0 = some (s + 1) ∧ GRt s 1 = some (s + 2) ∧ GRt s 2 = some (s + 3) ∧ GRt s 3 = some (s + 4) ∧ GRt s 8 = some (s + 5) ∧ GRt s 9 = some (s + 9) ∧ GRt s 10 = some (s + 13)) ∧ (SHt (s + 1) = .inr (0, 8) ∧ SHt (s + 2) = .inr (0, 8) ∧ SHt (s + 3) = .inr (0, 8) ∧ SHt (s + 4) = .inr (4, 6)) ∧ RowF (s + 5) ∧ RowF (s + 9) ∧ RowF (s + 13)
theorem shF {s : Nat} (hs : isS s) : ShF s := by
  rcases hs with rfl | rfl | rfl <;> exact ⟨⟨rfl, rfl, rfl, rfl, rfl, rfl, rfl, rfl⟩, ⟨rfl, rfl, rfl, rfl⟩, ⟨rfl, ⟨rfl, rfl, rfl⟩, rfl, rfl, rfl⟩, ⟨rfl, ⟨rfl, rfl, rfl⟩, rfl, rfl, rfl⟩, ⟨rfl, ⟨rfl, rfl, rfl⟩, rfl, rfl, rfl⟩⟩
theorem hd_g {s : Nat} {p : Int} (hs : isS s) (h0 : 0 ≤ p) (h1 : p < 6) : GRt (s + 4) p.toNat = some (hd s p) := by
  rcases (show p = 0 ∨ p = 1 ∨ p = 2 ∨ p = 3 ∨ p = 4 ∨ p = 5 by omega) with rfl | rfl | rfl | rfl | rfl | rfl <;> rcases hs with rfl | rfl | rfl <;> rfl
def RowsR (q : Nat) (R : Nat → Int → Int) (m : SM) : Prop := m.1 q 0 = J (R 0 0) ∧ ∀ k : Nat, 0 < k → k ≤ 3 → ∀ j : Int, 0 ≤ j → j < R 0 0 → m.1 (q + k) j.toNat = J (R k j)
def sK (s : Nat) : Nat → Prop := fun k => s ≤ k ∧ k ≤ s + 40
def ShR (s : Nat) (A : Shp) (m : SM) : Prop :=
  (m.1 s 4 = J (A.1 0 0) ∧ m.1 s 5 = J (A.1 0 1) ∧ m.1 s 6 = J (A.1 0 2) ∧ m.1 s 7 = J (A.1 0 3)) ∧ (∀ k : Nat, 0 < k → k ≤ 3 → ∀ j : Int, 0 ≤ j → j < 8 → m.1 (s + k) j.toNat = J (A.1 k j)) ∧ (∀ p : Int, 0 ≤ p → p < A.1 0 0 → HeadR (hd s p) (A.2.1 p) m) ∧ ∀ k : Nat, k < 3 → RowsR (s + 5 + 4 * k) (A.2.2 k) m
def ShI (A : Shp) : Prop :=
  ((0 ≤ A.1 0 0 ∧ A.1 0 0 ≤ 6) ∧ (0 ≤ A.1 0 1 ∧ A.1 0 1 ≤ 20000) ∧ (0 ≤ A.1 0 2 ∧ A.1 0 2 ≤ 1000000) ∧ (-1 ≤ A.1 0 3 ∧ A.1 0 3 ≤ 5)) ∧ (∀ k : Nat, 0 < k → k ≤ 3 → ∀ j : Int, 0 ≤ j → j < 8 → 0 ≤ A.1 k j ∧ A.1 k j ≤ 99) ∧ (∀ p : Int, 0 ≤ p → p < A.1 0 0 → HeadI (A.2.1 p)) ∧
  ((0 ≤ A.2.2 0 0 0 ∧ A.2.2 0 0 0 ≤ 5) ∧ ∀ j : Int, 0 ≤ j → j < A.2.2 0 0 0 → (0 ≤ A.2.2 0 1 j ∧ A.2.2 0 1 j < A.1 0 0) ∧ (0 ≤ A.2.2 0 2 j ∧ A.2.2 0 2 j ≤ 1) ∧ (0 ≤ A.2.2 0 3 j ∧ A.2.2 0 3 j ≤ 9999)) ∧
  ((0 ≤ A.2.2 1 0 0 ∧ A.2.2 1 0 0 ≤ 10) ∧ ∀ j : Int, 0 ≤ j → j < A.2.2 1 0 0 → (0 ≤ A.2.2 1 1 j ∧ A.2.2 1 1 j ≤ 3) ∧ (-2147483648 ≤ A.2.2 1 2 j ∧ A.2.2 1 2 j ≤ 2147483647) ∧ (A.2.2 1 1 j ≠ 0 → 0 ≤ A.2.2 1 2 j ∧ A.2.2 1 2 j < A.1 0 0)) ∧
  ((0 ≤ A.2.2 2 0 0 ∧ A.2.2 2 0 0 ≤ 8) ∧ ∀ j : Int, 0 ≤ j → j < A.2.2 2 0 0 → (0 ≤ A.2.2 2 1 j ∧ A.2.2 2 1 j ≤ 7) ∧ (0 ≤ A.2.2 2 2 j ∧ A.2.2 2 2 j ≤ 99))
def upS (A : Shp) (i : Int) (v : Int) : Shp := (upH A.1 0 i v, A.2)
def upD (A : Shp) (k : Nat) (j v : Int) : Shp := (upH A.1 k j v, A.2)
def upHd (A : Shp) (p : Int) (H : Nat → Int → Int) : Shp := (A.1, (fun q => if q = p then H else A.2.1 q), A.2.2)
theorem RowsR.fr {q : Nat} {R : Nat → Int → Int} {m m' : SM} {K : Nat → Prop} (h : RowsR q R m) (hF : Fr K m m') (hK : ∀ k, q ≤ k → k ≤ q + 3 → ¬ K k) : RowsR q R m' := by
  refine ⟨by rw [hF.1 q (hK q (by omega) (by omega))]; exact h.1, fun k h0 h1 j h2 h3 => ?_⟩
  rw [hF.1 (q + k) (hK _ (by omega) (by omega))]
  exact h.2 k h0 h1 j h2 h3
theorem ShR.fr {s : Nat} {A : Shp} {m m' : SM} {K : Nat → Prop} (h : ShR s A m) (hn : A.1 0 0 ≤ 6) (hF : Fr K m m') (hK : ∀ k, s ≤ k → k ≤ s + 40 → ¬ K k) : ShR s A m' := by
  obtain ⟨⟨a0, a1, a2, a3⟩, b, c, e⟩ := h
  refine ⟨?_, fun k h0 h1 j h2 h3 => ?_, fun p h0 h1 => (c p h0 h1).fr hF fun k h2 h3 => hK k ?_ ?_, fun k hk => (e k hk).fr hF fun k2 h2 h3 => hK k2 ?_ ?_⟩
  · rw [hF.1 s (hK s (by omega) (by omega))]
    exact ⟨a0, a1, a2, a3⟩
  · rw [hF.1 (s + k) (hK _ (by omega) (by omega))]
    exact b k h0 h1 j h2 h3
  · unfold hd at h2; omega
  · unfold hd at h3; omega
  · omega
  · omega
theorem ShR.sc {s : Nat} {A : Shp} {m : SM} (h : ShR s A m) (hn : A.1 0 0 ≤ 6) {i : Nat} {j : Int} (hj : j = i) (hi : 0 < i ∧ i < 4) (v : Int) : ShR s (upS A j v) (up2 m.1 s (4 + i) (J v), m.2) := by
  subst hj
  have hF : Fr (fun k => k = s) m (up2 m.1 s (4 + i) (J v), m.2) := Fr.put (K := fun k => k = s) rfl _ _
  obtain ⟨⟨a0, a1, a2, a3⟩, b, c, e⟩ := h
  have hc : (upS A (i : Int) v).1 0 0 = A.1 0 0 := by
    show upH A.1 0 (i : Int) v 0 0 = _
    unfold upH
    rw [if_neg (by omega)]
  refine ⟨?_, fun k h0 h1 j h2 h3 => ?_, fun p h0 h1 => (c p h0 (by rw [← hc]; exact h1)).fr hF fun k h2 h3 => ?_, fun k hk => (e k hk).fr hF fun k2 h2 h3 => by omega⟩
  · rcases (show i = 1 ∨ i = 2 ∨ i = 3 by omega) with rfl | rfl | rfl <;> simp [u2_at, upS, upH, a0, a1, a2, a3]
  · show up2 m.1 s (4 + i) (J v) (s + k) j.toNat = J (upH A.1 0 (i : Int) v k j)
    rw [u2_ne _ _ (by omega), b k h0 h1 j h2 h3]
    unfold upH
    rw [if_neg (by omega)]
  · unfold hd at h2
    omega
theorem ShR.dr {s : Nat} {A : Shp} {m : SM} (h : ShR s A m) (hn : A.1 0 0 ≤ 6) {k : Nat} {j : Int} (hk : 0 < k ∧ k ≤ 3) (hj : 0 ≤ j) (v : Int) : ShR s (upD A k j v) (up2 m.1 (s + k) j.toNat (J v), m.2) := by
  have hF : Fr (fun q => q = s + k) m (up2 m.1 (s + k) j.toNat (J v), m.2) := Fr.put (K := fun q => q = s + k) rfl _ _
  obtain ⟨⟨a0, a1, a2, a3⟩, b, c, e⟩ := h
  have hc : ∀ i, (upD A k j v).1 0 i = A.1 0 i := fun i => by
    show upH A.1 k j v 0 i = _
    unfold upH
    rw [if_neg (by omega)]
  refine ⟨?_, fun q h0 h1 i h2 h3 => ?_, fun p h0 h1 => (c p h0 (by rw [← hc 0]; exact h1)).fr hF fun q h2 h3 => ?_, fun q hq => (e q hq).fr hF fun k2 h2 h3 => by omega⟩
  · rw [hc, hc, hc, hc]
    show up2 m.1 (s + k) j.toNat (J v) s 4 = _ ∧ up2 m.1 (s + k) j.toNat (J v) s 5 = _ ∧ up2 m.1 (s + k) j.toNat (J v) s 6 = _ ∧ up2 m.1 (s + k) j.toNat (J v) s 7 = _
    rw [u2_ne _ _ (by omega)]
    exact ⟨a0, a1, a2, a3⟩
  · show up2 m.1 (s + k) j.toNat (J v) (s + q) i.toNat = J (upH A.1 k j v q i)
    unfold upH
    by_cases e1 : q = k
    · subst e1
      rw [u2_at]
      by_cases e2 : i = j
      · subst e2
        rw [if_pos rfl, if_pos ⟨rfl, rfl⟩]
      · rw [if_neg (toNat_ne h2 hj e2), if_neg (fun z => e2 z.2)]
        exact b q h0 h1 i h2 h3
    · rw [u2_ne _ _ (by omega), if_neg (fun z => e1 z.1)]
      exact b q h0 h1 i h2 h3
  · unfold hd at h2
    omega
theorem ShR.hdp {s : Nat} {A : Shp} {m m' : SM} (h : ShR s A m) (hn : A.1 0 0 ≤ 6) {p : Int} (h0 : 0 ≤ p) (hF : Fr (hK (hd s p)) m m') {H : Nat → Int → Int} (hH : HeadR (hd s p) H m') : ShR s (upHd A p H) m' := by
  obtain ⟨⟨a0, a1, a2, a3⟩, b, c, e⟩ := h
  unfold hd hK at hF
  refine ⟨?_, fun k h0 h1 j h2 h3 => ?_, fun q h1 h2 => ?_, fun k hk => (e k hk).fr hF fun k2 h2 h3 => by omega⟩
  · rw [hF.1 s (by omega)]
    exact ⟨a0, a1, a2, a3⟩
  · rw [hF.1 (s + k) (by omega)]
    exact b k h0 h1 j h2 h3
  · show HeadR (hd s q) (if q = p then H else A.2.1 q) m'
    by_cases e1 : q = p
    · subst e1
      rw [if_pos rfl]
      exact hH
    · rw [if_neg e1]
      refine (c q h1 h2).fr hF fun k g1 g2 => ?_
      unfold hd at g1 g2
      omega
theorem sK_hd {s : Nat} {p : Int} (h0 : 0 ≤ p) (h1 : p < 6) {k : Nat} (h : hK (hd s p) k) : sK s k := by
  unfold hK hd at h
  unfold sK
  omega
def allF (A : Shp) (p : Int) : Int := hairs (A.2.1 p)
def allHairs (A : Shp) : Int := sumF (allF A) 0 (A.1 0 0).toNat
section
variable {s : Nat} {A : Shp} {m : SM} {d : Nat}
theorem L_25 (hs : isS s) (hR : ShR s A m) (hI : ShI A) : ∀ (n : Nat) (c k : Int), 0 ≤ c → c + n = A.1 0 0 → rB Q0 25 (cB Q0 (d + 1)) 4 [some (.ref s), some (.int (J k)), some (.int (J c))] m = some (some (.int (J (k + sumF (allF A) c n))), m) := by
  obtain ⟨⟨f1, -, -, -, f4, -⟩, ⟨-, -, -, f5⟩, -⟩ := shF hs
  have a0 := hR.1.1
  have i0 := hI.1.1
  intro n
  induction n with
  | zero =>
    intro c k h0 h1
    rw [T_25_4]
    simp (disch := omega) only [kk, lits, q0_J, q1_J, q2_J, cI_J, cT_J, cB_J, cZ_J, cS_J, c1_J, cA_J, J_clamp, u2_at, reduceIte, f1, a0, sumF]
    rw [if_pos (by omega)]
    simp
  | succ n ih =>
    intro c k h0 h1
    have hF := hd_F hs h0 (by omega)
    have e1 := S_8 hF (hR.2.2.1 c h0 (by omega)) (hI.2.2.1 c h0 (by omega)) d
    rw [T_25_4]
    simp (disch := omega) only [kk, lits, q0_J, q1_J, q2_J, cI_J, cT_J, cB_J, cZ_J, cS_J, c1_J, cA_J, J_clamp, u2_at, reduceIte, f1, a0, f4, f5, hd_g hs h0 (show c < 6 by omega), hF.1.1, e1]
    rw [if_neg (by omega), ih _ _ (by omega) (by omega)]
    simp [sumF, allF, Int.add_assoc]
theorem S_25 (hs : isS s) (hR : ShR s A m) (hI : ShI A) : cB Q0 (d + 2) 25 [.ref s] m = some (some (.int (J (allHairs A))), m) := by
  have i0 := hI.1.1
  rw [cB_eq]
  show rB Q0 25 (cB Q0 (d + 1)) 0 [some (.ref s)] m = _
  rw [T_25_0]
  have := L_25 (d := d) hs hR hI (A.1 0 0).toNat 0 0 (by omega) (by omega)
  rw [Int.zero_add] at this
  exact this
end
