/-! What stands when the constructors are through is the relation's start. -/
def A0 : Shp := (fun k j => if k = 0 then (if j = 3 then -1 else 0) else if k = 3 then 10 else 10 * j, fun _ _ _ => 0, fun _ _ _ => 0)
def S0 : St := (A0, A0, 0, 0, 0, fun _ => [], fun _ => 0, [], (fun _ => (-1, 0), fun _ _ => 0))
theorem relP0 : RelP S0 := by
  have hg : good 0 A0 := by
    refine ⟨⟨⟨⟨by decide, by decide⟩, ⟨by decide, by decide⟩, ⟨by decide, by decide⟩, by decide, by decide⟩, fun k h0 h1 j g0 g1 => ?_, fun p h0 h1 => ?_, ⟨⟨by decide, by decide⟩, fun j g0 g1 => ?_⟩, ⟨⟨by decide, by decide⟩, fun j g0 g1 => ?_⟩, ⟨by decide, by decide⟩, fun j g0 g1 => ?_⟩, by decide, by decide, by decide⟩
    · show 0 ≤ (if k = 0 then (if j = 3 then -1 else 0) else if k = 3 then 10 else 10 * j : Int) ∧ (if k = 0 then (if j = 3 then -1 else 0) else if k = 3 then 10 else 10 * j : Int) ≤ 99
      rw [if_neg (by omega)]
      split <;> omega
    · have h1 : p < 0 := h1
      omega
    · have h1 : j < 0 := g1
      omega
    · have h1 : j < 0 := g1
      omega
    · have h1 : j < 0 := g1
      omega
  refine ⟨hg, ⟨by decide, by decide⟩, ⟨Or.inl rfl, fun h => ?_⟩, ⟨fun i => ⟨by show (0 : Int) ≤ 0; omega, by show (0 : Int) ≤ 127; omega⟩, by decide, by decide⟩, fun t h0 h1 => ⟨⟨by show (-1 : Int) ≤ -1; omega, by show (-1 : Int) ≤ 4; omega⟩, ⟨by show (0 : Int) ≤ 0; omega, by show (0 : Int) ≤ 60; omega⟩, fun _ => rfl⟩, fun t h0 h1 => ?_⟩
  · have h : (0 : Int) = 1 := h
    omega
  · have h1 : t < 0 := h1
    omega
theorem ini_8a : ∀ j : Nat, j < 8 → (2, j, J (10 * (j : Int))) ∈ iniL ∧ (3, j, J (10 * (j : Int))) ∈ iniL ∧ (4, j, J 10) ∈ iniL := by decide +kernel
theorem ini_8b : ∀ j : Nat, j < 8 → (178, j, J (10 * (j : Int))) ∈ iniL ∧ (179, j, J (10 * (j : Int))) ∈ iniL ∧ (180, j, J 10) ∈ iniL := by decide +kernel
theorem ini_8 (j : Nat) (h : j < 8) : (2, j, J (10 * (j : Int))) ∈ iniL ∧ (3, j, J (10 * (j : Int))) ∈ iniL ∧ (4, j, J 10) ∈ iniL ∧ (178, j, J (10 * (j : Int))) ∈ iniL ∧ (179, j, J (10 * (j : Int))) ∈ iniL ∧ (180, j, J 10) ∈ iniL := ⟨(ini_8a j h).1, (ini_8a j h).2.1, (ini_8a j h).2.2, ini_8b j h⟩
theorem ini_6 : ∀ t : Nat, t < 6 → (165 + 2 * t, 0, J (-1)) ∈ iniL ∧ (165 + 2 * t, 1, J 0) ∈ iniL ∧ (228, t, J (-1)) ∈ iniL := by decide +kernel
theorem ini_4 : ∀ i : Nat, i < 4 → (196, i, J (f10 (i : Int))) ∈ iniL ∧ (196, 4 + i, J (f11 (i : Int))) ∈ iniL ∧ (196, 8 + i, J (f12 (i : Int))) ∈ iniL := by decide +kernel
section
variable {G : Wd} {u : Mem}
theorem relN0 (hI : Ini u) (h2 : Ini2 u) : RelN S0 (mI u, mL u) := by
  have f : ∀ (k i : Nat) (z : Int), (k, i, J z) ∈ iniL → mI u k i = J z := fun k i z h => hI.2.2.2.2 _ h
  refine ⟨⟨⟨0, ⟨f 177 0 0 (by decide +kernel), f 177 1 0 (by decide +kernel), f 177 2 0 (by decide +kernel), f 177 3 0 (by decide +kernel)⟩, fun k h0 h1 j g0 g1 => ?_, fun p h0 h1 => ?_, ⟨by omega, by omega⟩, fun p h0 h1 => ?_⟩, ⟨⟨f 177 41 0 (by decide +kernel), fun k h0 h1 j g0 g1 => ?_⟩, ⟨f 177 45 0 (by decide +kernel), fun j g0 g1 => ?_⟩, f 177 46 0 (by decide +kernel), fun j g0 g1 => ?_⟩, f 177 15 (-1) (by decide +kernel), f 177 32 9999 (by decide +kernel)⟩, ⟨f 177 14 0 (by decide +kernel), fun t h0 h1 => ?_⟩, ⟨f 177 51 0 (by decide +kernel), fun h => ?_⟩, ⟨⟨f 177 16 0 (by decide +kernel), fun j g0 g1 => ?_⟩, fun i g0 g1 => ?_⟩, ⟨f 177 77 0 (by decide +kernel), fun j b hj => ?_, by decide⟩, fun t h0 h1 => ⟨⟨?_, ?_⟩, fun i g0 g1 => ?_⟩⟩
  · obtain ⟨n, rfl⟩ : ∃ n : Nat, j = n := ⟨j.toNat, by omega⟩
    have h := ini_8 n (by omega)
    rcases (show k = 1 ∨ k = 2 ∨ k = 3 by omega) with rfl | rfl | rfl
    · exact f 178 n _ h.2.2.2.1
    · exact f 179 n _ h.2.2.2.2.1
    · exact f 180 n _ h.2.2.2.2.2
  · have h1 : p < 0 := h1
    omega
  · have h1 : p < 0 := h1
    omega
  · have h1 : j < 0 := g1
    omega
  · have h1 : j < 0 := g1
    omega
  · have h1 : j < 0 := g1
    omega
  · have h1 : t < 0 := h1
    omega
  · have h : (0 : Int) = 1 := h
    omega
  · have h1 : j < 0 := g1
    omega
  · obtain ⟨n, rfl⟩ : ∃ n : Nat, i = n := ⟨i.toNat, by omega⟩
    have h := ini_4 n (by omega)
    refine ⟨f 196 n _ h.1, ?_, ?_⟩
    · rw [show ((4 : Int) + (n : Int)).toNat = 4 + n by omega]
      exact f 196 (4 + n) _ h.2.1
    · rw [show ((8 : Int) + (n : Int)).toNat = 8 + n by omega]
      exact f 196 (8 + n) _ h.2.2
  · have hj : ([] : List Int)[j]? = some b := hj
    simp at hj
  · obtain ⟨n, rfl⟩ : ∃ n : Nat, t = n := ⟨t.toNat, by omega⟩
    exact f 228 n _ (ini_6 n (by omega)).2.2
  · obtain ⟨n, rfl⟩ : ∃ n : Nat, t = n := ⟨t.toNat, by omega⟩
    exact h2.1 n (by omega)
  · exact h2.2.2 _ (by omega)
theorem given_I (hg : ∀ k, 1000 ≤ k → mH u k = mH (u0 G) k ∧ mI u k = mI (u0 G) k ∧ mR u k = mR (u0 G) k) {k : Nat} (hk : 1000 ≤ k) (i : Nat) : mI u k i = roI G k i := by
  rw [(hg k hk).2.1]
  show bT (Nat.ble 1000 k) (roI G k i) 0 = _
  rw [Nat.ble_eq_true_of_le hk]
  rfl
theorem relC0 (hI : Ini u) (h2 : Ini2 u) (hg : ∀ k, 1000 ≤ k → mH u k = mH (u0 G) k ∧ mI u k = mI (u0 G) k ∧ mR u k = mR (u0 G) k) : RelC S0 (mI u, mL u) := by
  have f : ∀ (k i : Nat) (z : Int), (k, i, J z) ∈ iniL → mI u k i = J z := fun k i z h => hI.2.2.2.2 _ h
  have gi : ∀ {k : Nat} (_ : 1000 ≤ k) (i : Nat), mI u k i = roI G k i := fun hk i => given_I hg hk i
  refine ⟨⟨⟨f 1 4 0 (by decide +kernel), f 1 5 0 (by decide +kernel), f 1 6 0 (by decide +kernel), f 1 7 (-1) (by decide +kernel)⟩, fun k h0 h1 j g0 g1 => ?_, fun p h0 h1 => ?_, fun k hk => ⟨?_, fun k2 h0 h1 j g0 g1 => ?_⟩⟩, ⟨f 0 6 0 (by decide +kernel), fun t h0 h1 => ?_, f 125 0 0 (by decide +kernel), f 125 1 0 (by decide +kernel), f 125 2 0 (by decide +kernel), trivial⟩, ⟨f 0 3 0 (by decide +kernel), fun h => ?_⟩, ⟨f 129 1 0 (by decide +kernel), fun j g0 g1 => ?_⟩, ⟨⟨⟨gi (by omega) _, fun i g0 g1 => ?_⟩, ⟨gi (by omega) _, fun i g0 g1 => ?_⟩, ⟨gi (by omega) _, fun i g0 g1 => ?_⟩, ⟨gi (by omega) _, fun i g0 g1 => ?_⟩, ⟨gi (by omega) _, fun i g0 g1 => ?_⟩⟩, fun k g0 g1 => ⟨?_, ?_, ?_⟩, fun k g0 g1 => ?_⟩, ⟨f 132 1 0 (by decide +kernel), fun j b hj => ?_, by decide⟩, fun t h0 h1 => ⟨⟨?_, ?_⟩, fun i g0 g1 => ?_⟩⟩
  · obtain ⟨n, rfl⟩ : ∃ n : Nat, j = n := ⟨j.toNat, by omega⟩
    have h := ini_8 n (by omega)
    rcases (show k = 1 ∨ k = 2 ∨ k = 3 by omega) with rfl | rfl | rfl
    · exact f 2 n _ h.1
    · exact f 3 n _ h.2.1
    · exact f 4 n _ h.2.2.1
  · have h1 : p < 0 := h1
    omega
  · rcases (show k = 0 ∨ k = 1 ∨ k = 2 by omega) with rfl | rfl | rfl
    · exact f 6 0 0 (by decide +kernel)
    · exact f 10 0 0 (by decide +kernel)
    · exact f 14 0 0 (by decide +kernel)
  · have h1 : j < 0 := g1
    omega
  · have h1 : t < 0 := h1
    omega
  · have h : (0 : Int) = 1 := h
    omega
  · have h1 : j < 0 := g1
    omega
  · refine (gi (by omega) _).trans ?_
    rcases (show i = 0 ∨ i = 1 ∨ i = 2 ∨ i = 3 by omega) with rfl | rfl | rfl | rfl <;> rfl
  · refine (gi (by omega) _).trans ?_
    rcases (show i = 0 ∨ i = 1 ∨ i = 2 ∨ i = 3 by omega) with rfl | rfl | rfl | rfl <;> rfl
  · refine (gi (by omega) _).trans ?_
    rcases (show i = 0 ∨ i = 1 ∨ i = 2 ∨ i = 3 by omega) with rfl | rfl | rfl | rfl <;> rfl
  · refine (gi (by omega) _).trans ?_
    rcases (show i = 0 ∨ i = 1 ∨ i = 2 ∨ i = 3 ∨ i = 4 ∨ i = 5 by omega) with rfl | rfl | rfl | rfl | rfl | rfl <;> rfl
  · refine (gi (by omega) _).trans ?_
    rcases (show i = 0 ∨ i = 1 ∨ i = 2 by omega) with rfl | rfl | rfl <;> rfl
  · refine (gi (by omega) _).trans ?_
    rcases (show k = 0 ∨ k = 1 ∨ k = 2 ∨ k = 3 ∨ k = 4 ∨ k = 5 ∨ k = 6 by omega) with rfl | rfl | rfl | rfl | rfl | rfl | rfl <;> rfl
  · refine (gi (by omega) _).trans ?_
    rcases (show k = 0 ∨ k = 1 ∨ k = 2 ∨ k = 3 ∨ k = 4 ∨ k = 5 ∨ k = 6 by omega) with rfl | rfl | rfl | rfl | rfl | rfl | rfl <;> rfl
  · refine (gi (by omega) _).trans ?_
    rcases (show k = 0 ∨ k = 1 ∨ k = 2 ∨ k = 3 ∨ k = 4 ∨ k = 5 ∨ k = 6 by omega) with rfl | rfl | rfl | rfl | rfl | rfl | rfl <;> rfl
  · refine (gi (by omega) _).trans ?_
    rcases (show k = 0 ∨ k = 1 ∨ k = 2 ∨ k = 3 ∨ k = 4 ∨ k = 5 ∨ k = 6 by omega) with rfl | rfl | rfl | rfl | rfl | rfl | rfl <;> rfl
  · have hj : ([] : List Int)[j]? = some b := hj
    simp at hj
  · obtain ⟨n, rfl⟩ : ∃ n : Nat, t = n := ⟨t.toNat, by omega⟩
    exact f (165 + 2 * n) 0 _ (ini_6 n (by omega)).1
  · obtain ⟨n, rfl⟩ : ∃ n : Nat, t = n := ⟨t.toNat, by omega⟩
    exact f (165 + 2 * n) 1 _ (ini_6 n (by omega)).2.1
  · exact h2.2.1 t.toNat i.toNat (by omega) (by omega)
theorem sh_mid : (List.range 1000).all (fun k => Nat.ble k 231 || eqS (SHt k) (.inl 99)) = true := by decide +kernel
theorem gr_mid : (List.range 1000).all (fun k => Nat.ble k 231 || (List.range 100).all fun i => (GRt k i).isNone) = true := by decide +kernel
theorem gr_top : (List.range 25).all (fun j => (List.range 100).all fun i => eqR (GRt (1000 + j) i) (bT (Nat.beq i 0) (roR (1000 + j)) none)) = true := by decide +kernel
theorem sh_top (G : Wd) : ∀ j, j < 25 → SHt (1000 + j) = roH G (1000 + j) ∨ SHt (1000 + j) = .inl 99 := fun j hj => match j, hj with
    | 0, _ => Or.inr rfl
    | 1, _ => Or.inl rfl
    | 2, _ => Or.inl rfl
    | 3, _ => Or.inl rfl
    | 4, _ => Or.inl rfl
    | 5, _ => Or.inr rfl
    | 6, _ => Or.inr rfl
    | 7, _ => Or.inr rfl
    | 8, _ => Or.inr rfl
    | 9, _ => Or.inr rfl
    | 10, _ => Or.inl rfl
    | 11, _ => Or.inl rfl
    | 12, _ => Or.inl rfl
    | 13, _ => Or.inl rfl
    | 14, _ => Or.inl rfl
    | 15, _ => Or.inr rfl
    | 16, _ => Or.inr rfl
    | 17, _ => Or.inr rfl
    | 18, _ => Or.inr rfl
    | 19, _ => Or.inr rfl
    | 20, _ => Or.inl rfl
    | 21, _ => Or.inl rfl
    | 22, _ => Or.inl rfl
    | 23, _ => Or.inl rfl
    | 24, _ => Or.inl rfl
    | n + 25, h => by omega
theorem sh_hi {k : Nat} (h : 1025 ≤ k) : SHt k = .inl 99 := by
  unfold SHt
  rw [Nat.ble_eq_true_of_le h]
  rfl
theorem gr_hi {k i : Nat} (h : 1025 ≤ k ∨ 100 ≤ i) : GRt k i = none := by
  unfold GRt
  cases e : Nat.ble 1025 k
  · rcases h with h | h
    · rw [Nat.ble_eq_true_of_le h] at e
      cases e
    · rw [Nat.ble_eq_true_of_le h]
      rfl
  · rfl
theorem emOK0 (hI : Ini u) (hg : ∀ k, 1000 ≤ k → mH u k = mH (u0 G) k ∧ mI u k = mI (u0 G) k ∧ mR u k = mR (u0 G) k) : EmOK (u.1, u.2.1, mH u, mR u) := by
  constructor
  · intro k
    show SHt k = mH u k ∨ SHt k = .inl 99
    by_cases h1 : k < 232
    · exact Or.inl (hI.2.2.1 k h1).symm
    by_cases h2 : k < 1000
    · have h := List.all_eq_true.mp sh_mid k (List.mem_range.mpr h2)
      rw [Bool.or_eq_true] at h
      rcases h with h | h
      · have := Nat.le_of_ble_eq_true h
        omega
      · exact Or.inr (eqS_spec h)
    by_cases h3 : k < 1025
    · have e : mH u k = roH G k := by
        rw [(hg k (by omega)).1]
        show bT (Nat.ble 1000 k) (roH G k) _ = _
        rw [Nat.ble_eq_true_of_le (by omega)]
        rfl
      rw [e]
      obtain ⟨j, rfl⟩ : ∃ j, k = 1000 + j := ⟨k - 1000, by omega⟩
      exact sh_top G j (by omega)
    · exact Or.inr (sh_hi (by omega))
  · intro k i q h
    show mR u k i = some q
    by_cases h3 : k < 1025 ∧ i < 100
    · obtain ⟨h3, hi⟩ := h3
      by_cases h1 : k < 232
      · exact hI.2.2.2.1 k i q h1 hi h
      by_cases h2 : k < 1000
      · have h4 := List.all_eq_true.mp gr_mid k (List.mem_range.mpr h2)
        rw [Bool.or_eq_true] at h4
        rcases h4 with h4 | h4
        · have := Nat.le_of_ble_eq_true h4
          omega
        · have h5 := List.all_eq_true.mp h4 i (List.mem_range.mpr hi)
          rw [h] at h5
          cases h5
      · obtain ⟨j, rfl⟩ : ∃ j, k = 1000 + j := ⟨k - 1000, by omega⟩
        have h5 := List.all_eq_true.mp (List.all_eq_true.mp gr_top j (List.mem_range.mpr (by omega))) i (List.mem_range.mpr hi)
        rw [(hg (1000 + j) (by omega)).2.2]
        show bT (Nat.ble 1000 (1000 + j)) (bT (Nat.beq i 0) (roR (1000 + j)) none) none = _
        rw [Nat.ble_eq_true_of_le (by omega)]
        exact eqR_spec h5 h
    · rw [gr_hi (by omega)] at h
      cases h
end
