/-! THE REFERENCE: a line laid; both orders of lines are one -/
def layL (n : Nat) (D : List Nat) (st : Int → Int) : Nat → Nat → Bool
  | 0, _ => true
  | N + 1, k => if st (dG D k : Nat) < (cF D (dG D k) n 0 : Nat) then false else if k = 0 then layL n D st N (k + 1) else if dG D (k - 1) ≤ dG D k then layL n D st N (k + 1) else false
theorem layL_s {n : Nat} {D : List Nat} {st : Int → Int} {N k : Nat} : layL n D st (N + 1) k = if st (dG D k : Nat) < (cF D (dG D k) n 0 : Nat) then false else if k = 0 then layL n D st N (k + 1) else if dG D (k - 1) ≤ dG D k then layL n D st N (k + 1) else false := rfl
theorem layL_iff {n : Nat} {D : List Nat} {st : Int → Int} : ∀ (N k : Nat), layL n D st N k = true ↔ ∀ j, k ≤ j → j < k + N → (cF D (dG D j) n 0 : Nat) ≤ st (dG D j : Nat) ∧ (j = 0 ∨ dG D (j - 1) ≤ dG D j)
  | 0, k => ⟨fun _ j h1 h2 => by omega, fun _ => rfl⟩
  | N + 1, k => by
    rw [layL_s]
    have ih := layL_iff (n := n) (D := D) (st := st) N (k + 1)
    have hs : (∀ j, k ≤ j → j < k + (N + 1) → (cF D (dG D j) n 0 : Nat) ≤ st (dG D j : Nat) ∧ (j = 0 ∨ dG D (j - 1) ≤ dG D j)) ↔ ((cF D (dG D k) n 0 : Nat) ≤ st (dG D k : Nat) ∧ (k = 0 ∨ dG D (k - 1) ≤ dG D k)) ∧ layL n D st N (k + 1) = true := by
      rw [ih]
      constructor
      · intro h
        exact ⟨h k (Nat.le_refl _) (by omega), fun j h1 h2 => h j (by omega) (by omega)⟩
      · rintro ⟨h1, h2⟩ j h3 h4
        by_cases c : j = k
        · rw [c]; exact h1
        · exact h2 j (by omega) (by omega)
    rw [hs]
    by_cases c1 : st (dG D k : Nat) < (cF D (dG D k) n 0 : Nat)
    · rw [if_pos c1]
      exact ⟨fun h => absurd h (by simp), fun h => absurd h.1.1 (by omega)⟩
    · rw [if_neg c1]
      by_cases c2 : k = 0
      · rw [if_pos c2]
        exact ⟨fun h => ⟨⟨by omega, Or.inl c2⟩, h⟩, fun h => h.2⟩
      · rw [if_neg c2]
        by_cases c3 : dG D (k - 1) ≤ dG D k
        · rw [if_pos c3]
          exact ⟨fun h => ⟨⟨by omega, Or.inr c3⟩, h⟩, fun h => h.2⟩
        · rw [if_neg c3]
          exact ⟨fun h => absurd h (by simp), fun h => absurd h.1.2 (by omega)⟩
theorem hasL_iff {D : List Nat} {st : Int → Int} : ∀ (N k : Nat), hasL D st N k = true ↔ ∀ j, k ≤ j → j < k + N → (aF D j : Int) ≤ st (dG D j : Nat)
  | 0, k => ⟨fun _ j h1 h2 => by omega, fun _ => rfl⟩
  | N + 1, k => by
    rw [hasL_s]
    have ih := hasL_iff (D := D) (st := st) N (k + 1)
    have hs : (∀ j, k ≤ j → j < k + (N + 1) → (aF D j : Int) ≤ st (dG D j : Nat)) ↔ (aF D k : Int) ≤ st (dG D k : Nat) ∧ hasL D st N (k + 1) = true := by
      rw [ih]
      constructor
      · intro h
        exact ⟨h k (Nat.le_refl _) (by omega), fun j h1 h2 => h j (by omega) (by omega)⟩
      · rintro ⟨h1, h2⟩ j h3 h4
        by_cases c : j = k
        · rw [c]; exact h1
        · exact h2 j (by omega) (by omega)
    rw [hs]
    by_cases c1 : (aF D k : Int) ≤ st (dG D k : Nat)
    · rw [if_pos c1]
      exact ⟨fun h => ⟨c1, h⟩, fun h => h.2⟩
    · rw [if_neg c1]
      exact ⟨fun h => absurd h (by simp), fun h => absurd h.1 c1⟩
theorem upB_iff {n : Nat} {D : List Nat} : upB n D = true ↔ ∀ k, k < n → k = 0 ∨ dG D (k - 1) ≤ dG D k := by
  unfold upB
  rw [List.all_eq_true]
  constructor
  · intro h k hk
    have := h k (List.mem_range.mpr hk)
    rw [Bool.or_eq_true, decide_eq_true_eq, decide_eq_true_eq] at this
    exact this
  · intro h k hk
    rw [Bool.or_eq_true, decide_eq_true_eq, decide_eq_true_eq]
    exact h k (List.mem_range.mp hk)
theorem lay_up {n : Nat} {D : List Nat} {st : Int → Int} (h : upB n D = false) : layL n D st n 0 = false := by
  cases h2 : layL n D st n 0 with
  | false => rfl
  | true =>
    have := (layL_iff n 0).mp h2
    have h3 : upB n D = true := upB_iff.mpr fun k hk => (this k (by omega) (by omega)).2
    rw [h3] at h
    exact absurd h (by simp)
theorem lay_has {n : Nat} {D : List Nat} {st : Int → Int} (hu : upB n D = true) (ha : alike n D = true) : layL n D st n 0 = hasL D st n 0 := by
  have hu2 := upB_iff.mp hu
  unfold alike at ha
  rw [List.all_eq_true] at ha
  have e : layL n D st n 0 = true ↔ hasL D st n 0 = true := by
    rw [layL_iff, hasL_iff]
    constructor
    · intro h j h1 h2
      have h3 := ha j (List.mem_range.mpr (by omega))
      rw [Bool.and_eq_true, decide_eq_true_eq] at h3
      have := (h j h1 h2).1
      omega
    · intro h j h1 h2
      refine ⟨?_, hu2 j (by omega)⟩
      have h3 := ha j (List.mem_range.mpr (by omega))
      rw [Bool.and_eq_true, List.any_eq_true] at h3
      obtain ⟨i, h4, h5⟩ := h3.2
      rw [Bool.and_eq_true, decide_eq_true_eq, decide_eq_true_eq] at h5
      have h6 := h i (by omega) (by have := List.mem_range.mp h4; omega)
      rw [h5.1, h5.2] at h6
      exact h6
  cases h1 : layL n D st n 0 <;> cases h2 : hasL D st n 0 <;> simp_all
def layS (st t : Int → Int) (w : Int) (n : Nat) (a : Int × List Nat) (D : List Nat) : Int × List Nat := if layL n D st n 0 = true then stepM t w n a D else a
theorem foldl_fil {α β : Type} (f g : β → α → β) (q : α → Bool) : ∀ (l : List α) (b : β), (∀ a x, q x = false → f a x = a) → (∀ a x, x ∈ l → q x = true → f a x = g a x) → l.foldl f b = (l.filter q).foldl g b
  | [], _, _, _ => rfl
  | x :: l, b, h1, h2 => by
    rw [List.foldl_cons, List.filter_cons]
    cases hx : q x with
    | false =>
      rw [h1 b x hx, if_neg (by simp)]
      exact foldl_fil f g q l b h1 fun a y hy => h2 a y (List.mem_cons_of_mem _ hy)
    | true =>
      rw [h2 b x (List.mem_cons_self ..) hx, if_pos rfl, List.foldl_cons]
      exact foldl_fil f g q l _ h1 fun a y hy => h2 a y (List.mem_cons_of_mem _ hy)
theorem mix_eq {n : Nat} (hn : n ≤ 4) (st t : Int → Int) (w : Int) : ((List.range (8 ^ n)).map (dgs n)).foldl (layS st t w n) (-5, []) = mixG st t w n := by
  have h1 := List.all_eq_true.mp seq_ok n (List.mem_range.mpr (by omega))
  have h2 := List.all_eq_true.mp alike_ok n (List.mem_range.mpr (by omega))
  rw [decide_eq_true_eq] at h1
  rw [List.all_eq_true] at h2
  unfold mixG
  rw [h1]
  refine foldl_fil _ _ _ _ _ (fun a D h => ?_) fun a D hD hu => ?_
  · unfold layS
    rw [lay_up h, if_neg (by simp)]
  · have h3 := h2 D (by rw [h1]; exact List.mem_filter.mpr ⟨hD, hu⟩)
    unfold layS mixS
    rw [lay_has hu h3]
