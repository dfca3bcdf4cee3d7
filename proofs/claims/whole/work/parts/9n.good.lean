/-! Shops stay good -/
def good (n : Int) (A : Shp) : Prop := ShI A ∧ A.1 0 1 ≤ 9999 ∧ A.1 0 2 ≤ 9999 ∧ A.1 0 3 < n
section
variable {A : Shp} {n : Int}
theorem good.hd (h : good n A) {p : Int} {H : Nat → Int → Int} (hH : HeadI H) : good n (upHd A p H) := ⟨upHd_I h.1 hH, h.2⟩
theorem good.dr (h : good n A) {k : Nat} {j v : Int} (hk : 0 < k) (hv : 0 ≤ v ∧ v ≤ 99) : good n (upD A k j v) := by
  have e0 : ∀ i, (upD A k j v).1 0 i = A.1 0 i := fun i => by
    show upH A.1 k j v 0 i = _
    unfold upH
    rw [if_neg (by omega)]
  obtain ⟨⟨i1, i2, i3, i4, i5, i6⟩, h2, h3, h4⟩ := h
  refine ⟨⟨by rw [e0, e0, e0, e0]; exact i1, fun q g0 g1 i g2 g3 => ?_, fun p g0 g1 => i3 p g0 (by rw [← e0 0]; exact g1), ⟨i4.1, fun i g0 g1 => by rw [e0]; exact i4.2 i g0 g1⟩, ⟨i5.1, fun i g0 g1 => by rw [e0]; exact i5.2 i g0 g1⟩, i6⟩, by rw [e0]; exact h2, by rw [e0]; exact h3, by rw [e0]; exact h4⟩
  show 0 ≤ upH A.1 k j v q i ∧ upH A.1 k j v q i ≤ 99
  unfold upH
  by_cases e : q = k ∧ i = j
  · rw [if_pos e]; exact hv
  · rw [if_neg e]; exact i2 q g0 g1 i g2 g3
theorem HeadI.p0 {H : Nat → Int → Int} (h : HeadI H) {i v : Int} (hv : (i = 2 ∧ 0 ≤ v ∧ v ≤ 99) ∨ (i = 3 ∧ 0 ≤ v ∧ v ≤ 30) ∨ (i = 4 ∧ (v = 0 ∨ v = 1))) : HeadI (upH H 0 i v) := by
  obtain ⟨⟨a0, a1, a2, a3, a4⟩, b, c⟩ := h
  refine ⟨?_, fun j h0 h1 => by unfold upH; rw [if_neg (by omega)]; exact b j h0 h1, fun j h0 h1 => by unfold upH; rw [if_neg (by omega), if_neg (by omega)]; exact c j h0 h1⟩
  unfold upH
  rcases hv with ⟨rfl, hv⟩ | ⟨rfl, hv⟩ | ⟨rfl, hv⟩
  · simp; omega
  · simp; omega
  · simp; omega
theorem newH_I {k v e : Int} (h1 : 0 ≤ k ∧ k ≤ 6) (h2 : 0 ≤ v ∧ v ≤ 9) (h3 : 0 ≤ e ∧ e ≤ 99) : HeadI (newH k v e) := by
  refine ⟨?_, fun j _ _ => by simp [newH], fun j _ _ => Or.inl ⟨rfl, rfl⟩⟩
  simp [newH]
  omega
theorem headS_g (h : good n A) {k v e : Int} : good n (headS A k v e) := by
  unfold headS
  by_cases c1 : 0 ≤ k ∧ k ≤ 6
  · rw [if_pos c1]
    by_cases c2 : 0 ≤ v ∧ v ≤ 9
    · rw [if_pos c2]
      by_cases c3 : 0 ≤ e ∧ e ≤ 99
      · rw [if_pos c3]
        by_cases c4 : A.1 0 0 < 6
        · rw [if_pos c4]
          have hh := newH_I (k := k) (v := v) (e := e) c1 c2 c3
          obtain ⟨⟨⟨i0, i1, i2, i3⟩, b, c, d1, d2, d3⟩, h2, h3, h4⟩ := h
          have e0 : (upS (upHd A (A.1 0 0) (newH k v e)) 0 (A.1 0 0 + 1)).1 0 0 = A.1 0 0 + 1 := by simp [upS, upH]
          have e1 : (upS (upHd A (A.1 0 0) (newH k v e)) 0 (A.1 0 0 + 1)).1 0 1 = A.1 0 1 := by simp [upS, upHd, upH]
          have e2 : (upS (upHd A (A.1 0 0) (newH k v e)) 0 (A.1 0 0 + 1)).1 0 2 = A.1 0 2 := by simp [upS, upHd, upH]
          have e3 : (upS (upHd A (A.1 0 0) (newH k v e)) 0 (A.1 0 0 + 1)).1 0 3 = A.1 0 3 := by simp [upS, upHd, upH]
          refine ⟨⟨by rw [e0, e1, e2, e3]; omega, fun q g0 g1 i g2 g3 => ?_, fun p g0 g1 => ?_, ⟨d1.1, fun i g0 g1 => ?_⟩, ⟨d2.1, fun i g0 g1 => ?_⟩, d3⟩, by rw [e1]; exact h2, by rw [e2]; exact h3, by rw [e3]; exact h4⟩
          · have : (upS (upHd A (A.1 0 0) (newH k v e)) 0 (A.1 0 0 + 1)).1 q i = A.1 q i := by
              show upH A.1 0 0 _ q i = _
              unfold upH
              rw [if_neg (by omega)]
            rw [this]
            exact b q g0 g1 i g2 g3
          · rw [e0] at g1
            show HeadI (if p = A.1 0 0 then newH k v e else A.2.1 p)
            by_cases q : p = A.1 0 0
            · rw [if_pos q]; exact hh
            · rw [if_neg q]; exact c p g0 (by omega)
          · rw [e0]
            have := d1.2 i g0 g1
            exact ⟨⟨this.1.1, by have := this.1.2; show A.2.2 0 1 i < A.1 0 0 + 1; omega⟩, this.2⟩
          · rw [e0]
            have := d2.2 i g0 g1
            exact ⟨this.1, this.2.1, fun z => ⟨(this.2.2 z).1, by have := (this.2.2 z).2; show A.2.2 1 2 i < A.1 0 0 + 1; omega⟩⟩
        · rw [if_neg c4]; exact h
      · rw [if_neg c3]; exact h
    · rw [if_neg c2]; exact h
  · rw [if_neg c1]; exact h
theorem setS_g (h : good n A) {p w x : Int} : good n (setS A p w x) := by
  unfold setS
  split
  · rename_i c1
    have hh := h.1.2.2.1 p c1.1 (by omega)
    split
    · split
      · split
        · exact h.hd (hh.p0 (Or.inl ⟨rfl, by omega⟩))
        · exact h
      · split
        · exact h.hd (hh.p0 (Or.inr (Or.inl ⟨rfl, by omega⟩)))
        · exact h
    · exact h
  · exact h
theorem drwS_g (h : good n A) {r w x : Int} : good n (drwS A r w x) := by
  unfold drwS
  split
  · split
    · split
      · split
        · exact h.dr (by omega) (by omega)
        · split
          · exact h.dr (by omega) (by omega)
          · exact h.dr (by omega) (by omega)
      · exact h
    · exact h
  · exact h
theorem knoS_g (h : good n A) {p c r t : Int} : good n (knoS A p c r t) := by
  unfold knoS
  by_cases c1 : 0 ≤ p ∧ p ≤ A.1 0 0 - 1
  · rw [if_pos c1]
    have hh := h.1.2.2.1 p c1.1 (by omega)
    by_cases c2 : 0 ≤ c ∧ c ≤ 7
    · rw [if_pos c2]
      by_cases c3 : 0 ≤ r ∧ r ≤ 7
      · rw [if_pos c3]
        by_cases c4 : 1 ≤ t ∧ t ≤ 9
        · rw [if_pos c4]
          by_cases c5 : A.2.1 p 2 c = -1
          · rw [if_pos c5]
            by_cases c6 : 0 < A.1 3 r
            · rw [if_pos c6]
              have j3 := h.1.2.1 3 (by omega) (by omega) r c3.1 (by omega)
              have hH : HeadI (upH (upH (A.2.1 p) 2 c r) 3 c t) := by
                obtain ⟨a, b, e⟩ := hh
                refine ⟨by simpa [upH] using a, fun j g0 g1 => by simpa [upH] using b j g0 g1, fun j g0 g1 => ?_⟩
                by_cases q : j = c
                · subst q
                  right
                  simp [upH]
                  omega
                · simp [upH, q]
                  exact e j g0 g1
              exact (h.hd hH).dr (by omega) (by omega)
            · rw [if_neg c6]; exact h
          · rw [if_neg c5]; exact h
        · rw [if_neg c4]; exact h
      · rw [if_neg c3]; exact h
    · rw [if_neg c2]; exact h
  · rw [if_neg c1]; exact h
theorem sheS_g (h : good n A) {p b : Int} (hb : b = 0 ∨ b = 1) : good n (sheS A p b) := by
  unfold sheS
  split
  · rename_i c1
    exact h.hd ((h.1.2.2.1 p c1.1 (by omega)).p0 (Or.inr (Or.inr ⟨rfl, hb⟩)))
  · exact h
theorem rowS_g (h : good n A) {p r x : Int} : good n (rowS A p r x) := by
  unfold rowS
  split
  · rename_i c1
    have hh := h.1.2.2.1 p c1.1 (by omega)
    split
    · split
      · split
        · rename_i c2 c3 c4
          refine h.hd ⟨by simpa [upH] using hh.1, fun j g0 g1 => ?_, fun j g0 g1 => by simpa [upH] using hh.2.2 j g0 g1⟩
          by_cases q : j = r
          · simp [upH, q]; omega
          · simp [upH, q]; exact hh.2.1 j g0 g1
        · exact h
      · exact h
    · exact h
  · exact h
theorem good.rw {k : Nat} {R : Nat → Int → Int} (h : good n A) (hR : (k = 0 → (0 ≤ R 0 0 ∧ R 0 0 ≤ 5) ∧ ∀ j : Int, 0 ≤ j → j < R 0 0 → (0 ≤ R 1 j ∧ R 1 j < A.1 0 0) ∧ (0 ≤ R 2 j ∧ R 2 j ≤ 1) ∧ (0 ≤ R 3 j ∧ R 3 j ≤ 9999))) (hR1 : k = 1 → (0 ≤ R 0 0 ∧ R 0 0 ≤ 10) ∧ ∀ j : Int, 0 ≤ j → j < R 0 0 → (0 ≤ R 1 j ∧ R 1 j ≤ 3) ∧ (-2147483648 ≤ R 2 j ∧ R 2 j ≤ 2147483647) ∧ (R 1 j ≠ 0 → 0 ≤ R 2 j ∧ R 2 j < A.1 0 0)) (hR2 : k = 2 → (0 ≤ R 0 0 ∧ R 0 0 ≤ 8) ∧ ∀ j : Int, 0 ≤ j → j < R 0 0 → (0 ≤ R 1 j ∧ R 1 j ≤ 7) ∧ (0 ≤ R 2 j ∧ R 2 j ≤ 99)) : good n (upRw A k R) := by
  obtain ⟨⟨i1, i2, i3, i4, i5, i6⟩, h2⟩ := h
  refine ⟨⟨i1, i2, i3, ?_, ?_, ?_⟩, h2⟩
  · show (0 ≤ (if 0 = k then R else A.2.2 0) 0 0 ∧ (if 0 = k then R else A.2.2 0) 0 0 ≤ 5) ∧ ∀ j : Int, 0 ≤ j → j < (if 0 = k then R else A.2.2 0) 0 0 → (0 ≤ (if 0 = k then R else A.2.2 0) 1 j ∧ (if 0 = k then R else A.2.2 0) 1 j < A.1 0 0) ∧ (0 ≤ (if 0 = k then R else A.2.2 0) 2 j ∧ (if 0 = k then R else A.2.2 0) 2 j ≤ 1) ∧ (0 ≤ (if 0 = k then R else A.2.2 0) 3 j ∧ (if 0 = k then R else A.2.2 0) 3 j ≤ 9999)
    by_cases e : 0 = k
    · rw [if_pos e]; exact hR e.symm
    · rw [if_neg e]; exact i4
  · show (0 ≤ (if 1 = k then R else A.2.2 1) 0 0 ∧ (if 1 = k then R else A.2.2 1) 0 0 ≤ 10) ∧ ∀ j : Int, 0 ≤ j → j < (if 1 = k then R else A.2.2 1) 0 0 → (0 ≤ (if 1 = k then R else A.2.2 1) 1 j ∧ (if 1 = k then R else A.2.2 1) 1 j ≤ 3) ∧ (-2147483648 ≤ (if 1 = k then R else A.2.2 1) 2 j ∧ (if 1 = k then R else A.2.2 1) 2 j ≤ 2147483647) ∧ ((if 1 = k then R else A.2.2 1) 1 j ≠ 0 → 0 ≤ (if 1 = k then R else A.2.2 1) 2 j ∧ (if 1 = k then R else A.2.2 1) 2 j < A.1 0 0)
    by_cases e : 1 = k
    · rw [if_pos e]; exact hR1 e.symm
    · rw [if_neg e]; exact i5
  · show (0 ≤ (if 2 = k then R else A.2.2 2) 0 0 ∧ (if 2 = k then R else A.2.2 2) 0 0 ≤ 8) ∧ ∀ j : Int, 0 ≤ j → j < (if 2 = k then R else A.2.2 2) 0 0 → (0 ≤ (if 2 = k then R else A.2.2 2) 1 j ∧ (if 2 = k then R else A.2.2 2) 1 j ≤ 7) ∧ (0 ≤ (if 2 = k then R else A.2.2 2) 2 j ∧ (if 2 = k then R else A.2.2 2) 2 j ≤ 99)
    by_cases e : 2 = k
    · rw [if_pos e]; exact hR2 e.symm
    · rw [if_neg e]; exact i6
theorem addR_at (R : Nat → Int → Int) (x y z : Int) : addR R x y z 0 0 = R 0 0 + 1 ∧ ∀ (k : Nat) (j : Int), 0 < k → addR R x y z k j = if j = R 0 0 then (if k = 1 then x else if k = 2 then y else z) else R k j := by
  refine ⟨by simp [addR], fun k j hk => ?_⟩
  unfold addR
  rw [if_neg (by omega)]
theorem up00 (R : Nat → Int → Int) : upH R 0 0 0 0 0 = 0 := if_pos ⟨rfl, rfl⟩
theorem seeS_g (h : good n A) {p l a : Int} : good n (seeS A p l a) := by
  have i4 := h.1.2.2.2.1
  unfold seeS
  split
  · exact h.rw (fun _ => ⟨by rw [up00]; omega, fun j g0 g1 => by rw [up00] at g1; omega⟩) (fun z => by omega) (fun z => by omega)
  · split
    · split
      · split
        · split
          · exact h
          · rename_i c1 c2 c3 c4
            obtain ⟨e0, e1⟩ := addR_at (A.2.2 0) p l a
            refine h.rw (fun _ => ⟨by rw [e0]; omega, fun j g0 g1 => ?_⟩) (fun z => by omega) (fun z => by omega)
            rw [e0] at g1
            rw [e1 1 j (by omega), e1 2 j (by omega), e1 3 j (by omega)]
            by_cases q : j = A.2.2 0 0 0
            · rw [if_pos q, if_pos q, if_pos q]
              simp
              omega
            · rw [if_neg q, if_neg q, if_neg q]
              exact i4.2 j g0 (by omega)
        · exact h
      · exact h
    · exact h
theorem planS_g (h : good n A) {w p : Int} (hp : -2147483648 ≤ p ∧ p ≤ 2147483647) : good n (planS A w p) := by
  have i5 := h.1.2.2.2.2.1
  have key : (0 ≤ w ∧ w ≤ 3) → (w ≠ 0 → 0 ≤ p ∧ p < A.1 0 0) → ¬ 10 ≤ A.2.2 1 0 0 → good n (upRw A 1 (addR (A.2.2 1) w p 0)) := fun c1 c2 c4 => by
    obtain ⟨e0, e1⟩ := addR_at (A.2.2 1) w p 0
    refine h.rw (fun z => by omega) (fun _ => ⟨by rw [e0]; omega, fun j g0 g1 => ?_⟩) (fun z => by omega)
    rw [e0] at g1
    rw [e1 1 j (by omega), e1 2 j (by omega)]
    by_cases q : j = A.2.2 1 0 0
    · rw [if_pos q, if_pos q]
      exact ⟨by simpa using c1, by simpa using hp, by simpa using c2⟩
    · rw [if_neg q, if_neg q]
      exact i5.2 j g0 (by omega)
  unfold planS
  split
  · exact h.rw (fun z => by omega) (fun _ => ⟨by rw [up00]; omega, fun j g0 g1 => by rw [up00] at g1; omega⟩) (fun z => by omega)
  · split
    · split
      · split
        · exact h
        · exact key (by assumption) (fun z => by omega) (by assumption)
      · split
        · split
          · exact h
          · exact key (by assumption) (fun z => by omega) (by assumption)
        · exact h
    · exact h
theorem bookS_g (h : good n A) {r x : Int} : good n (bookS A r x) := by
  have i6 := h.1.2.2.2.2.2
  unfold bookS
  split
  · exact h.rw (fun z => by omega) (fun z => by omega) (fun _ => ⟨by rw [up00]; omega, fun j g0 g1 => by rw [up00] at g1; omega⟩)
  · split
    · split
      · split
        · exact h
        · rename_i c1 c2 c4
          obtain ⟨e0, e1⟩ := addR_at (A.2.2 2) r x 0
          refine h.rw (fun z => by omega) (fun z => by omega) (fun _ => ⟨by rw [e0]; omega, fun j g0 g1 => ?_⟩)
          rw [e0] at g1
          rw [e1 1 j (by omega), e1 2 j (by omega)]
          by_cases q : j = A.2.2 2 0 0
          · rw [if_pos q, if_pos q]
            simp
            omega
          · rw [if_neg q, if_neg q]
            exact i6.2 j g0 (by omega)
      · exact h
    · exact h
theorem passS_g (h : good n A) {rain a : Int} : good n (passS A rain a) := by
  obtain ⟨h1, h2, h3, h4⟩ := pass_I h.1 h.2.1 h.2.2.1 rain a
  exact ⟨h1, h2, h3, by rw [h4]; exact h.2.2.2⟩
end
