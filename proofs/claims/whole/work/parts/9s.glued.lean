/-! Class and reference, asked one behind the other: THEATRE -/
section
variable {S : St} {m : SM} {d : Nat}
theorem ShR.hol {A : Shp} {m m1 : SM} {n : Int} (h : ShR 1 A m) (h6 : A.1 0 0 ≤ 6) (h1 : ∀ k, 2 ≤ k → k ≤ 41 → m1.1 k = m.1 k) (h2 : ∀ i, i ≠ 7 → m1.1 1 i = m.1 1 i) (h3 : m1.1 1 7 = J n) : ShR 1 (upS A 3 n) m1 := by
  have h9 := h.sc h6 (i := 3) (j := 3) rfl (by omega) n
  refine h9.keep (by simpa [upS, upH] using h6) fun k g0 g1 => ?_
  by_cases e : k = 1
  · subst e
    funext i
    show m1.1 1 i = up2 m.1 1 7 (J n) 1 i
    rw [u2_at]
    by_cases e2 : i = 7
    · rw [if_pos e2, e2, h3]
    · rw [if_neg e2]; exact h2 i e2
  · rw [h1 k (by omega) (by omega)]
    show m.1 k = up2 m.1 1 7 (J n) k
    rw [u2_ne _ _ e]
theorem upS3_g {A : Shp} {n : Int} (h : good n A) (h0 : 0 ≤ n ∧ n < 6) : good (n + 1) (upS A 3 n) := by
  obtain ⟨⟨⟨i0, i1, i2, i3⟩, b, c, d1, d2, d3⟩, h2, h3, h4⟩ := h
  have e0 : (upS A 3 n).1 0 0 = A.1 0 0 := by simp [upS, upH]
  have e1 : (upS A 3 n).1 0 1 = A.1 0 1 := by simp [upS, upH]
  have e2 : (upS A 3 n).1 0 2 = A.1 0 2 := by simp [upS, upH]
  have e3 : (upS A 3 n).1 0 3 = n := by simp [upS, upH]
  refine ⟨⟨by rw [e0, e1, e2, e3]; omega, fun q g0 g1 i g2 g3 => ?_, fun p g0 g1 => c p g0 (by rw [← e0]; exact g1), ⟨d1.1, fun i g0 g1 => by rw [e0]; exact d1.2 i g0 g1⟩, ⟨d2.1, fun i g0 g1 => by rw [e0]; exact d2.2 i g0 g1⟩, d3⟩, by rw [e1]; exact h2, by rw [e2]; exact h3, by rw [e3]; omega⟩
  have : (upS A 3 n).1 q i = A.1 q i := by
    show upH A.1 0 3 n q i = _
    unfold upH
    rw [if_neg (by omega)]
  rw [this]
  exact b q g0 g1 i g2 g3
theorem ShN.hol {sh n : Int} {A : Shp} {m : SM} (h : ShN sh A m) : ShN sh (upS A 3 n) m := by
  obtain ⟨a, b, c, e⟩ := h
  have e0 : (upS A 3 n).1 0 0 = A.1 0 0 := by simp [upS, upH]
  have e1 : (upS A 3 n).1 0 1 = A.1 0 1 := by simp [upS, upH]
  have e2 : (upS A 3 n).1 0 2 = A.1 0 2 := by simp [upS, upH]
  refine ⟨by rw [e0, e1, e2]; exact a, fun q g0 g1 i g2 g3 => ?_, fun p g0 g1 => c p g0 (by rw [← e0]; exact g1), e.1, fun p g0 g1 => e.2 p g0 (by rw [← e0]; exact g1)⟩
  have : (upS A 3 n).1 q i = A.1 q i := by
    show upH A.1 0 3 n q i = _
    unfold upH
    rw [if_neg (by omega)]
  rw [this]
  exact b q g0 g1 i g2 g3
theorem G_9 (h : Rel S m) : Both d 59 142 [] m := by
  obtain ⟨hP, ⟨a, b, c, e, f, g, i⟩, hN⟩ := id h
  have hn := hP.2.1
  have hx := hP.2.2.2.1
  by_cases h6 : S.n = 6
  · exact ⟨S, m, m, _, S_59f (d := d + 2) (by rw [b.1, h6]), S_142f (d := d + 18) (by rw [hN.2.1.1, h6]), h⟩
  · have h0 : 0 ≤ S.n ∧ S.n < 6 := by omega
    obtain ⟨m1, q1, q2, q3⟩ := S_59 (d := d + 2) hx.1 hx.2 h0 b.1 e f.1
    have hg := go_prg (tx := S.tx) (N := S.N) 10 0 [] hx.2.1 rfl trivial (by simp [clsL, catC])
    have k0 : ∀ k, ¬ frTh S.n k → m1.1 k = m.1 k := q3.1
    have k1 : ∀ k, k ≠ 0 → k ≠ 1 → k ≠ 129 → ¬ (141 ≤ k ∧ k ≤ 164) → m1.1 k = m.1 k := fun k z0 z1 z2 z3 => k0 k (by unfold frTh tqK thQ; omega)
    have hh := q3.hi (fun k hk => by unfold frTh tqK thQ at hk; omega)
    have hN1 := hN.cls hP hh.1 hh.2
    obtain ⟨⟨⟨sh, n1⟩, n2, n3, n4⟩, ⟨n5, n6⟩, n0, ⟨n7, n8⟩, n9, n10⟩ := hN1
    obtain ⟨m2, r1, r2, r3, r4, r5, r6⟩ := S_142 (d := d + 18) hx.1 hx.2 h0 n5 n7 n8
    have hl := r3.lo (fun k hk => by unfold gK at hk; omega)
    have j0 : ∀ k, ¬ (189 ≤ k ∧ k ≤ 195) → k ≠ 177 → m2.1 k = m1.1 k := fun k hk h7 => r3.1 k (by unfold gK; omega) h7
    have i0 : ∀ i, ¬ ((14 ≤ i ∧ i ≤ 18) ∨ (27 ≤ i ∧ i ≤ 29)) → m2.1 177 i = m1.1 177 i := fun i hi => r3.2.1 i (by unfold tmI; omega)
    have tOld : ∀ t, 0 ≤ t → t < S.n → TheC (thQ t) (rainL 0 (S.Ls t), clsL (S.Ls t)) m1 := fun t z0 z1 => (b.2.1 t z0 z1).fr q3 fun k g0 g1 z => by unfold frTh tqK thQ at z; unfold thQ at g0 g1; omega
    have tBare : TheC 125 (0, []) m1 := b.2.2.fr q3 fun k g0 g1 z => by unfold frTh tqK thQ at z; omega
    have nOld : ∀ t, 0 ≤ t → t < S.n → TheN t (S.Ls t) m2 := fun t z0 z1 => (n6 t z0 z1).keep ⟨z0, z1⟩ r4 r5 r6
    have s2 : ShN sh S.A m2 := n1.fr r3 (fun k hk => by unfold gK; omega) (fun i hi => by unfold tmI; omega)
    have w2 : ∀ B : Shp, S.A.2.2 = B.2.2 → RwN B m2 := fun B hB => n2.fr r3 (fun k z0 z1 => by unfold gK; omega) (fun i z0 z1 => by unfold tmI; omega) hB
    have t2 : TxtN S.tx 0 m2 := ⟨r2, fun j z0 z1 => by omega⟩
    have l2 : LetN m2 := fun i z0 z1 => by rw [j0 196 (by omega) (by omega)]; exact n8 i z0 z1
    have im2 : ∀ S' : St, S'.B = S.B → S'.f = S.f → ImN S' m2 := fun S' hB hf => by
      have := ImN.keep (S := S) n0 hP.2.2.1.2 (m' := m2) (fun i z0 z1 => i0 i (by omega)) (fun k z0 z1 => j0 k (by omega) (by omega))
      unfold ImN at this ⊢
      rw [hB, hf]
      exact this
    have g2 : LogN S.l m2 := n9.keep (i0 77 (by omega)) (j0 227 (by omega) (by omega))
    have p2 : TapN S.P m2 := n10.keep (j0 228 (by omega) (by omega)) (j0 229 (by omega) (by omega)) (by rw [r3.2.2])
    have c1 : cons m1 := cons.keep f fun k hk => k1 k (by omega) (by omega) (by omega) (by omega)
    have g1 : LogC S.l m1 := g.keep (k1 132 (by omega) (by omega) (by omega) (by omega)) (k1 133 (by omega) (by omega) (by omega) (by omega))
    have p1 : TapC S.P m1 := i.keep (fun k z0 z1 => k1 k (by omega) (by omega) (by omega) (by omega)) (fun k z0 z1 => by rw [q3.2])
    rcases q1 with ⟨e1, e2, e3, e4⟩ | ⟨L, e1, e2, e3, e4, e5, e6, e7⟩
    · rcases r1 with ⟨y1, y2, y3, y4⟩ | ⟨L2, y1, -⟩
      · have hP1 : RelP (S.wT S.tx 0) := ⟨hP.1, hP.2.1, hP.2.2.1, ⟨hx.1, by show (0 : Int) ≤ 0; omega, by show (0 : Int) ≤ 100; omega⟩, hP.2.2.2.2⟩
        have hC1 : RelC (S.wT S.tx 0) m1 := ⟨a.keep hP.1.1.1.1.2 fun k z0 z1 => by
          by_cases ek : k = 1
          · rw [ek]; exact e4
          · exact k1 k (by omega) ek (by omega) (by omega), ⟨by rw [e3]; exact b.1, tOld, tBare⟩, ⟨by rw [e3]; exact c.1, fun hf => (c.2 hf).keep (hP.2.2.1.2 hf).1.1.1.2 fun k z0 z1 => k1 k (by omega) (by omega) (by omega) (by omega)⟩, q2, c1, g1, p1⟩
        exact ⟨_, m1, m2, _, e2, y2, hP1, hC1.ref hP1 hl.1 hl.2, ⟨⟨sh, s2⟩, w2 _ rfl, by rw [y4]; exact n3, by rw [i0 32 (by omega)]; exact n4⟩, ⟨by rw [y3]; exact n5, nOld⟩, im2 _ rfl rfl, ⟨t2, l2⟩, g2, p2⟩
      · rw [e1] at y1
        exact absurd y1 (by simp)
    · rcases r1 with ⟨y1, -⟩ | ⟨L2, y1, y2, y3, y4, y5⟩
      · rw [e1] at y1
        exact absurd y1 (by simp)
      · have eL : L2 = L := by
          rw [e1] at y1
          exact (Option.some.inj y1).symm
        subst eL
        obtain ⟨o1, o2, o3⟩ := hg.2.2 L2 e1
        have hP1 : RelP (S.wL (upS S.A 3 S.n) (S.n + 1) (fun t => if t = S.n then L2 else S.Ls t)) := by
          refine ⟨upS3_g hP.1 h0, by show 0 ≤ S.n + 1 ∧ S.n + 1 ≤ 6; omega, ⟨hP.2.2.1.1, fun hf => ?_⟩, ⟨hx.1, by show (0 : Int) ≤ 0; omega, by show (0 : Int) ≤ 100; omega⟩, hP.2.2.2.2.1, fun t z0 z1 => ?_⟩
          · have hb := hP.2.2.1.2 hf
            exact ⟨hb.1, hb.2.1, hb.2.2.1, by have := hb.2.2.2; show S.B.1 0 3 < S.n + 1; omega⟩
          · have z1 : t < S.n + 1 := z1
            show okL (if t = S.n then L2 else S.Ls t)
            by_cases et : t = S.n
            · rw [if_pos et]; exact ⟨o1, o2, by omega⟩
            · rw [if_neg et]; exact hP.2.2.2.2.2 t z0 (by omega)
        have hC1 : RelC (S.wL (upS S.A 3 S.n) (S.n + 1) (fun t => if t = S.n then L2 else S.Ls t)) m1 := by
          refine ⟨a.hol hP.1.1.1.1.2 (fun k z0 z1 => k1 k (by omega) (by omega) (by omega) (by omega)) e6 e5, ⟨e3, fun t z0 z1 => ?_, tBare⟩, ⟨by rw [e4 3 (by omega)]; exact c.1, fun hf => (c.2 hf).keep (hP.2.2.1.2 hf).1.1.1.2 fun k z0 z1 => k1 k (by omega) (by omega) (by omega) (by omega)⟩, q2, c1, g1, p1⟩
          have z1 : t < S.n + 1 := z1
          show TheC (thQ t) (rainL 0 (if t = S.n then L2 else S.Ls t), clsL (if t = S.n then L2 else S.Ls t)) m1
          by_cases et : t = S.n
          · rw [if_pos et, et]; exact e7
          · rw [if_neg et]; exact tOld t z0 (by omega)
        refine ⟨_, m1, m2, _, e2, y2, hP1, hC1.ref hP1 hl.1 hl.2, ⟨⟨sh, s2.hol⟩, w2 _ rfl, ?_, by rw [i0 32 (by omega)]; exact n4⟩, ⟨y3, fun t z0 z1 => ?_⟩, im2 _ rfl rfl, ⟨t2, l2⟩, g2, p2⟩
        · rw [y4]
          show J S.n = J ((upS S.A 3 S.n).1 0 3)
          simp [upS, upH]
        · have z1 : t < S.n + 1 := z1
          show TheN t (if t = S.n then L2 else S.Ls t) m2
          by_cases et : t = S.n
          · rw [if_pos et, et]; exact y5
          · rw [if_neg et]; exact nOld t z0 (by omega)
end
