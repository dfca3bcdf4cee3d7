/-! UNDO, asked of the reference -/
section
variable {m : SM} {d : Nat} {A B : Shp} {sh : Int}
def unK : Nat → Prop := fun k => (178 ≤ k ∧ k ≤ 187) ∨ (203 ≤ k ∧ k ≤ 209)
def unI : Nat → Prop := fun i => i ≤ 3 ∨ i = 15 ∨ i = 41 ∨ i = 45 ∨ i = 46
theorem S_187n (h : m.1 177 51 = J 0) : cB Q0 (d + 1) 187 [.ref 177] m = some (some (.int (J (-3))), m) := by
  rw [cB_eq]
  show rB Q0 187 (cB Q0 d) 0 [some (.ref 177)] m = _
  rw [T_187_0, bX_e, h]
  rfl
theorem S_187 (h : m.1 177 51 = J 1) : ∃ m', cB Q0 (d + 1) 187 [.ref 177] m = some (some (.int (m.1 177 53)), m') ∧ SameN (und m) m' ∧ FrR unK unI m m' := by
  generalize hM : ((up2 (up2 (up2 (up2 (up2 (up2 (up2 (up2 m.1 177 15 (m.1 177 52)) 177 0 (m.1 177 53)) 177 1 (m.1 177 54)) 177 2 (m.1 177 55)) 177 3 (m.1 177 56)) 177 41 (m.1 177 57)) 177 45 (m.1 177 58)) 177 46 (m.1 177 59), m.2) : SM) = M
  have f0 : FrR unK unI m M := by
    rw [← hM]
    refine ⟨fun k hk h7 => by simp (disch := omega) only [u2_ne], fun i hi => ?_, rfl⟩
    unfold unI at hi
    simp only [u2_at]
    rw [if_neg (by omega), if_neg (by omega), if_neg (by omega), if_neg (by omega), if_neg (by omega), if_neg (by omega), if_neg (by omega), if_neg (by omega)]
  obtain ⟨m1, a1, b1, c1⟩ := L_187_76 (cf := cB Q0 d) 6 0 M (by omega) (by omega) (fun i z0 z1 => by omega)
  obtain ⟨m2, a2, b2, c2⟩ := L_187_138 (cf := cB Q0 d) 24 0 m1 (by omega) (by omega) (fun i z0 z1 => by omega)
  obtain ⟨m3, a3, b3, c3⟩ := L_187_164 (cf := cB Q0 d) 48 0 m2 (by omega) (by omega) (fun i z0 z1 => by omega)
  obtain ⟨m4, a4, b4, c4⟩ := L_187_202 (cf := cB Q0 d) 5 0 m3 (by omega) (by omega) (fun i z0 z1 => by omega)
  obtain ⟨m5, a5, b5, c5⟩ := L_187_251 (cf := cB Q0 d) 10 0 m4 (by omega) (by omega) (fun i z0 z1 => by omega)
  obtain ⟨m6, a6, b6, c6⟩ := L_187_289 (cf := cB Q0 d) 8 0 m5 (by omega) (by omega) (fun i z0 z1 => by omega)
  have g : ∀ {a b : SM} {K : Nat → Prop}, FrR K noI a b → (∀ k, K k → unK k) → FrR unK unI a b := fun h hk => h.mono hk fun _ z => z.elim
  have f1 := g c1 (fun k hk => by unfold unK; omega)
  have f2 := g c2 (fun k hk => by unfold unK; omega)
  have f3 := g c3 (fun k hk => by unfold unK; omega)
  have f4 := g c4 (fun k hk => by unfold unK; omega)
  have f5 := g c5 (fun k hk => by unfold unK; omega)
  have f6 := g c6 (fun k hk => by unfold unK; omega)
  have f := (((((f0.tr f1).tr f2).tr f3).tr f4).tr f5).tr f6
  have e177 : m6.1 177 = M.1 177 := funext fun i => by rw [c6.2.1 i (fun z => z), c5.2.1 i (fun z => z), c4.2.1 i (fun z => z), c3.2.1 i (fun z => z), c2.2.1 i (fun z => z), c1.2.1 i (fun z => z)]
  refine ⟨m6, ?_, ⟨⟨?_, ?_, ?_, ?_, ?_, ?_, ?_, ?_⟩, fun k hk i h0 h3 => ?_⟩, f⟩
  · rw [cB_eq]
    show rB Q0 187 (cB Q0 d) 0 [some (.ref 177)] m = _
    rw [T_187_0, bX_e, h]
    refine Eq.trans (b := rB Q0 187 (cB Q0 d) 76 [some (.ref 177), some (.int (J 0))] M) ?_ ?_
    · rw [← hM]
      rfl
    · rw [a1, a2, a3, a4, a5, a6, e177, ← hM]
      simp (disch := omega) only [u2_at]
      rfl
  · rw [e177, ← hM]; rfl
  · rw [e177, ← hM]; rfl
  · rw [e177, ← hM]; rfl
  · rw [e177, ← hM]; rfl
  · rw [e177, ← hM]; rfl
  · rw [e177, ← hM]; rfl
  · rw [e177, ← hM]; rfl
  · rw [e177, ← hM]; rfl
  · have hu : (und m).1 k i.toNat = m.1 (if k ≤ 187 then k + 32 else k + 17) i.toNat := by
      unfold und
      simp only
      rw [if_neg (show ¬ k = 177 by omega)]
      by_cases c : 178 ≤ k ∧ k ≤ 187
      · rw [if_pos c, if_pos c.2]
      · rw [if_neg c, if_pos (show 203 ≤ k ∧ k ≤ 209 by omega), if_neg (by omega)]
    rw [hu]
    have x1 : ∀ k, 181 ≤ k → k ≤ 184 → m6.1 k = m1.1 k := fun k g0 g1 => by rw [c6.1 k (by omega) (by omega), c5.1 k (by omega) (by omega), c4.1 k (by omega) (by omega), c3.1 k (by omega) (by omega), c2.1 k (by omega) (by omega)]
    have x2 : m6.1 185 = m2.1 185 := by rw [c6.1 185 (by omega) (by omega), c5.1 185 (by omega) (by omega), c4.1 185 (by omega) (by omega), c3.1 185 (by omega) (by omega)]
    have x3 : ∀ k, 186 ≤ k → k ≤ 187 → m6.1 k = m3.1 k := fun k g0 g1 => by rw [c6.1 k (by omega) (by omega), c5.1 k (by omega) (by omega), c4.1 k (by omega) (by omega)]
    have x4 : ∀ k, 203 ≤ k → k ≤ 205 → m6.1 k = m4.1 k := fun k g0 g1 => by rw [c6.1 k (by omega) (by omega), c5.1 k (by omega) (by omega)]
    have x5 : ∀ k, 206 ≤ k → k ≤ 207 → m6.1 k = m5.1 k := fun k g0 g1 => by rw [c6.1 k (by omega) (by omega)]
    have y1 : ∀ k, 210 ≤ k → k ≤ 226 → m1.1 k = m.1 k := fun k g0 g1 => (f0.tr f1).1 k (by unfold unK; omega) (by omega)
    have y2 : ∀ k, 210 ≤ k → k ≤ 226 → m2.1 k = m.1 k := fun k g0 g1 => ((f0.tr f1).tr f2).1 k (by unfold unK; omega) (by omega)
    have y3 : ∀ k, 210 ≤ k → k ≤ 226 → m3.1 k = m.1 k := fun k g0 g1 => (((f0.tr f1).tr f2).tr f3).1 k (by unfold unK; omega) (by omega)
    have y4 : ∀ k, 210 ≤ k → k ≤ 226 → m4.1 k = m.1 k := fun k g0 g1 => ((((f0.tr f1).tr f2).tr f3).tr f4).1 k (by unfold unK; omega) (by omega)
    have y5 : ∀ k, 210 ≤ k → k ≤ 226 → m5.1 k = m.1 k := fun k g0 g1 => (((((f0.tr f1).tr f2).tr f3).tr f4).tr f5).1 k (by unfold unK; omega) (by omega)
    have y6 : ∀ k, 210 ≤ k → k ≤ 226 → m6.1 k = m.1 k := fun k g0 g1 => f.1 k (by unfold unK; omega) (by omega)
    rcases (show k = 178 ∨ k = 179 ∨ k = 180 ∨ k = 181 ∨ k = 182 ∨ k = 183 ∨ k = 184 ∨ k = 185 ∨ k = 186 ∨ k = 187 ∨ k = 203 ∨ k = 204 ∨ k = 205 ∨ k = 206 ∨ k = 207 ∨ k = 208 ∨ k = 209 by omega) with rfl | rfl | rfl | rfl | rfl | rfl | rfl | rfl | rfl | rfl | rfl | rfl | rfl | rfl | rfl | rfl | rfl
    · show m6.1 178 i.toNat = m.1 210 i.toNat
      rw [← y6 210 (by omega) (by omega)]; exact (b6 i h0 h3).1
    · show m6.1 179 i.toNat = m.1 211 i.toNat
      rw [← y6 211 (by omega) (by omega)]; exact (b6 i h0 h3).2.1
    · show m6.1 180 i.toNat = m.1 212 i.toNat
      rw [← y6 212 (by omega) (by omega)]; exact (b6 i h0 h3).2.2.1
    · show m6.1 181 i.toNat = m.1 213 i.toNat
      rw [x1 181 (by omega) (by omega), ← y1 213 (by omega) (by omega)]; exact (b1 i h0 h3).1
    · show m6.1 182 i.toNat = m.1 214 i.toNat
      rw [x1 182 (by omega) (by omega), ← y1 214 (by omega) (by omega)]; exact (b1 i h0 h3).2.1
    · show m6.1 183 i.toNat = m.1 215 i.toNat
      rw [x1 183 (by omega) (by omega), ← y1 215 (by omega) (by omega)]; exact (b1 i h0 h3).2.2.1
    · show m6.1 184 i.toNat = m.1 216 i.toNat
      rw [x1 184 (by omega) (by omega), ← y1 216 (by omega) (by omega)]; exact (b1 i h0 h3).2.2.2
    · show m6.1 185 i.toNat = m.1 217 i.toNat
      rw [x2, ← y2 217 (by omega) (by omega)]; exact b2 i h0 h3
    · show m6.1 186 i.toNat = m.1 218 i.toNat
      rw [x3 186 (by omega) (by omega), ← y3 218 (by omega) (by omega)]; exact (b3 i h0 h3).1
    · show m6.1 187 i.toNat = m.1 219 i.toNat
      rw [x3 187 (by omega) (by omega), ← y3 219 (by omega) (by omega)]; exact (b3 i h0 h3).2
    · show m6.1 203 i.toNat = m.1 220 i.toNat
      rw [x4 203 (by omega) (by omega), ← y4 220 (by omega) (by omega)]; exact (b4 i h0 h3).1
    · show m6.1 204 i.toNat = m.1 221 i.toNat
      rw [x4 204 (by omega) (by omega), ← y4 221 (by omega) (by omega)]; exact (b4 i h0 h3).2.1
    · show m6.1 205 i.toNat = m.1 222 i.toNat
      rw [x4 205 (by omega) (by omega), ← y4 222 (by omega) (by omega)]; exact (b4 i h0 h3).2.2
    · show m6.1 206 i.toNat = m.1 223 i.toNat
      rw [x5 206 (by omega) (by omega), ← y5 223 (by omega) (by omega)]; exact (b5 i h0 h3).1
    · show m6.1 207 i.toNat = m.1 224 i.toNat
      rw [x5 207 (by omega) (by omega), ← y5 224 (by omega) (by omega)]; exact (b5 i h0 h3).2
    · show m6.1 208 i.toNat = m.1 225 i.toNat
      rw [← y6 225 (by omega) (by omega)]; exact (b6 i h0 h3).2.2.2.1
    · show m6.1 209 i.toNat = m.1 226 i.toNat
      rw [← y6 226 (by omega) (by omega)]; exact (b6 i h0 h3).2.2.2.2
end
