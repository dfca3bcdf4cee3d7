/-! IMAGE and UNDO, on both sides -/
/-- the memory as it were behind an undo -/
def und (m : SM) : SM := (fun k i => if k = 177 then (if i = 15 then m.1 177 52 else if i = 0 then m.1 177 53 else if i = 1 then m.1 177 54 else if i = 2 then m.1 177 55 else if i = 3 then m.1 177 56 else if i = 41 then m.1 177 57 else if i = 45 then m.1 177 58 else if i = 46 then m.1 177 59 else m.1 177 i) else if 178 ≤ k ∧ k ≤ 187 then m.1 (k + 32) i else if 203 ≤ k ∧ k ≤ 209 then m.1 (k + 17) i else m.1 k i, m.2)
def szN (k : Nat) : Int := if k ≤ 180 then 8 else if k ≤ 184 then 6 else if k = 185 then 24 else if k ≤ 187 then 48 else if k ≤ 205 then 5 else if k ≤ 207 then 10 else 8
def SameN (m m' : SM) : Prop := (m'.1 177 0 = m.1 177 0 ∧ m'.1 177 1 = m.1 177 1 ∧ m'.1 177 2 = m.1 177 2 ∧ m'.1 177 3 = m.1 177 3 ∧ m'.1 177 15 = m.1 177 15 ∧ m'.1 177 41 = m.1 177 41 ∧ m'.1 177 45 = m.1 177 45 ∧ m'.1 177 46 = m.1 177 46) ∧ ∀ k : Nat, ((178 ≤ k ∧ k ≤ 187) ∨ (203 ≤ k ∧ k ≤ 209)) → ∀ i : Int, 0 ≤ i → i < szN k → m'.1 k i.toNat = m.1 k i.toNat
theorem SameN.tr {a b c : SM} (h1 : SameN a b) (h2 : SameN b c) : SameN a c := ⟨⟨h2.1.1.trans h1.1.1, h2.1.2.1.trans h1.1.2.1, h2.1.2.2.1.trans h1.1.2.2.1, h2.1.2.2.2.1.trans h1.1.2.2.2.1, h2.1.2.2.2.2.1.trans h1.1.2.2.2.2.1, h2.1.2.2.2.2.2.1.trans h1.1.2.2.2.2.2.1, h2.1.2.2.2.2.2.2.1.trans h1.1.2.2.2.2.2.2.1, h2.1.2.2.2.2.2.2.2.trans h1.1.2.2.2.2.2.2.2⟩, fun k hk i h0 h3 => (h2.2 k hk i h0 h3).trans (h1.2 k hk i h0 h3)⟩
theorem ShN.same {sh : Int} {A : Shp} {m m' : SM} (h : ShN sh A m) (h6 : A.1 0 0 ≤ 6) (hS : SameN m m') : ShN sh A m' := by
  obtain ⟨⟨a0, a1, a2, a3⟩, b, c, e⟩ := h
  obtain ⟨⟨s0, s1, s2, s3, -⟩, s⟩ := hS
  refine ⟨by rw [s0, s1, s2, s3]; exact ⟨a0, a1, a2, a3⟩, fun k h0 h1 j h2 h3 => ?_, fun p h0 h1 => ?_, e⟩
  · rw [s (177 + k) (by omega) j h2 (by unfold szN; rw [if_pos (by omega)]; exact h3)]
    exact b k h0 h1 j h2 h3
  · obtain ⟨⟨y0, y1, y2, y3⟩, y4, y5, y6⟩ := c p h0 h1
    refine ⟨⟨?_, ?_, ?_, ?_⟩, fun j z0 z1 => ?_, fun j z0 z1 z2 => ?_, fun j z0 z1 => ?_⟩
    · rw [s 181 (by omega) p h0 (by unfold szN; simp; omega)]; exact y0
    · rw [s 182 (by omega) p h0 (by unfold szN; simp; omega)]; exact y1
    · rw [s 183 (by omega) p h0 (by unfold szN; simp; omega)]; exact y2
    · rw [s 184 (by omega) p h0 (by unfold szN; simp; omega)]; exact y3
    · rw [s 185 (by omega) (4 * p + j) (by omega) (by unfold szN; simp; omega)]; exact y4 j z0 z1
    · rw [s 186 (by omega) (8 * p + j) (by omega) (by unfold szN; simp; omega)]; exact y5 j z0 z1 z2
    · rw [s 187 (by omega) (8 * p + j) (by omega) (by unfold szN; simp; omega)]; exact y6 j z0 z1
theorem RwN.same {A : Shp} {m m' : SM} (h : RwN A m) (hI : ShI A) (hS : SameN m m') : RwN A m' := by
  obtain ⟨⟨-, -, -, -, -, s4, s5, s6⟩, s⟩ := hS
  have i3 := hI.2.2.2.1.1
  have i4 := hI.2.2.2.2.1.1
  have i5 := hI.2.2.2.2.2.1
  refine ⟨⟨by rw [s4]; exact h.1.1, fun k h0 h1 j h2 h3 => ?_⟩, ⟨by rw [s5]; exact h.2.1.1, fun j h2 h3 => ?_⟩, ⟨by rw [s6]; exact h.2.2.1, fun j h2 h3 => ?_⟩⟩
  · rw [s (202 + k) (by omega) j h2 (by unfold szN; rw [if_neg (by omega), if_neg (by omega), if_neg (by omega), if_neg (by omega), if_pos (by omega)]; omega)]
    exact h.1.2 k h0 h1 j h2 h3
  · rw [s 206 (by omega) j h2 (by unfold szN; simp; omega), s 207 (by omega) j h2 (by unfold szN; simp; omega)]
    exact h.2.1.2 j h2 h3
  · rw [s 208 (by omega) j h2 (by unfold szN; simp; omega), s 209 (by omega) j h2 (by unfold szN; simp; omega)]
    exact h.2.2.2 j h2 h3
/-- what an undo would bring back stays as it is -/
theorem und_same {m m' : SM} (h1 : ∀ i, 52 ≤ i → i ≤ 59 → m'.1 177 i = m.1 177 i) (h2 : ∀ k, 210 ≤ k → k ≤ 226 → m'.1 k = m.1 k) : SameN (und m) (und m') := by
  refine ⟨⟨h1 53 (by omega) (by omega), h1 54 (by omega) (by omega), h1 55 (by omega) (by omega), h1 56 (by omega) (by omega), h1 52 (by omega) (by omega), h1 57 (by omega) (by omega), h1 58 (by omega) (by omega), h1 59 (by omega) (by omega)⟩, fun k hk i h0 h3 => ?_⟩
  unfold und
  simp only
  rw [if_neg (show ¬ k = 177 by omega), if_neg (show ¬ k = 177 by omega)]
  by_cases c : 178 ≤ k ∧ k ≤ 187
  · rw [if_pos c, if_pos c, h2 (k + 32) (by omega) (by omega)]
  · rw [if_neg c, if_neg c, if_pos (show 203 ≤ k ∧ k ≤ 209 by omega), if_pos (show 203 ≤ k ∧ k ≤ 209 by omega), h2 (k + 17) (by omega) (by omega)]
section
variable {m : SM} {d : Nat} {A B : Shp} {sh : Int}
theorem S_75 (hI : ShI A) (hR : ShR 1 A m) : ∃ m', cB Q0 (d + 3) 75 [.ref 0] m = some (some (.int (J (A.1 0 0))), m') ∧ ShR 42 A m' ∧ m'.1 0 3 = J 1 ∧ (∀ i, i ≠ 3 → m'.1 0 i = m.1 0 i) ∧ Fr (fun k => sK 42 k ∨ k = 0) m m' := by
  obtain ⟨m1, q1, q2, q3⟩ := S_24 (d := d) (Or.inr (Or.inl rfl) : isS 42) (Or.inl rfl : isS 1) (by omega) hI hR
  have i0 := hI.1.1
  have hR1 := hR.fr i0.2 q3 (fun k g0 g1 => by unfold sK; omega)
  have k1 : Fr (fun k => k = 0) m1 (up2 m1.1 0 3 (J 1), m1.2) := Fr.put (K := fun k => k = 0) rfl _ _
  refine ⟨(up2 m1.1 0 3 (J 1), m1.2), ?_, q2.fr i0.2 k1 (fun k g0 g1 => by omega), ?_, fun i hi => ?_, (q3.mono fun k hk => Or.inl hk).tr (k1.mono fun k hk => Or.inr hk)⟩
  · rw [cB_eq]
    show rB Q0 75 (cB Q0 (d + 2)) 0 [some (.ref 0)] m = _
    rw [T_75_0, q1, bV_e, nr_1, bX_e]
    show some (some (Value.int (up2 m1.1 0 3 (J 1) 1 4)), _) = _
    rw [u2_ne _ _ (by omega), hR1.1.1]
    rfl
  · show up2 m1.1 0 3 (J 1) 0 3 = _
    rw [u2_at, if_pos rfl]
  · show up2 m1.1 0 3 (J 1) 0 i = _
    rw [u2_at, if_neg hi, q3.1 0 (by unfold sK; omega)]
theorem S_76n (h : m.1 0 3 = J 0) : cB Q0 (d + 3) 76 [.ref 0] m = some (some (.int (J (-3))), m) := by
  rw [cB_eq]
  show rB Q0 76 (cB Q0 (d + 2)) 0 [some (.ref 0)] m = _
  rw [T_76_0, bX_e, h]
  rfl
theorem S_76 (h : m.1 0 3 = J 1) (hI : ShI B) (hR : ShR 42 B m) : ∃ m', cB Q0 (d + 3) 76 [.ref 0] m = some (some (.int (J (B.1 0 0))), m') ∧ ShR 1 B m' ∧ Fr (sK 1) m m' := by
  obtain ⟨m1, q1, q2, q3⟩ := S_24 (d := d) (Or.inl rfl : isS 1) (Or.inr (Or.inl rfl) : isS 42) (by omega) hI hR
  refine ⟨m1, ?_, q2, q3⟩
  rw [cB_eq]
  show rB Q0 76 (cB Q0 (d + 2)) 0 [some (.ref 0)] m = _
  rw [T_76_0, bX_e, h, show bT (Q0.1 0 (J 1) 0) (some (some (Value.int (-3)), m)) (bV (cB Q0 (d + 2) 24 [.ref 1, .ref 42] m) fun m2 => bX (m2.1 1 4) fun z3 => some (some (.int z3), m2)) = bV (cB Q0 (d + 2) 24 [.ref 1, .ref 42] m) fun m2 => bX (m2.1 1 4) fun z3 => some (some (.int z3), m2) from rfl, q1, bV_e, bX_e, q2.1.1]
def imI : Nat → Prop := fun i => 51 ≤ i ∧ i ≤ 59
def imK : Nat → Prop := fun k => 210 ≤ k ∧ k ≤ 226
theorem S_186 : ∃ m', cB Q0 (d + 1) 186 [.ref 177] m = some (some (.int (m.1 177 0)), m') ∧ SameN m (und m') ∧ m'.1 177 51 = J 1 ∧ FrR imK imI m m' := by
  generalize hM : ((up2 (up2 (up2 (up2 (up2 (up2 (up2 (up2 (up2 m.1 177 51 (J 1)) 177 52 (m.1 177 15)) 177 53 (m.1 177 0)) 177 54 (m.1 177 1)) 177 55 (m.1 177 2)) 177 56 (m.1 177 3)) 177 57 (m.1 177 41)) 177 58 (m.1 177 45)) 177 59 (m.1 177 46), m.2) : SM) = M
  have f0 : FrR imK imI m M := by
    rw [← hM]
    refine ⟨fun k hk h7 => by simp (disch := omega) only [u2_ne], fun i hi => ?_, rfl⟩
    unfold imI at hi
    simp only [u2_at]
    rw [if_neg (by omega), if_neg (by omega), if_neg (by omega), if_neg (by omega), if_neg (by omega), if_neg (by omega), if_neg (by omega), if_neg (by omega), if_neg (by omega)]
  obtain ⟨m1, a1, b1, c1⟩ := L_186_71 (cf := cB Q0 d) 6 0 M (by omega) (by omega) (fun i z0 z1 => by omega)
  obtain ⟨m2, a2, b2, c2⟩ := L_186_133 (cf := cB Q0 d) 24 0 m1 (by omega) (by omega) (fun i z0 z1 => by omega)
  obtain ⟨m3, a3, b3, c3⟩ := L_186_159 (cf := cB Q0 d) 48 0 m2 (by omega) (by omega) (fun i z0 z1 => by omega)
  obtain ⟨m4, a4, b4, c4⟩ := L_186_197 (cf := cB Q0 d) 5 0 m3 (by omega) (by omega) (fun i z0 z1 => by omega)
  obtain ⟨m5, a5, b5, c5⟩ := L_186_246 (cf := cB Q0 d) 10 0 m4 (by omega) (by omega) (fun i z0 z1 => by omega)
  obtain ⟨m6, a6, b6, c6⟩ := L_186_284 (cf := cB Q0 d) 8 0 m5 (by omega) (by omega) (fun i z0 z1 => by omega)
  have g : ∀ {a b : SM} {K : Nat → Prop}, FrR K noI a b → (∀ k, K k → imK k) → FrR imK imI a b := fun h hk => h.mono hk fun _ z => z.elim
  have f1 := g c1 (fun k hk => by unfold imK; omega)
  have f2 := g c2 (fun k hk => by unfold imK; omega)
  have f3 := g c3 (fun k hk => by unfold imK; omega)
  have f4 := g c4 (fun k hk => by unfold imK; omega)
  have f5 := g c5 (fun k hk => by unfold imK; omega)
  have f6 := g c6 (fun k hk => by unfold imK; omega)
  have f := (((((f0.tr f1).tr f2).tr f3).tr f4).tr f5).tr f6
  have e177 : m6.1 177 = M.1 177 := funext fun i => by rw [c6.2.1 i (fun z => z), c5.2.1 i (fun z => z), c4.2.1 i (fun z => z), c3.2.1 i (fun z => z), c2.2.1 i (fun z => z), c1.2.1 i (fun z => z)]
  have s0 : ∀ k, ¬ (210 ≤ k ∧ k ≤ 226) → k ≠ 177 → m6.1 k = m.1 k := fun k h h7 => f.1 k h h7
  refine ⟨m6, ?_, ⟨⟨?_, ?_, ?_, ?_, ?_, ?_, ?_, ?_⟩, fun k hk i h0 h3 => ?_⟩, ?_, f⟩
  · rw [cB_eq]
    show rB Q0 186 (cB Q0 d) 0 [some (.ref 177)] m = _
    rw [T_186_0, nr_1]
    have e : ∀ (r s : Rs SM), r = s → r = s := fun _ _ h => h
    show rB Q0 186 (cB Q0 d) 71 [some (.ref 177), some (.int (J 0))] _ = _
    refine Eq.trans (b := rB Q0 186 (cB Q0 d) 71 [some (.ref 177), some (.int (J 0))] M) ?_ ?_
    · congr 1
    · rw [a1, a2, a3, a4, a5, a6, e177, ← hM]
      simp (disch := omega) only [u2_at]
      rfl
  · show m6.1 177 53 = _
    rw [e177, ← hM]; rfl
  · show m6.1 177 54 = _
    rw [e177, ← hM]; rfl
  · show m6.1 177 55 = _
    rw [e177, ← hM]; rfl
  · show m6.1 177 56 = _
    rw [e177, ← hM]; rfl
  · show m6.1 177 52 = _
    rw [e177, ← hM]; rfl
  · show m6.1 177 57 = _
    rw [e177, ← hM]; rfl
  · show m6.1 177 58 = _
    rw [e177, ← hM]; rfl
  · show m6.1 177 59 = _
    rw [e177, ← hM]; rfl
  · have hu : (und m6).1 k i.toNat = m6.1 (if k ≤ 187 then k + 32 else k + 17) i.toNat := by
      unfold und
      simp only
      rw [if_neg (show ¬ k = 177 by omega)]
      by_cases c : 178 ≤ k ∧ k ≤ 187
      · rw [if_pos c, if_pos c.2]
      · rw [if_neg c, if_pos (show 203 ≤ k ∧ k ≤ 209 by omega), if_neg (by omega)]
    rw [hu]
    have key : ∀ {a b c : Int32}, a = b → b = c → a = c := fun h1 h2 => h1.trans h2
    have x1 : ∀ k, 213 ≤ k → k ≤ 216 → m6.1 k = m1.1 k := fun k g0 g1 => by rw [c6.1 k (by omega) (by omega), c5.1 k (by omega) (by omega), c4.1 k (by omega) (by omega), c3.1 k (by omega) (by omega), c2.1 k (by omega) (by omega)]
    have x2 : m6.1 217 = m2.1 217 := by rw [c6.1 217 (by omega) (by omega), c5.1 217 (by omega) (by omega), c4.1 217 (by omega) (by omega), c3.1 217 (by omega) (by omega)]
    have x3 : ∀ k, 218 ≤ k → k ≤ 219 → m6.1 k = m3.1 k := fun k g0 g1 => by rw [c6.1 k (by omega) (by omega), c5.1 k (by omega) (by omega), c4.1 k (by omega) (by omega)]
    have x4 : ∀ k, 220 ≤ k → k ≤ 222 → m6.1 k = m4.1 k := fun k g0 g1 => by rw [c6.1 k (by omega) (by omega), c5.1 k (by omega) (by omega)]
    have x5 : ∀ k, 223 ≤ k → k ≤ 224 → m6.1 k = m5.1 k := fun k g0 g1 => by rw [c6.1 k (by omega) (by omega)]
    have y1 : ∀ k, 178 ≤ k → k ≤ 209 → m1.1 k = m.1 k := fun k g0 g1 => (f0.tr f1).1 k (by unfold imK; omega) (by omega)
    have y2 : ∀ k, 178 ≤ k → k ≤ 209 → m2.1 k = m.1 k := fun k g0 g1 => ((f0.tr f1).tr f2).1 k (by unfold imK; omega) (by omega)
    have y3 : ∀ k, 178 ≤ k → k ≤ 209 → m3.1 k = m.1 k := fun k g0 g1 => (((f0.tr f1).tr f2).tr f3).1 k (by unfold imK; omega) (by omega)
    have y4 : ∀ k, 178 ≤ k → k ≤ 209 → m4.1 k = m.1 k := fun k g0 g1 => ((((f0.tr f1).tr f2).tr f3).tr f4).1 k (by unfold imK; omega) (by omega)
    have y5 : ∀ k, 178 ≤ k → k ≤ 209 → m5.1 k = m.1 k := fun k g0 g1 => (((((f0.tr f1).tr f2).tr f3).tr f4).tr f5).1 k (by unfold imK; omega) (by omega)
    have y6 : ∀ k, 178 ≤ k → k ≤ 209 → m6.1 k = m.1 k := fun k g0 g1 => f.1 k (by unfold imK; omega) (by omega)
    rcases (show k = 178 ∨ k = 179 ∨ k = 180 ∨ k = 181 ∨ k = 182 ∨ k = 183 ∨ k = 184 ∨ k = 185 ∨ k = 186 ∨ k = 187 ∨ k = 203 ∨ k = 204 ∨ k = 205 ∨ k = 206 ∨ k = 207 ∨ k = 208 ∨ k = 209 by omega) with rfl | rfl | rfl | rfl | rfl | rfl | rfl | rfl | rfl | rfl | rfl | rfl | rfl | rfl | rfl | rfl | rfl
    · show m6.1 210 i.toNat = m.1 178 i.toNat
      rw [← y6 178 (by omega) (by omega)]; exact (b6 i h0 h3).1
    · show m6.1 211 i.toNat = m.1 179 i.toNat
      rw [← y6 179 (by omega) (by omega)]; exact (b6 i h0 h3).2.1
    · show m6.1 212 i.toNat = m.1 180 i.toNat
      rw [← y6 180 (by omega) (by omega)]; exact (b6 i h0 h3).2.2.1
    · show m6.1 213 i.toNat = m.1 181 i.toNat
      rw [x1 213 (by omega) (by omega), ← y1 181 (by omega) (by omega)]; exact (b1 i h0 h3).1
    · show m6.1 214 i.toNat = m.1 182 i.toNat
      rw [x1 214 (by omega) (by omega), ← y1 182 (by omega) (by omega)]; exact (b1 i h0 h3).2.1
    · show m6.1 215 i.toNat = m.1 183 i.toNat
      rw [x1 215 (by omega) (by omega), ← y1 183 (by omega) (by omega)]; exact (b1 i h0 h3).2.2.1
    · show m6.1 216 i.toNat = m.1 184 i.toNat
      rw [x1 216 (by omega) (by omega), ← y1 184 (by omega) (by omega)]; exact (b1 i h0 h3).2.2.2
    · show m6.1 217 i.toNat = m.1 185 i.toNat
      rw [x2, ← y2 185 (by omega) (by omega)]; exact b2 i h0 h3
    · show m6.1 218 i.toNat = m.1 186 i.toNat
      rw [x3 218 (by omega) (by omega), ← y3 186 (by omega) (by omega)]; exact (b3 i h0 h3).1
    · show m6.1 219 i.toNat = m.1 187 i.toNat
      rw [x3 219 (by omega) (by omega), ← y3 187 (by omega) (by omega)]; exact (b3 i h0 h3).2
    · show m6.1 220 i.toNat = m.1 203 i.toNat
      rw [x4 220 (by omega) (by omega), ← y4 203 (by omega) (by omega)]; exact (b4 i h0 h3).1
    · show m6.1 221 i.toNat = m.1 204 i.toNat
      rw [x4 221 (by omega) (by omega), ← y4 204 (by omega) (by omega)]; exact (b4 i h0 h3).2.1
    · show m6.1 222 i.toNat = m.1 205 i.toNat
      rw [x4 222 (by omega) (by omega), ← y4 205 (by omega) (by omega)]; exact (b4 i h0 h3).2.2
    · show m6.1 223 i.toNat = m.1 206 i.toNat
      rw [x5 223 (by omega) (by omega), ← y5 206 (by omega) (by omega)]; exact (b5 i h0 h3).1
    · show m6.1 224 i.toNat = m.1 207 i.toNat
      rw [x5 224 (by omega) (by omega), ← y5 207 (by omega) (by omega)]; exact (b5 i h0 h3).2
    · show m6.1 225 i.toNat = m.1 208 i.toNat
      rw [← y6 208 (by omega) (by omega)]; exact (b6 i h0 h3).2.2.2.1
    · show m6.1 226 i.toNat = m.1 209 i.toNat
      rw [← y6 209 (by omega) (by omega)]; exact (b6 i h0 h3).2.2.2.2
  · rw [e177, ← hM]; rfl
end
