/-! Class and reference, asked one behind the other: questions -/
def Both (d mi ni : Nat) (av : List Value) (m : SM) : Prop := ∃ S' m1 m2 x, cB Q0 (d + 26) mi (.ref 0 :: av) m = some (some (.int x), m1) ∧ cB Q0 (d + 26) ni (.ref 177 :: av) m1 = some (some (.int x), m2) ∧ Rel S' m2
def BothL (d mi ni : Nat) (av : List Value) (m : SM) : Prop := ∃ S' m1 m2 x, cB Q0 (d + 26) mi (.ref 0 :: av) m = some (some (.long x), m1) ∧ cB Q0 (d + 26) ni (.ref 177 :: av) m1 = some (some (.long x), m2) ∧ Rel S' m2
theorem Rel.q {S : St} {m m' : SM} (h : Rel S m) (hF : Fr scK m m') : Rel S m' := by
  have hh := hF.hi (fun k hk => by unfold scK at hk; omega)
  exact ⟨h.1, h.2.1.q h.1 hF, h.2.2.cls h.1 hh.1 hh.2⟩
theorem Rel.b {S : St} {m m' : SM} (h : Rel S m) (hB : BK m m') : Rel S m' := ⟨h.1, h.2.1.ref h.1 hB.lo.1 hB.lo.2, h.2.2.bk h.1 hB⟩
theorem in32 (x : Int32) : ∃ z : Int, (-2147483648 ≤ z ∧ z ≤ 2147483647) ∧ x = J z := by
  obtain ⟨z, h1, h2, h3⟩ := J_ex x
  exact ⟨z, ⟨h1, h2⟩, h3⟩
section
variable {S : St} {m : SM} {d : Nat} {x y z w : Int32}
theorem G_1 (h : Rel S m) : Both d 51 162 [.int x, .int y] m := by
  obtain ⟨p, hp, rfl⟩ := in32 x
  obtain ⟨q, hq, rfl⟩ := in32 y
  obtain ⟨hI, g1, g2, g3⟩ := h.1.1
  obtain ⟨m1, q1, q2⟩ := S_51 (d := d + 20) hI h.view g1 g2 hp hq
  have h1 := h.q q2
  obtain ⟨sh, hv⟩ := h1.2.2.view h1.1
  obtain ⟨m2, r1, r2⟩ := S_162 (d := d + 19) hI hv (thI_okL (stL_ok h.1)) h1.2.2.1.2.2.2 g1 g2 hp hq
  exact ⟨S, m1, m2, _, q1, r1, h1.b r2⟩
theorem G_2 (h : Rel S m) : Both d 52 150 [.int x, .int y, .int z] m := by
  obtain ⟨p, hp, rfl⟩ := in32 x
  obtain ⟨q, hq, rfl⟩ := in32 y
  obtain ⟨r, hr, rfl⟩ := in32 z
  obtain ⟨hI, g1, g2, g3⟩ := h.1.1
  obtain ⟨m1, q1, q2⟩ := S_52 (d := d + 22) hI h.view hp hq hr
  have h1 := h.q q2
  obtain ⟨sh, hv⟩ := h1.2.2.view h1.1
  obtain ⟨m2, r1, r2⟩ := S_150 (d := d + 21) hI hv hp hq hr
  exact ⟨S, m1, m2, _, q1, r1, h1.b (BK.of r2)⟩
theorem G_10 (h : Rel S m) : Both d 60 163 [.int x] m := by
  obtain ⟨p, hp, rfl⟩ := in32 x
  obtain ⟨hI, g1, g2, g3⟩ := h.1.1
  obtain ⟨sh, hv⟩ := h.2.2.view h.1
  exact ⟨S, m, m, _, S_60 (d := d + 23) hI h.view hp, S_163 (d := d + 23) hI hv hp, h⟩
theorem G_12 (h : Rel S m) : Both d 62 164 [.int x, .int y] m := by
  obtain ⟨p, hp, rfl⟩ := in32 x
  obtain ⟨q, hq, rfl⟩ := in32 y
  obtain ⟨hI, g1, g2, g3⟩ := h.1.1
  obtain ⟨m1, q1, q2⟩ := S_62 (d := d + 20) hI h.view g1 g2 hp hq
  have h1 := h.q q2
  obtain ⟨sh, hv⟩ := h1.2.2.view h1.1
  obtain ⟨m2, r1, r2⟩ := S_164 (d := d + 19) hI hv (thI_okL (stL_ok h.1)) h1.2.2.1.2.2.2 g1 g2 hp hq
  exact ⟨S, m1, m2, _, q1, r1, h1.b r2⟩
theorem G_13 (h : Rel S m) : Both d 63 166 [.int x, .int y, .int z, .int w] m := by
  obtain ⟨p, hp, rfl⟩ := in32 x
  obtain ⟨q, hq, rfl⟩ := in32 y
  obtain ⟨r, hr, rfl⟩ := in32 z
  obtain ⟨s, hs, rfl⟩ := in32 w
  obtain ⟨hI, g1, g2, g3⟩ := h.1.1
  obtain ⟨m1, q1, q2⟩ := S_63 (d := d + 21) hI h.view hp hq hr hs
  have h1 := h.q (scK_of q2 fun k hk => by unfold miK at hk; omega)
  obtain ⟨sh, hv⟩ := h1.2.2.view h1.1
  obtain ⟨m2, r1, r2⟩ := S_166 (d := d + 21) hI hv (thI_okL (stL_ok h.1)) hp hq hr hs
  exact ⟨S, m1, m2, _, q1, r1, h1.b (BK.of2 r2 fun k hk => by unfold mnK at hk; omega)⟩
theorem G_14 (h : Rel S m) : Both d 64 169 [.int x] m := by
  obtain ⟨p, hp, rfl⟩ := in32 x
  obtain ⟨hI, g1, g2, g3⟩ := h.1.1
  obtain ⟨m1, q1, q2⟩ := S_64 (d := d + 22) h.2.1.1 hI hp.1 hp.2
  have h1 := h.q (scK_of q2 fun k hk => by unfold ndK at hk; omega)
  obtain ⟨sh, hv⟩ := h1.2.2.view h1.1
  obtain ⟨m2, r1, r2⟩ := S_169 (d := d + 23) hv.1 hI hp.1 hp.2
  exact ⟨S, m1, m2, _, q1, r1, h1.b (BK.of2 r2 fun k hk => by unfold tuK at hk; omega)⟩
theorem G_16 (h : Rel S m) : Both d 66 172 [] m := by
  obtain ⟨hI, g1, g2, g3⟩ := h.1.1
  obtain ⟨m1, q1, q2⟩ := S_66 (d := d + 19) hI h.view
  have h1 := h.q q2
  obtain ⟨sh, hv⟩ := h1.2.2.view h1.1
  obtain ⟨m2, r1, r2⟩ := S_172 (d := d + 18) hI hv h1.2.2.1.2.1 (thI_okL (stL_ok h.1))
  exact ⟨S, m1, m2, _, q1, r1, h1.b (BK.of r2)⟩
theorem G_17 (h : Rel S m) : Both d 67 175 [.int x, .int y, .int z] m := by
  obtain ⟨p, hp, rfl⟩ := in32 x
  obtain ⟨q, hq, rfl⟩ := in32 y
  obtain ⟨r, hr, rfl⟩ := in32 z
  obtain ⟨hI, g1, g2, g3⟩ := h.1.1
  obtain ⟨m1, q1, q2⟩ := S_67 (d := d + 18) hI h.view hp hq hr
  have h1 := h.q q2
  obtain ⟨sh, hv⟩ := h1.2.2.view h1.1
  obtain ⟨m2, r1, r2⟩ := S_175 (d := d + 17) hI hv h1.2.2.1.2.1 (thI_okL (stL_ok h.1)) hp hq hr
  exact ⟨S, m1, m2, _, q1, r1, h1.b (BK.of r2)⟩
theorem G_18 (h : Rel S m) : BothL d 68 178 [.int x, .int y, .int z] m := by
  obtain ⟨p, hp, rfl⟩ := in32 x
  obtain ⟨q, hq, rfl⟩ := in32 y
  obtain ⟨r, hr, rfl⟩ := in32 z
  obtain ⟨hI, g1, g2, g3⟩ := h.1.1
  obtain ⟨m1, q1, q2⟩ := S_68 (d := d + 18) hI h.view hp hq hr
  have h1 := h.q q2
  obtain ⟨sh, hv⟩ := h1.2.2.view h1.1
  obtain ⟨m2, r1, r2⟩ := S_178 (d := d + 17) hI hv (thI_okL (stL_ok h.1)) hp hq hr
  exact ⟨S, m1, m2, _, q1, r1, h1.b (BK.of r2)⟩
theorem G_19 (h : Rel S m) : BothL d 69 179 [.int x, .int y] m := by
  obtain ⟨p, hp, rfl⟩ := in32 x
  obtain ⟨q, hq, rfl⟩ := in32 y
  obtain ⟨hI, g1, g2, g3⟩ := h.1.1
  obtain ⟨m1, q1, q2⟩ := S_69 (d := d + 18) hI h.view hp hq
  have h1 := h.q q2
  obtain ⟨sh, hv⟩ := h1.2.2.view h1.1
  obtain ⟨m2, r1, r2⟩ := S_179 (d := d + 17) hI hv (thI_okL (stL_ok h.1)) hp hq
  exact ⟨S, m1, m2, _, q1, r1, h1.b (BK.of r2)⟩
theorem G_21 (h : Rel S m) : Both d 71 182 [.int x] m := by
  obtain ⟨p, hp, rfl⟩ := in32 x
  obtain ⟨hI, g1, g2, g3⟩ := h.1.1
  obtain ⟨m1, q1, q2⟩ := S_71 (d := d + 20) hI h.view g1 g2 hp
  have h1 := h.q (scK_of q2 fun k hk => by unfold sK at hk; omega)
  obtain ⟨sh, hv⟩ := h1.2.2.view h1.1
  obtain ⟨m2, r1, r2⟩ := S_182 (d := d + 21) hI hv h1.2.2.1.2.1 h1.2.2.1.2.2.2 g1 g2 hp
  exact ⟨S, m1, m2, _, q1, r1, h1.b r2⟩
theorem G_23 (h : Rel S m) : Both d 73 184 [] m := by
  obtain ⟨hI, g1, g2, g3⟩ := h.1.1
  obtain ⟨⟨⟨sh, hs⟩, hw, -⟩, -⟩ := h.2.2
  exact ⟨S, m, m, _, S_73 (d := d + 25) hI h.2.1.1, S_184 (d := d + 25) hI hs hw, h⟩
theorem G_24 (h : Rel S m) : Both d 74 185 [.int x, .int y] m := by
  obtain ⟨p, hp, rfl⟩ := in32 x
  obtain ⟨q, hq, rfl⟩ := in32 y
  obtain ⟨⟨⟨sh, hs⟩, hw, -⟩, -, -, -, -, ht⟩ := h.2.2
  exact ⟨S, m, m, _, S_74 (d := d + 23) h.2.1.1 h.2.1.2.2.2.2.2.2 h.1.2.2.2.2.1 hp hq, S_185 (d := d + 23) hs ht h.1.2.2.2.2.1 hp hq, h⟩
theorem G_28 (h : Rel S m) : Both d 78 197 [.int x] m := by
  obtain ⟨p, hp, rfl⟩ := in32 x
  exact ⟨S, m, m, _, S_78 (d := d + 25) h.2.1.2.2.2.2.2.1 hp, S_197 (d := d + 24) h.2.2.2.2.2.2.1 hp, h⟩
theorem G_29 (h : Rel S m) : Both d 79 198 [.int x, .int y] m := by
  obtain ⟨p, hp, rfl⟩ := in32 x
  obtain ⟨q, hq, rfl⟩ := in32 y
  obtain ⟨⟨⟨sh, hs⟩, -⟩, -⟩ := h.2.2
  exact ⟨S, m, m, _, S_79 (d := d + 23) h.1.1.1 h.2.1.1 h.2.1.2.2.2.2.1.2.2 hp hq, S_198 (d := d + 23) h.1.1.1 hs hp hq, h⟩
theorem G_30 (h : Rel S m) : Both d 80 199 [.int x] m := by
  obtain ⟨p, hp, rfl⟩ := in32 x
  obtain ⟨⟨⟨sh, hs⟩, hw, -⟩, ⟨h14, -⟩, -, ⟨ht, -⟩, hl, -⟩ := h.2.2
  exact ⟨S, m, m, _, S_80 (d := d + 25) h.2.1.1 h.2.1.2.1.1 h.2.1.2.2.2.1.1 h.2.1.2.2.2.2.2.1 hp, S_199 (d := d + 25) hs hw h14 ht.1 hl hp, h⟩
theorem G_33 (h : Rel S m) : BothL d 83 204 [.int x, .int y] m := by
  obtain ⟨p, hp, rfl⟩ := in32 x
  obtain ⟨q, hq, rfl⟩ := in32 y
  obtain ⟨-, -, -, -, -, ht⟩ := h.2.2
  exact ⟨S, m, m, _, S_83 (d := d + 23) h.2.1.2.2.2.2.2.2 h.1.2.2.2.2.1 hp hq, S_204 (d := d + 23) ht h.1.2.2.2.2.1 hp hq, h⟩
end
