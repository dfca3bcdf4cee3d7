/-! Class and reference, asked one behind the other: image, undo, acts, tapes, texts -/
abbrev St.wB (S : St) (B : Shp) : St := (S.1, B, S.2.2.1, 1, S.2.2.2.2)
abbrev St.wl (S : St) (l : List Int) : St := (S.1, S.2.1, S.2.2.1, S.2.2.2.1, S.2.2.2.2.1, S.2.2.2.2.2.1, S.2.2.2.2.2.2.1, l, S.2.2.2.2.2.2.2.2)
abbrev St.wP (S : St) (P : Tp) : St := (S.1, S.2.1, S.2.2.1, S.2.2.2.1, S.2.2.2.2.1, S.2.2.2.2.2.1, S.2.2.2.2.2.2.1, S.2.2.2.2.2.2.2.1, P)
abbrev St.wT (S : St) (tx : Int → Int) (N : Int) : St := (S.1, S.2.1, S.2.2.1, S.2.2.2.1, N, S.2.2.2.2.2.1, tx, S.2.2.2.2.2.2.2)
abbrev St.wL (S : St) (A : Shp) (n : Int) (Ls : Int → Cla) : St := (A, S.2.1, n, S.2.2.2.1, 0, Ls, S.2.2.2.2.2.2)
section
variable {S : St} {m : SM} {d : Nat} {x y z w u : Int32}
theorem G_25 (h : Rel S m) : Both d 75 186 [] m := by
  obtain ⟨hI, g1, g2, g3⟩ := h.1.1
  obtain ⟨hP, ⟨a, b, c, e, f, g, i⟩, hN⟩ := id h
  obtain ⟨m1, q1, q2, q3, q4, q5⟩ := S_75 (d := d + 23) hI h.2.1.1
  have k0 : ∀ k, ¬ (42 ≤ k ∧ k ≤ 82) → k ≠ 0 → m1.1 k = m.1 k := fun k h1 h2 => q5.1 k (by unfold sK; omega)
  have hh := q5.hi (fun k hk => by unfold sK at hk; omega)
  have hC1 : RelC (S.wB S.A) m1 := ⟨a.keep hI.1.1.2 fun k g0 g1 => k0 k (by omega) (by omega), ⟨by rw [q4 6 (by omega)]; exact b.1, TheA.keep (S := S) b.2 hP.2.1.2 fun k g0 g1 g2 => k0 k (by omega) (by omega)⟩, ⟨q3, fun _ => q2⟩, e.keep (by rw [k0 129 (by omega) (by omega)]) (k0 130 (by omega) (by omega)), cons.keep f fun k hk => k0 k (by omega) (by omega), g.keep (k0 132 (by omega) (by omega)) (k0 133 (by omega) (by omega)), i.keep (fun k g0 g1 => k0 k (by omega) (by omega)) (fun k g0 g1 => by rw [q5.2])⟩
  have hN1 := hN.cls hP hh.1 hh.2
  have hP1 : RelP (S.wB S.A) := ⟨hP.1, hP.2.1, ⟨Or.inr rfl, fun _ => hP.1⟩, hP.2.2.2⟩
  obtain ⟨m2, r1, r2, r3, r4⟩ := S_186 (m := m1) (d := d + 25)
  obtain ⟨⟨⟨sh, n1⟩, n2, n3, n4⟩, ⟨n5, n6⟩, -, ⟨n7, n8⟩, n9, n10⟩ := hN1
  have hl := r4.lo (fun k hk => by unfold imK at hk; omega)
  have j0 : ∀ k, ¬ (210 ≤ k ∧ k ≤ 226) → k ≠ 177 → m2.1 k = m1.1 k := fun k hk h7 => r4.1 k (by unfold imK; omega) h7
  have i0 : ∀ i, ¬ (51 ≤ i ∧ i ≤ 59) → m2.1 177 i = m1.1 177 i := fun i hi => r4.2.1 i (by unfold imI; omega)
  refine ⟨S.wB S.A, m1, m2, _, q1, by rw [← n1.1.1]; exact r1, hP1, hC1.ref hP1 hl.1 hl.2, ⟨⟨sh, n1.fr r4 (fun k hk => by unfold imK; omega) (fun i hi => by unfold imI; omega)⟩, n2.fr r4 (fun k z0 z1 => by unfold imK; omega) (fun i z0 z1 => by unfold imI; omega) rfl, by rw [i0 15 (by omega)]; exact n3, by rw [i0 32 (by omega)]; exact n4⟩, ⟨by rw [i0 14 (by omega)]; exact n5, fun t g0 g1 => (n6 t g0 g1).fr (fun k z0 z1 => j0 k (by omega) (by omega)) g0⟩, ⟨r3, fun _ => ⟨⟨sh, n1.same hI.1.1.2 r2⟩, n2.same hI r2, ?_⟩⟩, ⟨n7.keep (i0 16 (by omega)) (j0 188 (by omega) (by omega)), fun i g0 g1 => by rw [j0 196 (by omega) (by omega)]; exact n8 i g0 g1⟩, n9.keep (i0 77 (by omega)) (j0 227 (by omega) (by omega)), n10.keep (j0 228 (by omega) (by omega)) (j0 229 (by omega) (by omega)) (by rw [r4.2.2])⟩
  have h52 : m2.1 177 52 = m1.1 177 15 := r2.1.2.2.2.2.1
  rw [h52]
  exact n3
theorem G_26 (h : Rel S m) : Both d 76 187 [] m := by
  obtain ⟨hP, hC, hN⟩ := id h
  rcases hP.2.2.1.1 with hf | hf
  · have h1 : m.1 0 3 = J 0 := by rw [hC.2.2.1.1, hf]
    have h2 : m.1 177 51 = J 0 := by rw [hN.2.2.1.1, hf]
    exact ⟨S, m, m, _, S_76n (d := d + 23) h1, S_187n (d := d + 25) h2, h⟩
  · have h1 : m.1 0 3 = J 1 := by rw [hC.2.2.1.1, hf]
    have hg := hP.2.2.1.2 hf
    obtain ⟨m1, q1, q2, q3⟩ := S_76 (d := d + 23) h1 hg.1 (hC.2.2.1.2 hf)
    obtain ⟨hP1, hC1, hN1⟩ := h.setC hg q2 q3
    have h2 : m1.1 177 51 = J 1 := by rw [hN1.2.2.1.1, hf]
    obtain ⟨m2, r1, r2, r3⟩ := S_187 (d := d + 25) h2
    obtain ⟨⟨-, -, n3, n4⟩, ⟨n5, n6⟩, n0, ⟨n7, n8⟩, n9, n10⟩ := hN1
    obtain ⟨⟨sh, u1⟩, u2, u3⟩ := n0.2 hf
    have hl := r3.lo (fun k hk => by unfold unK at hk; omega)
    have j0 : ∀ k, ¬ ((178 ≤ k ∧ k ≤ 187) ∨ (203 ≤ k ∧ k ≤ 209)) → k ≠ 177 → m2.1 k = m1.1 k := fun k hk h7 => r3.1 k (by unfold unK; omega) h7
    have i0 : ∀ i, ¬ unI i → m2.1 177 i = m1.1 177 i := r3.2.1
    have h53 : m1.1 177 53 = J (S.B.1 0 0) := u1.1.1
    refine ⟨S.wA S.B, m1, m2, _, q1, by rw [← h53]; exact r1, hP1, hC1.ref hP1 hl.1 hl.2, ⟨⟨sh, u1.same hg.1.1.1.2 r2⟩, u2.same hg.1 r2, ?_, by rw [i0 32 (by unfold unI; omega)]; exact n4⟩, ⟨by rw [i0 14 (by unfold unI; omega)]; exact n5, fun t g0 g1 => (n6 t g0 g1).fr (fun k z0 z1 => j0 k (by omega) (by omega)) g0⟩, ImN.keep (S := S) n0 hP.2.2.1.2 (fun i z0 z1 => i0 i (by unfold unI; omega)) (fun k z0 z1 => j0 k (by omega) (by omega)), ⟨n7.keep (i0 16 (by unfold unI; omega)) (j0 188 (by omega) (by omega)), fun i g0 g1 => by rw [j0 196 (by omega) (by omega)]; exact n8 i g0 g1⟩, n9.keep (i0 77 (by unfold unI; omega)) (j0 227 (by omega) (by omega)), n10.keep (j0 228 (by omega) (by omega)) (j0 229 (by omega) (by omega)) (by rw [r3.2.2])⟩
    have h15 : m2.1 177 15 = m1.1 177 52 := r2.1.2.2.2.2.1
    rw [h15]
    exact u3
theorem G_27 (h : Rel S m) : Both d 77 196 [.int x, .int y, .int z] m := by
  obtain ⟨p, hp, rfl⟩ := in32 x
  obtain ⟨q, hq, rfl⟩ := in32 y
  obtain ⟨hP, ⟨a, b, c, e, f, g, i⟩, hN⟩ := id h
  obtain ⟨m1, q1, q2, q3⟩ := S_77 (d := d + 17) (x := z) hP.1.1 a f.2.1 hp hq
  have k0 : ∀ k, k ≠ 132 → k ≠ 133 → m1.1 k = m.1 k := fun k h1 h2 => q3.1 k (by unfold aK; omega)
  have hh := q3.hi (fun k hk => by unfold aK at hk; omega)
  have hP1 : RelP (S.wl (actL S.A p q)) := hP
  have hC1 : RelC (S.wl (actL S.A p q)) m1 := ⟨a.keep hP.1.1.1.1.2 fun k g0 g1 => k0 k (by omega) (by omega), ⟨by rw [k0 0 (by omega) (by omega)]; exact b.1, TheA.keep (S := S) b.2 hP.2.1.2 fun k g0 g1 g2 => k0 k (by omega) (by omega)⟩, ⟨by rw [k0 0 (by omega) (by omega)]; exact c.1, fun hf => (c.2 hf).keep (hP.2.2.1.2 hf).1.1.1.2 fun k g0 g1 => k0 k (by omega) (by omega)⟩, e.keep (by rw [k0 129 (by omega) (by omega)]) (k0 130 (by omega) (by omega)), cons.keep f fun k hk => k0 k (by omega) (by omega), q2, i.keep (fun k g0 g1 => k0 k (by omega) (by omega)) (fun k g0 g1 => by rw [q3.2])⟩
  have hN1 := hN.cls hP hh.1 hh.2
  obtain ⟨⟨⟨sh, n1⟩, n2, n3, n4⟩, ⟨n5, n6⟩, n0, ⟨n7, n8⟩, n9, n10⟩ := hN1
  obtain ⟨m2, r1, r2, r3⟩ := S_196 (d := d + 17) (x := z) hP.1.1 n1 hp hq
  have hl := r3.lo (fun k hk => by unfold bK at hk; omega)
  have j0 : ∀ k, k ≠ 227 → k ≠ 177 → m2.1 k = m1.1 k := fun k hk h7 => r3.1 k (by unfold bK; omega) h7
  have i0 : ∀ i, i ≠ 77 → m2.1 177 i = m1.1 177 i := fun i hi => r3.2.1 i (by unfold bI'; omega)
  exact ⟨_, m1, m2, _, q1, r1, hP1, hC1.ref hP1 hl.1 hl.2, ⟨⟨sh, n1.fr r3 (fun k hk => by unfold bK; omega) (fun i hi => by unfold bI'; omega)⟩, n2.fr r3 (fun k z0 z1 => by unfold bK; omega) (fun i z0 z1 => by unfold bI'; omega) rfl, by rw [i0 15 (by omega)]; exact n3, by rw [i0 32 (by omega)]; exact n4⟩, ⟨by rw [i0 14 (by omega)]; exact n5, fun t g0 g1 => (n6 t g0 g1).fr (fun k z0 z1 => j0 k (by omega) (by omega)) g0⟩, ImN.keep (S := S) n0 hP.2.2.1.2 (fun i z0 z1 => i0 i (by omega)) (fun k z0 z1 => j0 k (by omega) (by omega)), ⟨n7.keep (i0 16 (by omega)) (j0 188 (by omega) (by omega)), fun i g0 g1 => by rw [j0 196 (by omega) (by omega)]; exact n8 i g0 g1⟩, r2, n10.keep (j0 228 (by omega) (by omega)) (j0 229 (by omega) (by omega)) (by rw [r3.2.2])⟩
/-- tapes change on both sides -/
theorem Rel.tap {m1 m2 : SM} {P : Tp} (h : Rel S m) (hI : TapI P) (hC : TapC P m1) (hF : FrT m m1) (hN : RelN S m1 → TapN P m2) (hU : FrU m1 m2) : Rel (S.wP P) m2 := by
  obtain ⟨hP, ⟨a, b, c, e, f, g, i⟩, hN0⟩ := h
  have k0 : ∀ k, ¬ (165 ≤ k ∧ k ≤ 176) → m1.1 k = m.1 k := hF.1
  have hN1 : RelN S m1 := hN0.cls hP (fun k z0 z1 => k0 k (by omega)) (hF.2 230 (by omega))
  have hP1 : RelP (S.wP P) := ⟨hP.1, hP.2.1, hP.2.2.1, hP.2.2.2.1, hI, hP.2.2.2.2.2⟩
  have hC1 : RelC (S.wP P) m1 := ⟨a.keep hP.1.1.1.1.2 fun k g0 g1 => k0 k (by omega), ⟨by rw [k0 0 (by omega)]; exact b.1, TheA.keep (S := S) b.2 hP.2.1.2 fun k g0 g1 g2 => k0 k (by omega)⟩, ⟨by rw [k0 0 (by omega)]; exact c.1, fun hf => (c.2 hf).keep (hP.2.2.1.2 hf).1.1.1.2 fun k g0 g1 => k0 k (by omega)⟩, e.keep (by rw [k0 129 (by omega)]) (k0 130 (by omega)), cons.keep f fun k hk => k0 k (by omega), g.keep (k0 132 (by omega)) (k0 133 (by omega)), hC⟩
  have hT := hN hN1
  obtain ⟨⟨⟨sh, n1⟩, n2, n3, n4⟩, ⟨n5, n6⟩, n0, ⟨n7, n8⟩, n9, n10⟩ := hN1
  have j0 : ∀ k, k ≠ 228 → k ≠ 229 → m2.1 k = m1.1 k := hU.1
  have hR : FrR (fun k => k = 228 ∨ k = 229) noI m1 (m2.1, m1.2) := ⟨fun k hk _ => j0 k (by omega) (by omega), fun i _ => congrFun (j0 177 (by omega) (by omega)) i, rfl⟩
  have n1' : ShN sh S.A (m2.1, m1.2) := n1.fr hR (fun k hk z => by omega) (fun _ _ z => z)
  have n2' : RwN S.A (m2.1, m1.2) := n2.fr hR (fun k z0 z1 z => by omega) (fun _ _ _ z => z) rfl
  have e7 : m2.1 177 = m1.1 177 := j0 177 (by omega) (by omega)
  exact ⟨hP1, hC1.ref hP1 (fun k hk => j0 k (by omega) (by omega)) (fun k hk => hU.2 k (by omega) (by omega)), ⟨⟨sh, n1'⟩, n2', by rw [e7]; exact n3, by rw [e7]; exact n4⟩, ⟨by rw [e7]; exact n5, fun t g0 g1 => (n6 t g0 g1).fr (fun k z0 z1 => j0 k (by omega) (by omega)) g0⟩, ImN.keep (S := S) n0 hP.2.2.1.2 (fun i z0 z1 => by rw [e7]) (fun k z0 z1 => j0 k (by omega) (by omega)), ⟨n7.keep (by rw [e7]) (j0 188 (by omega) (by omega)), fun i g0 g1 => by rw [j0 196 (by omega) (by omega)]; exact n8 i g0 g1⟩, n9.keep (by rw [e7]) (j0 227 (by omega) (by omega)), hT⟩
theorem Rel.tn {m1 : SM} (h : Rel S m) (hF : FrT m m1) : TapN S.P m1 := by
  obtain ⟨hP, -, hN0⟩ := h
  exact (hN0.cls hP (fun k z0 z1 => hF.1 k (by omega)) (hF.2 230 (by omega))).2.2.2.2.2
theorem G_31 (h : Rel S m) : Both d 81 201 [.int x, .int y, .int z] m := by
  obtain ⟨p, hp, rfl⟩ := in32 x
  obtain ⟨q, hq, rfl⟩ := in32 y
  obtain ⟨r, hr, rfl⟩ := in32 z
  obtain ⟨m1, q1, q2, q3⟩ := S_81 (d := d + 23) h.2.1.2.2.2.2.2.2 hp hq hr
  obtain ⟨m2, r1, r2, r3⟩ := S_201 (d := d + 23) (h.tn q3) hp hq hr
  exact ⟨_, m1, m2, _, q1, r1, h.tap (tapeS_I h.1.2.2.2.2.1) q2 q3 (fun _ => r2) r3⟩
theorem G_32 (h : Rel S m) {v : Int64} : Both d 82 203 [.int x, .int y, .long v] m := by
  obtain ⟨p, hp, rfl⟩ := in32 x
  obtain ⟨q, hq, rfl⟩ := in32 y
  obtain ⟨m1, q1, q2, q3⟩ := S_82 (d := d + 23) (v := v) h.2.1.2.2.2.2.2.2 h.1.2.2.2.2.1 hp hq
  obtain ⟨m2, r1, r2, r3⟩ := S_203 (d := d + 23) (v := v) (h.tn q3) h.1.2.2.2.2.1 hp hq
  exact ⟨_, m1, m2, _, q1, r1, h.tap (itemS_I h.1.2.2.2.2.1) q2 q3 (fun _ => r2) r3⟩
theorem G_34 (h : Rel S m) : Both d 84 205 [.int x, .int y, .int z, .int w, .int u] m := by
  obtain ⟨p, hp, rfl⟩ := in32 x
  obtain ⟨q, hq, rfl⟩ := in32 y
  obtain ⟨r, hr, rfl⟩ := in32 z
  obtain ⟨s, hs, rfl⟩ := in32 w
  obtain ⟨t, ht, rfl⟩ := in32 u
  obtain ⟨m1, q1, q2, q3⟩ := S_84 (d := d + 23) h.2.1.2.2.2.2.2.2 h.1.2.2.2.2.1 hp hq hr hs ht
  obtain ⟨m2, r1, r2, r3⟩ := S_205 (d := d + 23) (h.tn q3) h.1.2.2.2.2.1 hp hq hr hs ht
  exact ⟨_, m1, m2, _, q1, r1, h.tap (shiftS_I h.1.2.2.2.2.1) q2 q3 (fun _ => r2) r3⟩
theorem G_8 (h : Rel S m) : Both d 58 127 [.int x] m := by
  obtain ⟨p, hp, rfl⟩ := in32 x
  obtain ⟨hP, ⟨a, b, c, e, f, g, i⟩, hN⟩ := id h
  have hN3 := hP.2.2.2.1
  obtain ⟨m1, q1, q2, q3⟩ := S_58 (d := d + 24) e hN3.2 hp
  have k0 : ∀ k, k ≠ 129 → k ≠ 130 → m1.1 k = m.1 k := fun k h1 h2 => q3.1 k (by omega)
  have hh := q3.hi (fun k hk => by omega)
  have hP1 : RelP (S.wT (feedT S.tx S.N p) (feedN S.N p)) := ⟨hP.1, hP.2.1, hP.2.2.1, ⟨feedT_chr hN3.1 _ _, feedN_in hN3.2⟩, hP.2.2.2.2⟩
  have hC1 : RelC (S.wT (feedT S.tx S.N p) (feedN S.N p)) m1 := ⟨a.keep hP.1.1.1.1.2 fun k g0 g1 => k0 k (by omega) (by omega), ⟨by rw [k0 0 (by omega) (by omega)]; exact b.1, TheA.keep (S := S) b.2 hP.2.1.2 fun k g0 g1 g2 => k0 k (by omega) (by omega)⟩, ⟨by rw [k0 0 (by omega) (by omega)]; exact c.1, fun hf => (c.2 hf).keep (hP.2.2.1.2 hf).1.1.1.2 fun k g0 g1 => k0 k (by omega) (by omega)⟩, q2, cons.keep f fun k hk => k0 k (by omega) (by omega), g.keep (k0 132 (by omega) (by omega)) (k0 133 (by omega) (by omega)), i.keep (fun k g0 g1 => k0 k (by omega) (by omega)) (fun k g0 g1 => by rw [q3.2])⟩
  have hN1 := hN.cls hP hh.1 hh.2
  obtain ⟨⟨⟨sh, n1⟩, n2, n3, n4⟩, ⟨n5, n6⟩, n0, ⟨n7, n8⟩, n9, n10⟩ := hN1
  obtain ⟨m2, r1, r2, r3⟩ := S_127 (d := d + 24) n7 hN3.2 hp
  have hl := r3.lo (fun k hk => by omega)
  have j0 : ∀ k, k ≠ 188 → k ≠ 177 → m2.1 k = m1.1 k := fun k hk h7 => r3.1 k hk h7
  have i0 : ∀ i, i ≠ 16 → m2.1 177 i = m1.1 177 i := fun i hi => r3.2.1 i hi
  exact ⟨_, m1, m2, _, q1, r1, hP1, hC1.ref hP1 hl.1 hl.2, ⟨⟨sh, n1.fr r3 (fun k hk => by omega) (fun i hi => by omega)⟩, n2.fr r3 (fun k z0 z1 => by omega) (fun i z0 z1 => by omega) rfl, by rw [i0 15 (by omega)]; exact n3, by rw [i0 32 (by omega)]; exact n4⟩, ⟨by rw [i0 14 (by omega)]; exact n5, fun t g0 g1 => (n6 t g0 g1).fr (fun k z0 z1 => j0 k (by omega) (by omega)) g0⟩, ImN.keep (S := S) n0 hP.2.2.1.2 (fun i z0 z1 => i0 i (by omega)) (fun k z0 z1 => j0 k (by omega) (by omega)), ⟨r2, fun i g0 g1 => by rw [j0 196 (by omega) (by omega)]; exact n8 i g0 g1⟩, n9.keep (i0 77 (by omega)) (j0 227 (by omega) (by omega)), n10.keep (j0 228 (by omega) (by omega)) (j0 229 (by omega) (by omega)) (by rw [r3.2.2])⟩
end
