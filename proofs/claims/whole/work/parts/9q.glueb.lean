/-! Class and reference, asked one behind the other: what changes the shop -/
def fK : Nat → Prop := fun k => (178 ≤ k ∧ k ≤ 187) ∨ (203 ≤ k ∧ k ≤ 209)
def fI : Nat → Prop := fun i => i ≤ 3 ∨ (41 ≤ i ∧ i ≤ 46)
theorem Rel.setC {S : St} {m m1 : SM} {A' : Shp} (h : Rel S m) (hg : good S.n A') (hR : ShR 1 A' m1) (hF : Fr (sK 1) m m1) : RelP (S.wA A') ∧ RelC (S.wA A') m1 ∧ RelN S m1 := by
  obtain ⟨hP, ⟨a, b, c, d, e, f, g⟩, hN⟩ := h
  have k0 : ∀ k, (k = 0 ∨ 42 ≤ k) → m1.1 k = m.1 k := fun k hk => hF.1 k (by unfold sK; omega)
  have hh := hF.hi (fun k hk => by unfold sK at hk; omega)
  refine ⟨⟨hg, hP.2⟩, ⟨hR, ⟨by rw [k0 0 (by omega)]; exact b.1, ?_⟩, ⟨by rw [k0 0 (by omega)]; exact c.1, fun hf => (c.2 hf).keep (hP.2.2.1.2 hf).1.1.1.2 fun k g0 g1 => k0 k (by omega)⟩, d.keep (by rw [k0 129 (by omega)]) (k0 130 (by omega)), cons.keep e fun k hk => k0 k (by omega), f.keep (k0 132 (by omega)) (k0 133 (by omega)), g.keep (fun k g0 g1 => k0 k (by omega)) (fun k g0 g1 => by rw [hF.2])⟩, hN.cls hP hh.1 hh.2⟩
  exact TheA.keep (S := S) b.2 hP.2.1.2 fun k g0 g1 g2 => k0 k (by omega)
theorem Rel.setN {S : St} {m1 m2 : SM} {A' : Shp} (hP : RelP (S.wA A')) (hC : RelC (S.wA A') m1) (hN : RelN S m1) {K KI : Nat → Prop} (hF : FrR K KI m1 m2) (hK : ∀ k, K k → fK k) (hKI : ∀ i, KI i → fI i) (hs : ∃ sh, ShN sh A' m2) (hw : RwN A' m2) (h3 : A'.1 0 3 = S.A.1 0 3) : Rel (S.wA A') m2 := by
  have hl := hF.lo (fun k hk => by have := hK k hk; unfold fK at this; omega)
  refine ⟨hP, hC.ref hP hl.1 hl.2, ?_⟩
  obtain ⟨⟨-, -, c, d⟩, ⟨e, f⟩, g, ⟨i, j⟩, k, l⟩ := hN
  have k0 : ∀ k, (k < 177 ∨ (188 ≤ k ∧ k ≤ 202) ∨ 210 ≤ k) → m2.1 k = m1.1 k := fun k hk => hF.1 k (fun z => by have := hK k z; unfold fK at this; omega) (by omega)
  have i0 : ∀ i, ¬ fI i → m2.1 177 i = m1.1 177 i := fun i hi => hF.2.1 i fun z => hi (hKI i z)
  exact ⟨⟨hs, hw, by rw [i0 15 (by unfold fI; omega), c]; show J (S.A.1 0 3) = J (A'.1 0 3); rw [h3], by rw [i0 32 (by unfold fI; omega)]; exact d⟩, ⟨by rw [i0 14 (by unfold fI; omega)]; exact e, fun t g0 g1 => (f t g0 g1).fr (fun k z0 z1 => k0 k (by omega)) g0⟩, ImN.keep (S := S) g hP.2.2.1.2 (fun i z0 z1 => i0 i (by unfold fI; omega)) (fun k z0 z1 => k0 k (by omega)), ⟨i.keep (i0 16 (by unfold fI; omega)) (k0 188 (by omega)), fun i g0 g1 => by rw [k0 196 (by omega)]; exact j i g0 g1⟩, k.keep (i0 77 (by unfold fI; omega)) (k0 227 (by omega)), l.keep (k0 228 (by omega)) (k0 229 (by omega)) (by rw [hF.2.2])⟩
theorem ShN.rows {sh : Int} {A A' : Shp} {m : SM} (h : ShN sh A m) (h1 : A'.1 = A.1) (h2 : A'.2.1 = A.2.1) : ShN sh A' m := by
  unfold ShN at h ⊢
  rw [h1, h2]
  exact h
theorem st_fr {m m' : SM} (h : FrR stK stI m m') : FrR fK fI m m' := h.mono (fun k hk => by unfold stK at hk; unfold fK; omega) (fun i hi => by unfold stI at hi; unfold fI; omega)
theorem rw_st {A A' : Shp} {m m' : SM} (hW : RwN A m) (h : FrR stK stI m m') (hE : A.2.2 = A'.2.2) : RwN A' m' := hW.fr h (fun k g0 g1 hk => by unfold stK at hk; omega) (fun i g0 g1 hi => by unfold stI at hi; omega) hE
theorem headS_k (A : Shp) (k v e : Int) : A.2.2 = (headS A k v e).2.2 ∧ (headS A k v e).1 0 3 = A.1 0 3 := by
  unfold headS
  (repeat' split) <;> first | exact ⟨rfl, rfl⟩ | exact ⟨rfl, by simp [upS, upHd, upH]⟩
theorem setS_k (A : Shp) (k v e : Int) : A.2.2 = (setS A k v e).2.2 ∧ (setS A k v e).1 0 3 = A.1 0 3 := by
  unfold setS
  (repeat' split) <;> exact ⟨rfl, rfl⟩
theorem drwS_k (A : Shp) (k v e : Int) : A.2.2 = (drwS A k v e).2.2 ∧ (drwS A k v e).1 0 3 = A.1 0 3 := by
  unfold drwS
  (repeat' split) <;> first | exact ⟨rfl, rfl⟩ | exact ⟨rfl, by simp [upD, upH]⟩
theorem knoS_k (A : Shp) (p c r t : Int) : A.2.2 = (knoS A p c r t).2.2 ∧ (knoS A p c r t).1 0 3 = A.1 0 3 := by
  unfold knoS
  (repeat' split) <;> first | exact ⟨rfl, rfl⟩ | exact ⟨rfl, by simp [upD, upHd, upH]⟩
theorem sheS_k (A : Shp) (p b : Int) : A.2.2 = (sheS A p b).2.2 ∧ (sheS A p b).1 0 3 = A.1 0 3 := by
  unfold sheS
  (repeat' split) <;> exact ⟨rfl, rfl⟩
theorem rowS_k (A : Shp) (k v e : Int) : A.2.2 = (rowS A k v e).2.2 ∧ (rowS A k v e).1 0 3 = A.1 0 3 := by
  unfold rowS
  (repeat' split) <;> exact ⟨rfl, rfl⟩
theorem seeS_k (A : Shp) (k v e : Int) : (seeS A k v e).1 = A.1 ∧ (seeS A k v e).2.1 = A.2.1 := by
  unfold seeS
  (repeat' split) <;> exact ⟨rfl, rfl⟩
theorem planS_k (A : Shp) (k v : Int) : (planS A k v).1 = A.1 ∧ (planS A k v).2.1 = A.2.1 := by
  unfold planS
  (repeat' split) <;> exact ⟨rfl, rfl⟩
theorem bookS_k (A : Shp) (k v : Int) : (bookS A k v).1 = A.1 ∧ (bookS A k v).2.1 = A.2.1 := by
  unfold bookS
  (repeat' split) <;> exact ⟨rfl, rfl⟩
section
variable {S : St} {m : SM} {d : Nat} {x y z w : Int32}
theorem G_0 (h : Rel S m) : Both d 50 120 [.int x, .int y, .int z] m := by
  obtain ⟨p, hp, rfl⟩ := in32 x
  obtain ⟨q, hq, rfl⟩ := in32 y
  obtain ⟨r, hr, rfl⟩ := in32 z
  obtain ⟨m1, q1, q2, q3⟩ := S_50 (d := d + 22) h.1.1.1 h.2.1.1 hp hq hr
  obtain ⟨hP, hC, hN⟩ := h.setC (headS_g h.1.1) q2 q3
  obtain ⟨⟨⟨sh, hs⟩, hw, -⟩, -⟩ := id hN
  obtain ⟨m2, sh', r1, r2, r3⟩ := S_120 (d := d + 23) h.1.1.1 hs hp hq hr
  exact ⟨_, m1, m2, _, q1, r1, Rel.setN hP hC hN (st_fr r3) (fun _ z => z) (fun _ z => z) ⟨sh', r2⟩ (rw_st hw r3 (headS_k _ _ _ _).1) (headS_k _ _ _ _).2⟩
theorem G_3 (h : Rel S m) : Both d 53 121 [.int x, .int y, .int z] m := by
  obtain ⟨p, hp, rfl⟩ := in32 x
  obtain ⟨q, hq, rfl⟩ := in32 y
  obtain ⟨r, hr, rfl⟩ := in32 z
  obtain ⟨m1, q1, q2, q3⟩ := S_53 (d := d + 23) h.1.1.1 h.2.1.1 hp hq hr
  obtain ⟨hP, hC, hN⟩ := h.setC (setS_g h.1.1) q2 q3
  obtain ⟨⟨⟨sh, hs⟩, hw, -⟩, -⟩ := id hN
  obtain ⟨m2, r1, r2, r3⟩ := S_121 (d := d + 23) h.1.1.1 hs hp hq hr
  exact ⟨_, m1, m2, _, q1, r1, Rel.setN hP hC hN (st_fr r3) (fun _ z => z) (fun _ z => z) ⟨sh, r2⟩ (rw_st hw r3 (setS_k _ _ _ _).1) (setS_k _ _ _ _).2⟩
theorem G_4 (h : Rel S m) : Both d 54 122 [.int x, .int y, .int z] m := by
  obtain ⟨p, hp, rfl⟩ := in32 x
  obtain ⟨q, hq, rfl⟩ := in32 y
  obtain ⟨r, hr, rfl⟩ := in32 z
  obtain ⟨m1, q1, q2, q3⟩ := S_54 (d := d + 23) h.1.1.1 h.2.1.1 hp hq hr
  obtain ⟨hP, hC, hN⟩ := h.setC (drwS_g h.1.1) q2 q3
  obtain ⟨⟨⟨sh, hs⟩, hw, -⟩, -⟩ := id hN
  obtain ⟨m2, r1, r2, r3⟩ := S_122 (d := d + 23) h.1.1.1 hs hp hq hr
  exact ⟨_, m1, m2, _, q1, r1, Rel.setN hP hC hN (st_fr r3) (fun _ z => z) (fun _ z => z) ⟨sh, r2⟩ (rw_st hw r3 (drwS_k _ _ _ _).1) (drwS_k _ _ _ _).2⟩
theorem G_5 (h : Rel S m) : Both d 55 123 [.int x, .int y, .int z, .int w] m := by
  obtain ⟨p, hp, rfl⟩ := in32 x
  obtain ⟨q, hq, rfl⟩ := in32 y
  obtain ⟨r, hr, rfl⟩ := in32 z
  obtain ⟨s, hs2, rfl⟩ := in32 w
  obtain ⟨m1, q1, q2, q3⟩ := S_55 (d := d + 23) h.1.1.1 h.2.1.1 hp hq hr hs2
  obtain ⟨hP, hC, hN⟩ := h.setC (knoS_g h.1.1) q2 q3
  obtain ⟨⟨⟨sh, hs⟩, hw, -⟩, -⟩ := id hN
  obtain ⟨m2, r1, r2, r3⟩ := S_123 (d := d + 23) h.1.1.1 hs hp hq hr hs2
  exact ⟨_, m1, m2, _, q1, r1, Rel.setN hP hC hN (st_fr r3) (fun _ z => z) (fun _ z => z) ⟨sh, r2⟩ (rw_st hw r3 (knoS_k _ _ _ _ _).1) (knoS_k _ _ _ _ _).2⟩
theorem G_6 (h : Rel S m) {b : Int} (hb : b = 0 ∨ b = 1) : Both d 56 125 [.int x, .int (J b)] m := by
  obtain ⟨p, hp, rfl⟩ := in32 x
  obtain ⟨m1, q1, q2, q3⟩ := S_56 (d := d + 23) h.1.1.1 h.2.1.1 hp hb
  obtain ⟨hP, hC, hN⟩ := h.setC (sheS_g h.1.1 hb) q2 q3
  obtain ⟨⟨⟨sh, hs⟩, hw, -⟩, -⟩ := id hN
  obtain ⟨m2, sh', r1, r2, r3⟩ := S_125 (d := d + 23) h.1.1.1 hs hp hb
  exact ⟨_, m1, m2, _, q1, r1, Rel.setN hP hC hN (st_fr r3) (fun _ z => z) (fun _ z => z) ⟨sh', r2⟩ (rw_st hw r3 (sheS_k _ _ _).1) (sheS_k _ _ _).2⟩
theorem G_7 (h : Rel S m) : Both d 57 126 [.int x, .int y, .int z] m := by
  obtain ⟨p, hp, rfl⟩ := in32 x
  obtain ⟨q, hq, rfl⟩ := in32 y
  obtain ⟨r, hr, rfl⟩ := in32 z
  obtain ⟨m1, q1, q2, q3⟩ := S_57 (d := d + 23) h.1.1.1 h.2.1.1 hp hq hr
  obtain ⟨hP, hC, hN⟩ := h.setC (rowS_g h.1.1) q2 q3
  obtain ⟨⟨⟨sh, hs⟩, hw, -⟩, -⟩ := id hN
  obtain ⟨m2, r1, r2, r3⟩ := S_126 (d := d + 23) h.1.1.1 hs hp hq hr
  exact ⟨_, m1, m2, _, q1, r1, Rel.setN hP hC hN (st_fr r3) (fun _ z => z) (fun _ z => z) ⟨sh, r2⟩ (rw_st hw r3 (rowS_k _ _ _ _).1) (rowS_k _ _ _ _).2⟩
theorem G_11 (h : Rel S m) : Both d 61 157 [.int x] m := by
  obtain ⟨p, hp, rfl⟩ := in32 x
  obtain ⟨hI, g1, g2, g3⟩ := h.1.1
  obtain ⟨m1, q1, q2, q3⟩ := S_61 (d := d + 21) hI h.view g1 g2 hp
  obtain ⟨hP, hC, hN⟩ := h.setC (passS_g h.1.1) q2.1 q3
  obtain ⟨sh, hv⟩ := hN.view h.1
  obtain ⟨m2, r1, r2, r3⟩ := S_157 (d := d + 21) hI hv hN.1.2.2.2 g1 g2 hp
  have hE : S.A.2.2 = (passS S.A (rainL 0 (stL S)) p).2.2 := by
    unfold passS
    split
    · split
      · exact (nightsSh_c (rainL 0 (stL S)) 9999 p.toNat S.A hI (by omega) (by omega) (by omega)).2.2.2.symm
      · rfl
    · rfl
  exact ⟨_, m1, m2, _, q1, r1, Rel.setN hP hC hN r3 (fun k hk => by unfold tiK at hk; unfold fK; omega) (fun i hi => by unfold tiI at hi; unfold fI; omega) ⟨sh, r2.1⟩ (hN.1.2.1.fr r3 (fun k g0 g1 hk => by unfold tiK at hk; omega) (fun i g0 g1 hi => by unfold tiI at hi; omega) hE) (pass_I hI g1 g2 _ _).2.2.2⟩
theorem G_15 (h : Rel S m) : Both d 65 170 [.int x, .int y, .int z] m := by
  obtain ⟨p, hp, rfl⟩ := in32 x
  obtain ⟨q, hq, rfl⟩ := in32 y
  obtain ⟨r, hr, rfl⟩ := in32 z
  obtain ⟨m1, q1, q2, q3⟩ := S_65 (d := d + 23) h.1.1.1 h.view hp hq hr
  obtain ⟨hP, hC, hN⟩ := h.setC (seeS_g h.1.1) q2.1 (q3.mono fun k hk => by unfold hK at hk; unfold sK; omega)
  obtain ⟨sh, hv⟩ := hN.view h.1
  obtain ⟨m2, r1, r2, r3, r4⟩ := S_170 (d := d + 23) h.1.1.1 hv hN.1.2.1 hp hq hr
  obtain ⟨k1, k2⟩ := seeS_k S.A p q r
  exact ⟨_, m1, m2, _, q1, r1, Rel.setN hP hC hN r4 (fun k hk => by unfold seK at hk; unfold fK; omega) (fun i hi => by unfold seI at hi; unfold fI; omega) ⟨sh, r2.1.rows k1 k2⟩ r3 (by rw [k1])⟩
theorem G_20 (h : Rel S m) : Both d 70 180 [.int x, .int y] m := by
  obtain ⟨p, hp, rfl⟩ := in32 x
  obtain ⟨q, hq, rfl⟩ := in32 y
  obtain ⟨m1, q1, q2, q3⟩ := S_70 (d := d + 23) h.1.1.1 h.2.1.1 hp hq
  obtain ⟨hP, hC, hN⟩ := h.setC (planS_g h.1.1 hq) q2 (q3.mono fun k hk => by unfold hK at hk; unfold sK; omega)
  obtain ⟨⟨⟨sh, hs⟩, hw, -⟩, -⟩ := id hN
  obtain ⟨m2, r1, r2, r3⟩ := S_180 (d := d + 23) h.1.1.1 hs hw hp hq
  obtain ⟨k1, k2⟩ := planS_k S.A p q
  exact ⟨_, m1, m2, _, q1, r1, Rel.setN hP hC hN r3 (fun k hk => by unfold plK at hk; unfold fK; omega) (fun i hi => by unfold plI at hi; unfold fI; omega) ⟨sh, ShN.rows (hs.fr r3 (fun k g1 hk => by unfold plK at hk; omega) (fun i g1 hi => by unfold plI at hi; omega)) k1 k2⟩ r2 (by rw [k1])⟩
theorem G_22 (h : Rel S m) : Both d 72 183 [.int x, .int y] m := by
  obtain ⟨p, hp, rfl⟩ := in32 x
  obtain ⟨q, hq, rfl⟩ := in32 y
  obtain ⟨m1, q1, q2, q3⟩ := S_72 (d := d + 23) h.1.1.1 h.2.1.1 hp hq
  obtain ⟨hP, hC, hN⟩ := h.setC (bookS_g h.1.1) q2 (q3.mono fun k hk => by unfold hK at hk; unfold sK; omega)
  obtain ⟨⟨⟨sh, hs⟩, hw, -⟩, -⟩ := id hN
  obtain ⟨m2, r1, r2, r3⟩ := S_183 (d := d + 23) h.1.1.1 hw hp hq
  obtain ⟨k1, k2⟩ := bookS_k S.A p q
  exact ⟨_, m1, m2, _, q1, r1, Rel.setN hP hC hN r3 (fun k hk => by unfold plK at hk; unfold fK; omega) (fun i hi => by unfold plI at hi; unfold fI; omega) ⟨sh, ShN.rows (hs.fr r3 (fun k g1 hk => by unfold plK at hk; omega) (fun i g1 hi => by unfold plI at hi; omega)) k1 k2⟩ r2 (by rw [k1])⟩
end
