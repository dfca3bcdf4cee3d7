/-! The law's loop: class and reference answer alike at every step. -/
def FinE (E : Em) (r : Rs Mem) : Prop := ∃ mf : SM, r = some (some (.int 1), emb E mf)
noncomputable def Wl (i : Int) (u : Mem) : Rs Mem := runF (OA Q0) (callF (OA Q0) prog heds 26) (prog 236) (heds 236) 18 [some (.ref 1000), some (.ref 0), some (.ref 177), some (.int (J i + 6))] u
theorem q_rf {α : Type} {x : Int32} {a b : α} : bT (Q0.1 0 x x) a b = a := bT_t (decide_eq_true rfl)
theorem q_rl {α : Type} {x : Int64} {a b : α} : bT (Q0.1 0 (Q0.2.2.1 x x) 0) a b = a := by
  refine bT_t (decide_eq_true ?_)
  show lg_cmp x x = 0
  unfold lg_cmp
  rw [if_neg (by rw [gt_iff_lt, Int64.lt_iff_toInt_lt]; omega), if_pos rfl]
theorem tw {E : Em} {c : Bool} {a b : Rs Mem} (h1 : FinE E a) (h2 : FinE E b) : FinE E (bT c a b) := by
  cases c
  · exact h2
  · exact h1
theorem bSx_e {M : Type} {r : Sh} {t n : Nat} (h : r = .inr (t, n)) (f : Nat → Rs M) : bS r f = f n := by rw [h]; rfl
section
variable {E : Em} {L : Nat} {X : Nat → Int32} {i : Int} {m : SM} {S : St}
theorem rd (h0 : E.2.2.1 1000 = .inr (10, L)) (hm : m.1 1000 = X) (hL : L ≤ 3072) {a : Int32} {z : Int} (ha : a = J z) (hz : 0 ≤ z ∧ z < (L : Int)) (f : Int32 → Rs Mem) : bT (okI Q0 (mH (emb E m) 1000) a) (bX (mI (emb E m) 1000 (Int32.toNatClampNeg a)) f) none = f (X (Int32.toNatClampNeg a)) := by
  subst ha
  subst hm
  show bT (okI Q0 (E.2.2.1 1000) (J z)) (f (m.1 1000 (Int32.toNatClampNeg (J z)))) none = _
  rw [h0]
  exact cT_J hz.1 hz.2 (by omega) _ _
theorem rd_0 (h0 : E.2.2.1 1000 = .inr (10, L)) (hm : m.1 1000 = X) (hL : L ≤ 3072) (hi : 0 ≤ i ∧ i + 5 < (L : Int)) {f : Int32 → Rs Mem} : bT (okI Q0 (mH (emb E m) 1000) (J i)) (bX (mI (emb E m) 1000 (Int32.toNatClampNeg (J i))) f) none = f (X (Int32.toNatClampNeg (J i))) := rd h0 hm hL rfl (by omega) f
theorem rd_1 (h0 : E.2.2.1 1000 = .inr (10, L)) (hm : m.1 1000 = X) (hL : L ≤ 3072) (hi : 0 ≤ i ∧ i + 5 < (L : Int)) {f : Int32 → Rs Mem} : bT (okI Q0 (mH (emb E m) 1000) (J i + 1)) (bX (mI (emb E m) 1000 (Int32.toNatClampNeg (J i + 1))) f) none = f (X (Int32.toNatClampNeg (J i + 1))) := rd h0 hm hL (z := i + 1) (J_add i 1) (by omega) f
theorem rd_2 (h0 : E.2.2.1 1000 = .inr (10, L)) (hm : m.1 1000 = X) (hL : L ≤ 3072) (hi : 0 ≤ i ∧ i + 5 < (L : Int)) {f : Int32 → Rs Mem} : bT (okI Q0 (mH (emb E m) 1000) (J i + 2)) (bX (mI (emb E m) 1000 (Int32.toNatClampNeg (J i + 2))) f) none = f (X (Int32.toNatClampNeg (J i + 2))) := rd h0 hm hL (z := i + 2) (J_add i 2) (by omega) f
theorem rd_3 (h0 : E.2.2.1 1000 = .inr (10, L)) (hm : m.1 1000 = X) (hL : L ≤ 3072) (hi : 0 ≤ i ∧ i + 5 < (L : Int)) {f : Int32 → Rs Mem} : bT (okI Q0 (mH (emb E m) 1000) (J i + 3)) (bX (mI (emb E m) 1000 (Int32.toNatClampNeg (J i + 3))) f) none = f (X (Int32.toNatClampNeg (J i + 3))) := rd h0 hm hL (z := i + 3) (J_add i 3) (by omega) f
theorem rd_4 (h0 : E.2.2.1 1000 = .inr (10, L)) (hm : m.1 1000 = X) (hL : L ≤ 3072) (hi : 0 ≤ i ∧ i + 5 < (L : Int)) {f : Int32 → Rs Mem} : bT (okI Q0 (mH (emb E m) 1000) (J i + 4)) (bX (mI (emb E m) 1000 (Int32.toNatClampNeg (J i + 4))) f) none = f (X (Int32.toNatClampNeg (J i + 4))) := rd h0 hm hL (z := i + 4) (J_add i 4) (by omega) f
theorem rd_5 (h0 : E.2.2.1 1000 = .inr (10, L)) (hm : m.1 1000 = X) (hL : L ≤ 3072) (hi : 0 ≤ i ∧ i + 5 < (L : Int)) {f : Int32 → Rs Mem} : bT (okI Q0 (mH (emb E m) 1000) (J i + 5)) (bX (mI (emb E m) 1000 (Int32.toNatClampNeg (J i + 5))) f) none = f (X (Int32.toNatClampNeg (J i + 5))) := rd h0 hm hL (z := i + 5) (J_add i 5) (by omega) f
theorem ca_e {k c a : Nat} {as : List Value} {m1 : SM} {x : Int32} (hO : okO (E.2.2.1 k) c = true) (hc : callF (OA Q0) prog heds 26 a as (emb E m) = some (some (.int x), emb E m1)) {f : Int32 → Mem → Rs Mem} : bT (okO (mH (emb E m) k) c) (bI (callF (OA Q0) prog heds 26 a as (emb E m)) f) none = f x (emb E m1) := by
  rw [hc]
  exact bT_t hO
theorem cl_e {k c a : Nat} {as : List Value} {m1 : SM} {x : Int64} (hO : okO (E.2.2.1 k) c = true) (hc : callF (OA Q0) prog heds 26 a as (emb E m) = some (some (.long x), emb E m1)) {f : Int64 → Mem → Rs Mem} : bT (okO (mH (emb E m) k) c) (bL (callF (OA Q0) prog heds 26 a as (emb E m)) f) none = f x (emb E m1) := by
  rw [hc]
  exact bT_t hO
theorem st_0 (hE : EmOK E) (h0 : E.2.2.1 1000 = .inr (10, L)) (hA : okO (E.2.2.1 0) 8 = true) (hB : okO (E.2.2.1 177) 9 = true) (hL : L ≤ 3072) (hi : 0 ≤ i ∧ i + 5 < (L : Int)) (hR : Rel S m) (hm : m.1 1000 = X) (hk : ∀ S' m', Rel S' m' → m'.1 1000 = X → FinE E (Wl i (emb E m'))) : FinE E (bT (okI Q0 (mH (emb E m) 1000) (J i + 1)) (bX (mI (emb E m) 1000 (Int32.toNatClampNeg (J i + 1))) fun z3 => bT (okI Q0 (mH (emb E m) 1000) (J i + 2)) (bX (mI (emb E m) 1000 (Int32.toNatClampNeg (J i + 2))) fun z4 => bT (okI Q0 (mH (emb E m) 1000) (J i + 3)) (bX (mI (emb E m) 1000 (Int32.toNatClampNeg (J i + 3))) fun z5 => bT (okO (mH (emb E m) 0) 8) (bI ((callF (OA Q0) prog heds 26) 50 [.ref 0, .int z3, .int z4, .int z5] (emb E m)) fun x7 m6 => bT (okI Q0 (mH m6 1000) (J i + 1)) (bX (mI m6 1000 (Int32.toNatClampNeg (J i + 1))) fun z8 => bT (okI Q0 (mH m6 1000) (J i + 2)) (bX (mI m6 1000 (Int32.toNatClampNeg (J i + 2))) fun z9 => bT (okI Q0 (mH m6 1000) (J i + 3)) (bX (mI m6 1000 (Int32.toNatClampNeg (J i + 3))) fun z10 => bT (okO (mH m6 177) 9) (bI ((callF (OA Q0) prog heds 26) 120 [.ref 177, .int z8, .int z9, .int z10] m6) fun x12 m11 => bT (Q0.1 0 x7 x12) (Wl i m11) (bT (Q0.2.2.2.1 1 0) (some (some (.int 0), m11)) none)) none) none) none) none) none) none) none) none) := by
  obtain ⟨S', m1, m2, x, e1, e2, hR2⟩ : Both 0 50 120 [.int (X (Int32.toNatClampNeg (J i + 1))), .int (X (Int32.toNatClampNeg (J i + 2))), .int (X (Int32.toNatClampNeg (J i + 3)))] m := G_0 hR
  have c1 := call_sim hE 26 50 (.ref 0 :: [.int (X (Int32.toNatClampNeg (J i + 1))), .int (X (Int32.toNatClampNeg (J i + 2))), .int (X (Int32.toNatClampNeg (J i + 3)))]) m _ _ e1
  have c2 := call_sim hE 26 120 (.ref 177 :: [.int (X (Int32.toNatClampNeg (J i + 1))), .int (X (Int32.toNatClampNeg (J i + 2))), .int (X (Int32.toNatClampNeg (J i + 3)))]) m1 _ _ e2
  have s1 := call_stay 26 50 _ m hm _ _ e1
  have s2 := call_stay 26 120 _ m1 s1 _ _ e2
  rw [rd_1 h0 hm hL hi, rd_2 h0 hm hL hi, rd_3 h0 hm hL hi, ca_e hA c1, rd_1 h0 s1 hL hi, rd_2 h0 s1 hL hi, rd_3 h0 s1 hL hi, ca_e hB c2, q_rf]
  exact hk S' m2 hR2 s2
theorem st_1 (hE : EmOK E) (h0 : E.2.2.1 1000 = .inr (10, L)) (hA : okO (E.2.2.1 0) 8 = true) (hB : okO (E.2.2.1 177) 9 = true) (hL : L ≤ 3072) (hi : 0 ≤ i ∧ i + 5 < (L : Int)) (hR : Rel S m) (hm : m.1 1000 = X) (hk : ∀ S' m', Rel S' m' → m'.1 1000 = X → FinE E (Wl i (emb E m'))) : FinE E (bT (okI Q0 (mH (emb E m) 1000) (J i + 1)) (bX (mI (emb E m) 1000 (Int32.toNatClampNeg (J i + 1))) fun z13 => bT (okI Q0 (mH (emb E m) 1000) (J i + 2)) (bX (mI (emb E m) 1000 (Int32.toNatClampNeg (J i + 2))) fun z14 => bT (okO (mH (emb E m) 0) 8) (bI ((callF (OA Q0) prog heds 26) 51 [.ref 0, .int z13, .int z14] (emb E m)) fun x16 m15 => bT (okI Q0 (mH m15 1000) (J i + 1)) (bX (mI m15 1000 (Int32.toNatClampNeg (J i + 1))) fun z17 => bT (okI Q0 (mH m15 1000) (J i + 2)) (bX (mI m15 1000 (Int32.toNatClampNeg (J i + 2))) fun z18 => bT (okO (mH m15 177) 9) (bI ((callF (OA Q0) prog heds 26) 162 [.ref 177, .int z17, .int z18] m15) fun x20 m19 => bT (Q0.1 0 x16 x20) (Wl i m19) (bT (Q0.2.2.2.1 1 0) (some (some (.int 0), m19)) none)) none) none) none) none) none) none) := by
  obtain ⟨S', m1, m2, x, e1, e2, hR2⟩ : Both 0 51 162 [.int (X (Int32.toNatClampNeg (J i + 1))), .int (X (Int32.toNatClampNeg (J i + 2)))] m := G_1 hR
  have c1 := call_sim hE 26 51 (.ref 0 :: [.int (X (Int32.toNatClampNeg (J i + 1))), .int (X (Int32.toNatClampNeg (J i + 2)))]) m _ _ e1
  have c2 := call_sim hE 26 162 (.ref 177 :: [.int (X (Int32.toNatClampNeg (J i + 1))), .int (X (Int32.toNatClampNeg (J i + 2)))]) m1 _ _ e2
  have s1 := call_stay 26 51 _ m hm _ _ e1
  have s2 := call_stay 26 162 _ m1 s1 _ _ e2
  rw [rd_1 h0 hm hL hi, rd_2 h0 hm hL hi, ca_e hA c1, rd_1 h0 s1 hL hi, rd_2 h0 s1 hL hi, ca_e hB c2, q_rf]
  exact hk S' m2 hR2 s2
theorem st_2 (hE : EmOK E) (h0 : E.2.2.1 1000 = .inr (10, L)) (hA : okO (E.2.2.1 0) 8 = true) (hB : okO (E.2.2.1 177) 9 = true) (hL : L ≤ 3072) (hi : 0 ≤ i ∧ i + 5 < (L : Int)) (hR : Rel S m) (hm : m.1 1000 = X) (hk : ∀ S' m', Rel S' m' → m'.1 1000 = X → FinE E (Wl i (emb E m'))) : FinE E (bT (okI Q0 (mH (emb E m) 1000) (J i + 1)) (bX (mI (emb E m) 1000 (Int32.toNatClampNeg (J i + 1))) fun z21 => bT (okI Q0 (mH (emb E m) 1000) (J i + 2)) (bX (mI (emb E m) 1000 (Int32.toNatClampNeg (J i + 2))) fun z22 => bT (okI Q0 (mH (emb E m) 1000) (J i + 3)) (bX (mI (emb E m) 1000 (Int32.toNatClampNeg (J i + 3))) fun z23 => bT (okO (mH (emb E m) 0) 8) (bI ((callF (OA Q0) prog heds 26) 52 [.ref 0, .int z21, .int z22, .int z23] (emb E m)) fun x25 m24 => bT (okI Q0 (mH m24 1000) (J i + 1)) (bX (mI m24 1000 (Int32.toNatClampNeg (J i + 1))) fun z26 => bT (okI Q0 (mH m24 1000) (J i + 2)) (bX (mI m24 1000 (Int32.toNatClampNeg (J i + 2))) fun z27 => bT (okI Q0 (mH m24 1000) (J i + 3)) (bX (mI m24 1000 (Int32.toNatClampNeg (J i + 3))) fun z28 => bT (okO (mH m24 177) 9) (bI ((callF (OA Q0) prog heds 26) 150 [.ref 177, .int z26, .int z27, .int z28] m24) fun x30 m29 => bT (Q0.1 0 x25 x30) (Wl i m29) (bT (Q0.2.2.2.1 1 0) (some (some (.int 0), m29)) none)) none) none) none) none) none) none) none) none) := by
  obtain ⟨S', m1, m2, x, e1, e2, hR2⟩ : Both 0 52 150 [.int (X (Int32.toNatClampNeg (J i + 1))), .int (X (Int32.toNatClampNeg (J i + 2))), .int (X (Int32.toNatClampNeg (J i + 3)))] m := G_2 hR
  have c1 := call_sim hE 26 52 (.ref 0 :: [.int (X (Int32.toNatClampNeg (J i + 1))), .int (X (Int32.toNatClampNeg (J i + 2))), .int (X (Int32.toNatClampNeg (J i + 3)))]) m _ _ e1
  have c2 := call_sim hE 26 150 (.ref 177 :: [.int (X (Int32.toNatClampNeg (J i + 1))), .int (X (Int32.toNatClampNeg (J i + 2))), .int (X (Int32.toNatClampNeg (J i + 3)))]) m1 _ _ e2
  have s1 := call_stay 26 52 _ m hm _ _ e1
  have s2 := call_stay 26 150 _ m1 s1 _ _ e2
  rw [rd_1 h0 hm hL hi, rd_2 h0 hm hL hi, rd_3 h0 hm hL hi, ca_e hA c1, rd_1 h0 s1 hL hi, rd_2 h0 s1 hL hi, rd_3 h0 s1 hL hi, ca_e hB c2, q_rf]
  exact hk S' m2 hR2 s2
theorem st_3 (hE : EmOK E) (h0 : E.2.2.1 1000 = .inr (10, L)) (hA : okO (E.2.2.1 0) 8 = true) (hB : okO (E.2.2.1 177) 9 = true) (hL : L ≤ 3072) (hi : 0 ≤ i ∧ i + 5 < (L : Int)) (hR : Rel S m) (hm : m.1 1000 = X) (hk : ∀ S' m', Rel S' m' → m'.1 1000 = X → FinE E (Wl i (emb E m'))) : FinE E (bT (okI Q0 (mH (emb E m) 1000) (J i + 1)) (bX (mI (emb E m) 1000 (Int32.toNatClampNeg (J i + 1))) fun z31 => bT (okI Q0 (mH (emb E m) 1000) (J i + 2)) (bX (mI (emb E m) 1000 (Int32.toNatClampNeg (J i + 2))) fun z32 => bT (okI Q0 (mH (emb E m) 1000) (J i + 3)) (bX (mI (emb E m) 1000 (Int32.toNatClampNeg (J i + 3))) fun z33 => bT (okO (mH (emb E m) 0) 8) (bI ((callF (OA Q0) prog heds 26) 53 [.ref 0, .int z31, .int z32, .int z33] (emb E m)) fun x35 m34 => bT (okI Q0 (mH m34 1000) (J i + 1)) (bX (mI m34 1000 (Int32.toNatClampNeg (J i + 1))) fun z36 => bT (okI Q0 (mH m34 1000) (J i + 2)) (bX (mI m34 1000 (Int32.toNatClampNeg (J i + 2))) fun z37 => bT (okI Q0 (mH m34 1000) (J i + 3)) (bX (mI m34 1000 (Int32.toNatClampNeg (J i + 3))) fun z38 => bT (okO (mH m34 177) 9) (bI ((callF (OA Q0) prog heds 26) 121 [.ref 177, .int z36, .int z37, .int z38] m34) fun x40 m39 => bT (Q0.1 0 x35 x40) (Wl i m39) (bT (Q0.2.2.2.1 1 0) (some (some (.int 0), m39)) none)) none) none) none) none) none) none) none) none) := by
  obtain ⟨S', m1, m2, x, e1, e2, hR2⟩ : Both 0 53 121 [.int (X (Int32.toNatClampNeg (J i + 1))), .int (X (Int32.toNatClampNeg (J i + 2))), .int (X (Int32.toNatClampNeg (J i + 3)))] m := G_3 hR
  have c1 := call_sim hE 26 53 (.ref 0 :: [.int (X (Int32.toNatClampNeg (J i + 1))), .int (X (Int32.toNatClampNeg (J i + 2))), .int (X (Int32.toNatClampNeg (J i + 3)))]) m _ _ e1
  have c2 := call_sim hE 26 121 (.ref 177 :: [.int (X (Int32.toNatClampNeg (J i + 1))), .int (X (Int32.toNatClampNeg (J i + 2))), .int (X (Int32.toNatClampNeg (J i + 3)))]) m1 _ _ e2
  have s1 := call_stay 26 53 _ m hm _ _ e1
  have s2 := call_stay 26 121 _ m1 s1 _ _ e2
  rw [rd_1 h0 hm hL hi, rd_2 h0 hm hL hi, rd_3 h0 hm hL hi, ca_e hA c1, rd_1 h0 s1 hL hi, rd_2 h0 s1 hL hi, rd_3 h0 s1 hL hi, ca_e hB c2, q_rf]
  exact hk S' m2 hR2 s2
theorem st_4 (hE : EmOK E) (h0 : E.2.2.1 1000 = .inr (10, L)) (hA : okO (E.2.2.1 0) 8 = true) (hB : okO (E.2.2.1 177) 9 = true) (hL : L ≤ 3072) (hi : 0 ≤ i ∧ i + 5 < (L : Int)) (hR : Rel S m) (hm : m.1 1000 = X) (hk : ∀ S' m', Rel S' m' → m'.1 1000 = X → FinE E (Wl i (emb E m'))) : FinE E (bT (okI Q0 (mH (emb E m) 1000) (J i + 1)) (bX (mI (emb E m) 1000 (Int32.toNatClampNeg (J i + 1))) fun z41 => bT (okI Q0 (mH (emb E m) 1000) (J i + 2)) (bX (mI (emb E m) 1000 (Int32.toNatClampNeg (J i + 2))) fun z42 => bT (okI Q0 (mH (emb E m) 1000) (J i + 3)) (bX (mI (emb E m) 1000 (Int32.toNatClampNeg (J i + 3))) fun z43 => bT (okO (mH (emb E m) 0) 8) (bI ((callF (OA Q0) prog heds 26) 54 [.ref 0, .int z41, .int z42, .int z43] (emb E m)) fun x45 m44 => bT (okI Q0 (mH m44 1000) (J i + 1)) (bX (mI m44 1000 (Int32.toNatClampNeg (J i + 1))) fun z46 => bT (okI Q0 (mH m44 1000) (J i + 2)) (bX (mI m44 1000 (Int32.toNatClampNeg (J i + 2))) fun z47 => bT (okI Q0 (mH m44 1000) (J i + 3)) (bX (mI m44 1000 (Int32.toNatClampNeg (J i + 3))) fun z48 => bT (okO (mH m44 177) 9) (bI ((callF (OA Q0) prog heds 26) 122 [.ref 177, .int z46, .int z47, .int z48] m44) fun x50 m49 => bT (Q0.1 0 x45 x50) (Wl i m49) (bT (Q0.2.2.2.1 1 0) (some (some (.int 0), m49)) none)) none) none) none) none) none) none) none) none) := by
  obtain ⟨S', m1, m2, x, e1, e2, hR2⟩ : Both 0 54 122 [.int (X (Int32.toNatClampNeg (J i + 1))), .int (X (Int32.toNatClampNeg (J i + 2))), .int (X (Int32.toNatClampNeg (J i + 3)))] m := G_4 hR
  have c1 := call_sim hE 26 54 (.ref 0 :: [.int (X (Int32.toNatClampNeg (J i + 1))), .int (X (Int32.toNatClampNeg (J i + 2))), .int (X (Int32.toNatClampNeg (J i + 3)))]) m _ _ e1
  have c2 := call_sim hE 26 122 (.ref 177 :: [.int (X (Int32.toNatClampNeg (J i + 1))), .int (X (Int32.toNatClampNeg (J i + 2))), .int (X (Int32.toNatClampNeg (J i + 3)))]) m1 _ _ e2
  have s1 := call_stay 26 54 _ m hm _ _ e1
  have s2 := call_stay 26 122 _ m1 s1 _ _ e2
  rw [rd_1 h0 hm hL hi, rd_2 h0 hm hL hi, rd_3 h0 hm hL hi, ca_e hA c1, rd_1 h0 s1 hL hi, rd_2 h0 s1 hL hi, rd_3 h0 s1 hL hi, ca_e hB c2, q_rf]
  exact hk S' m2 hR2 s2
theorem st_5 (hE : EmOK E) (h0 : E.2.2.1 1000 = .inr (10, L)) (hA : okO (E.2.2.1 0) 8 = true) (hB : okO (E.2.2.1 177) 9 = true) (hL : L ≤ 3072) (hi : 0 ≤ i ∧ i + 5 < (L : Int)) (hR : Rel S m) (hm : m.1 1000 = X) (hk : ∀ S' m', Rel S' m' → m'.1 1000 = X → FinE E (Wl i (emb E m'))) : FinE E (bT (okI Q0 (mH (emb E m) 1000) (J i + 1)) (bX (mI (emb E m) 1000 (Int32.toNatClampNeg (J i + 1))) fun z51 => bT (okI Q0 (mH (emb E m) 1000) (J i + 2)) (bX (mI (emb E m) 1000 (Int32.toNatClampNeg (J i + 2))) fun z52 => bT (okI Q0 (mH (emb E m) 1000) (J i + 3)) (bX (mI (emb E m) 1000 (Int32.toNatClampNeg (J i + 3))) fun z53 => bT (okI Q0 (mH (emb E m) 1000) (J i + 4)) (bX (mI (emb E m) 1000 (Int32.toNatClampNeg (J i + 4))) fun z54 => bT (okO (mH (emb E m) 0) 8) (bI ((callF (OA Q0) prog heds 26) 55 [.ref 0, .int z51, .int z52, .int z53, .int z54] (emb E m)) fun x56 m55 => bT (okI Q0 (mH m55 1000) (J i + 1)) (bX (mI m55 1000 (Int32.toNatClampNeg (J i + 1))) fun z57 => bT (okI Q0 (mH m55 1000) (J i + 2)) (bX (mI m55 1000 (Int32.toNatClampNeg (J i + 2))) fun z58 => bT (okI Q0 (mH m55 1000) (J i + 3)) (bX (mI m55 1000 (Int32.toNatClampNeg (J i + 3))) fun z59 => bT (okI Q0 (mH m55 1000) (J i + 4)) (bX (mI m55 1000 (Int32.toNatClampNeg (J i + 4))) fun z60 => bT (okO (mH m55 177) 9) (bI ((callF (OA Q0) prog heds 26) 123 [.ref 177, .int z57, .int z58, .int z59, .int z60] m55) fun x62 m61 => bT (Q0.1 0 x56 x62) (Wl i m61) (bT (Q0.2.2.2.1 1 0) (some (some (.int 0), m61)) none)) none) none) none) none) none) none) none) none) none) none) := by
  obtain ⟨S', m1, m2, x, e1, e2, hR2⟩ : Both 0 55 123 [.int (X (Int32.toNatClampNeg (J i + 1))), .int (X (Int32.toNatClampNeg (J i + 2))), .int (X (Int32.toNatClampNeg (J i + 3))), .int (X (Int32.toNatClampNeg (J i + 4)))] m := G_5 hR
  have c1 := call_sim hE 26 55 (.ref 0 :: [.int (X (Int32.toNatClampNeg (J i + 1))), .int (X (Int32.toNatClampNeg (J i + 2))), .int (X (Int32.toNatClampNeg (J i + 3))), .int (X (Int32.toNatClampNeg (J i + 4)))]) m _ _ e1
  have c2 := call_sim hE 26 123 (.ref 177 :: [.int (X (Int32.toNatClampNeg (J i + 1))), .int (X (Int32.toNatClampNeg (J i + 2))), .int (X (Int32.toNatClampNeg (J i + 3))), .int (X (Int32.toNatClampNeg (J i + 4)))]) m1 _ _ e2
  have s1 := call_stay 26 55 _ m hm _ _ e1
  have s2 := call_stay 26 123 _ m1 s1 _ _ e2
  rw [rd_1 h0 hm hL hi, rd_2 h0 hm hL hi, rd_3 h0 hm hL hi, rd_4 h0 hm hL hi, ca_e hA c1, rd_1 h0 s1 hL hi, rd_2 h0 s1 hL hi, rd_3 h0 s1 hL hi, rd_4 h0 s1 hL hi, ca_e hB c2, q_rf]
  exact hk S' m2 hR2 s2
theorem st_6 (hE : EmOK E) (h0 : E.2.2.1 1000 = .inr (10, L)) (hA : okO (E.2.2.1 0) 8 = true) (hB : okO (E.2.2.1 177) 9 = true) (hL : L ≤ 3072) (hi : 0 ≤ i ∧ i + 5 < (L : Int)) (hR : Rel S m) (hm : m.1 1000 = X) (hk : ∀ S' m', Rel S' m' → m'.1 1000 = X → FinE E (Wl i (emb E m'))) : FinE E (bT (okI Q0 (mH (emb E m) 1000) (J i + 1)) (bX (mI (emb E m) 1000 (Int32.toNatClampNeg (J i + 1))) fun z63 => bT (okI Q0 (mH (emb E m) 1000) (J i + 2)) (bX (mI (emb E m) 1000 (Int32.toNatClampNeg (J i + 2))) fun z64 => bT (Q0.1 0 z64 0) (bT (okO (mH (emb E m) 0) 8) (bI ((callF (OA Q0) prog heds 26) 56 [.ref 0, .int z63, .int 0] (emb E m)) fun x66 m65 => bT (okI Q0 (mH m65 1000) (J i + 1)) (bX (mI m65 1000 (Int32.toNatClampNeg (J i + 1))) fun z67 => bT (okI Q0 (mH m65 1000) (J i + 2)) (bX (mI m65 1000 (Int32.toNatClampNeg (J i + 2))) fun z68 => bT (Q0.1 0 z68 0) (bT (okO (mH m65 177) 9) (bI ((callF (OA Q0) prog heds 26) 125 [.ref 177, .int z67, .int 0] m65) fun x70 m69 => bT (Q0.1 0 x66 x70) (Wl i m69) (bT (Q0.2.2.2.1 1 0) (some (some (.int 0), m69)) none)) none) (bT (okO (mH m65 177) 9) (bI ((callF (OA Q0) prog heds 26) 125 [.ref 177, .int z67, .int 1] m65) fun x72 m71 => bT (Q0.1 0 x66 x72) (Wl i m71) (bT (Q0.2.2.2.1 1 0) (some (some (.int 0), m71)) none)) none)) none) none) none) (bT (okO (mH (emb E m) 0) 8) (bI ((callF (OA Q0) prog heds 26) 56 [.ref 0, .int z63, .int 1] (emb E m)) fun x74 m73 => bT (okI Q0 (mH m73 1000) (J i + 1)) (bX (mI m73 1000 (Int32.toNatClampNeg (J i + 1))) fun z75 => bT (okI Q0 (mH m73 1000) (J i + 2)) (bX (mI m73 1000 (Int32.toNatClampNeg (J i + 2))) fun z76 => bT (Q0.1 0 z76 0) (bT (okO (mH m73 177) 9) (bI ((callF (OA Q0) prog heds 26) 125 [.ref 177, .int z75, .int 0] m73) fun x78 m77 => bT (Q0.1 0 x74 x78) (Wl i m77) (bT (Q0.2.2.2.1 1 0) (some (some (.int 0), m77)) none)) none) (bT (okO (mH m73 177) 9) (bI ((callF (OA Q0) prog heds 26) 125 [.ref 177, .int z75, .int 1] m73) fun x80 m79 => bT (Q0.1 0 x74 x80) (Wl i m79) (bT (Q0.2.2.2.1 1 0) (some (some (.int 0), m79)) none)) none)) none) none) none)) none) none) := by
  cases hq : Q0.1 0 (X (Int32.toNatClampNeg (J i + 2))) 0
  · obtain ⟨S', m1, m2, x, e1, e2, hR2⟩ := G_6 (d := 0) (x := (X (Int32.toNatClampNeg (J i + 1)))) hR (b := 1) (by omega)
    have c1 : callF (OA Q0) prog heds 26 56 [.ref 0, .int (X (Int32.toNatClampNeg (J i + 1))), .int 1] (emb E m) = some (some (.int x), emb E m1) := call_sim hE 26 56 _ m _ _ e1
    have c2 : callF (OA Q0) prog heds 26 125 [.ref 177, .int (X (Int32.toNatClampNeg (J i + 1))), .int 1] (emb E m1) = some (some (.int x), emb E m2) := call_sim hE 26 125 _ m1 _ _ e2
    have s1 := call_stay 26 56 _ m hm _ _ e1
    have s2 := call_stay 26 125 _ m1 s1 _ _ e2
    rw [rd_1 h0 hm hL hi, rd_2 h0 hm hL hi, bT_f hq, ca_e hA c1, rd_1 h0 s1 hL hi, rd_2 h0 s1 hL hi, bT_f hq, ca_e hB c2, q_rf]
    exact hk S' m2 hR2 s2
  · obtain ⟨S', m1, m2, x, e1, e2, hR2⟩ := G_6 (d := 0) (x := (X (Int32.toNatClampNeg (J i + 1)))) hR (b := 0) (by omega)
    have c1 : callF (OA Q0) prog heds 26 56 [.ref 0, .int (X (Int32.toNatClampNeg (J i + 1))), .int 0] (emb E m) = some (some (.int x), emb E m1) := call_sim hE 26 56 _ m _ _ e1
    have c2 : callF (OA Q0) prog heds 26 125 [.ref 177, .int (X (Int32.toNatClampNeg (J i + 1))), .int 0] (emb E m1) = some (some (.int x), emb E m2) := call_sim hE 26 125 _ m1 _ _ e2
    have s1 := call_stay 26 56 _ m hm _ _ e1
    have s2 := call_stay 26 125 _ m1 s1 _ _ e2
    rw [rd_1 h0 hm hL hi, rd_2 h0 hm hL hi, bT_t hq, ca_e hA c1, rd_1 h0 s1 hL hi, rd_2 h0 s1 hL hi, bT_t hq, ca_e hB c2, q_rf]
    exact hk S' m2 hR2 s2
theorem st_7 (hE : EmOK E) (h0 : E.2.2.1 1000 = .inr (10, L)) (hA : okO (E.2.2.1 0) 8 = true) (hB : okO (E.2.2.1 177) 9 = true) (hL : L ≤ 3072) (hi : 0 ≤ i ∧ i + 5 < (L : Int)) (hR : Rel S m) (hm : m.1 1000 = X) (hk : ∀ S' m', Rel S' m' → m'.1 1000 = X → FinE E (Wl i (emb E m'))) : FinE E (bT (okI Q0 (mH (emb E m) 1000) (J i + 1)) (bX (mI (emb E m) 1000 (Int32.toNatClampNeg (J i + 1))) fun z81 => bT (okI Q0 (mH (emb E m) 1000) (J i + 2)) (bX (mI (emb E m) 1000 (Int32.toNatClampNeg (J i + 2))) fun z82 => bT (okI Q0 (mH (emb E m) 1000) (J i + 3)) (bX (mI (emb E m) 1000 (Int32.toNatClampNeg (J i + 3))) fun z83 => bT (okO (mH (emb E m) 0) 8) (bI ((callF (OA Q0) prog heds 26) 57 [.ref 0, .int z81, .int z82, .int z83] (emb E m)) fun x85 m84 => bT (okI Q0 (mH m84 1000) (J i + 1)) (bX (mI m84 1000 (Int32.toNatClampNeg (J i + 1))) fun z86 => bT (okI Q0 (mH m84 1000) (J i + 2)) (bX (mI m84 1000 (Int32.toNatClampNeg (J i + 2))) fun z87 => bT (okI Q0 (mH m84 1000) (J i + 3)) (bX (mI m84 1000 (Int32.toNatClampNeg (J i + 3))) fun z88 => bT (okO (mH m84 177) 9) (bI ((callF (OA Q0) prog heds 26) 126 [.ref 177, .int z86, .int z87, .int z88] m84) fun x90 m89 => bT (Q0.1 0 x85 x90) (Wl i m89) (bT (Q0.2.2.2.1 1 0) (some (some (.int 0), m89)) none)) none) none) none) none) none) none) none) none) := by
  obtain ⟨S', m1, m2, x, e1, e2, hR2⟩ : Both 0 57 126 [.int (X (Int32.toNatClampNeg (J i + 1))), .int (X (Int32.toNatClampNeg (J i + 2))), .int (X (Int32.toNatClampNeg (J i + 3)))] m := G_7 hR
  have c1 := call_sim hE 26 57 (.ref 0 :: [.int (X (Int32.toNatClampNeg (J i + 1))), .int (X (Int32.toNatClampNeg (J i + 2))), .int (X (Int32.toNatClampNeg (J i + 3)))]) m _ _ e1
  have c2 := call_sim hE 26 126 (.ref 177 :: [.int (X (Int32.toNatClampNeg (J i + 1))), .int (X (Int32.toNatClampNeg (J i + 2))), .int (X (Int32.toNatClampNeg (J i + 3)))]) m1 _ _ e2
  have s1 := call_stay 26 57 _ m hm _ _ e1
  have s2 := call_stay 26 126 _ m1 s1 _ _ e2
  rw [rd_1 h0 hm hL hi, rd_2 h0 hm hL hi, rd_3 h0 hm hL hi, ca_e hA c1, rd_1 h0 s1 hL hi, rd_2 h0 s1 hL hi, rd_3 h0 s1 hL hi, ca_e hB c2, q_rf]
  exact hk S' m2 hR2 s2
theorem st_8 (hE : EmOK E) (h0 : E.2.2.1 1000 = .inr (10, L)) (hA : okO (E.2.2.1 0) 8 = true) (hB : okO (E.2.2.1 177) 9 = true) (hL : L ≤ 3072) (hi : 0 ≤ i ∧ i + 5 < (L : Int)) (hR : Rel S m) (hm : m.1 1000 = X) (hk : ∀ S' m', Rel S' m' → m'.1 1000 = X → FinE E (Wl i (emb E m'))) : FinE E (bT (okI Q0 (mH (emb E m) 1000) (J i + 1)) (bX (mI (emb E m) 1000 (Int32.toNatClampNeg (J i + 1))) fun z91 => bT (okO (mH (emb E m) 0) 8) (bI ((callF (OA Q0) prog heds 26) 58 [.ref 0, .int z91] (emb E m)) fun x93 m92 => bT (okI Q0 (mH m92 1000) (J i + 1)) (bX (mI m92 1000 (Int32.toNatClampNeg (J i + 1))) fun z94 => bT (okO (mH m92 177) 9) (bI ((callF (OA Q0) prog heds 26) 127 [.ref 177, .int z94] m92) fun x96 m95 => bT (Q0.1 0 x93 x96) (Wl i m95) (bT (Q0.2.2.2.1 1 0) (some (some (.int 0), m95)) none)) none) none) none) none) := by
  obtain ⟨S', m1, m2, x, e1, e2, hR2⟩ : Both 0 58 127 [.int (X (Int32.toNatClampNeg (J i + 1)))] m := G_8 hR
  have c1 := call_sim hE 26 58 (.ref 0 :: [.int (X (Int32.toNatClampNeg (J i + 1)))]) m _ _ e1
  have c2 := call_sim hE 26 127 (.ref 177 :: [.int (X (Int32.toNatClampNeg (J i + 1)))]) m1 _ _ e2
  have s1 := call_stay 26 58 _ m hm _ _ e1
  have s2 := call_stay 26 127 _ m1 s1 _ _ e2
  rw [rd_1 h0 hm hL hi, ca_e hA c1, rd_1 h0 s1 hL hi, ca_e hB c2, q_rf]
  exact hk S' m2 hR2 s2
theorem st_9 (hE : EmOK E) (h0 : E.2.2.1 1000 = .inr (10, L)) (hA : okO (E.2.2.1 0) 8 = true) (hB : okO (E.2.2.1 177) 9 = true) (hL : L ≤ 3072) (hi : 0 ≤ i ∧ i + 5 < (L : Int)) (hR : Rel S m) (hm : m.1 1000 = X) (hk : ∀ S' m', Rel S' m' → m'.1 1000 = X → FinE E (Wl i (emb E m'))) : FinE E (bT (okO (mH (emb E m) 0) 8) (bI ((callF (OA Q0) prog heds 26) 59 [.ref 0] (emb E m)) fun x98 m97 => bT (okO (mH m97 177) 9) (bI ((callF (OA Q0) prog heds 26) 142 [.ref 177] m97) fun x100 m99 => bT (Q0.1 0 x98 x100) (Wl i m99) (bT (Q0.2.2.2.1 1 0) (some (some (.int 0), m99)) none)) none) none) := by
  obtain ⟨S', m1, m2, x, e1, e2, hR2⟩ : Both 0 59 142 [] m := G_9 hR
  have c1 := call_sim hE 26 59 (.ref 0 :: []) m _ _ e1
  have c2 := call_sim hE 26 142 (.ref 177 :: []) m1 _ _ e2
  have s1 := call_stay 26 59 _ m hm _ _ e1
  have s2 := call_stay 26 142 _ m1 s1 _ _ e2
  rw [ca_e hA c1, ca_e hB c2, q_rf]
  exact hk S' m2 hR2 s2
theorem st_10 (hE : EmOK E) (h0 : E.2.2.1 1000 = .inr (10, L)) (hA : okO (E.2.2.1 0) 8 = true) (hB : okO (E.2.2.1 177) 9 = true) (hL : L ≤ 3072) (hi : 0 ≤ i ∧ i + 5 < (L : Int)) (hR : Rel S m) (hm : m.1 1000 = X) (hk : ∀ S' m', Rel S' m' → m'.1 1000 = X → FinE E (Wl i (emb E m'))) : FinE E (bT (okI Q0 (mH (emb E m) 1000) (J i + 1)) (bX (mI (emb E m) 1000 (Int32.toNatClampNeg (J i + 1))) fun z101 => bT (okO (mH (emb E m) 0) 8) (bI ((callF (OA Q0) prog heds 26) 60 [.ref 0, .int z101] (emb E m)) fun x103 m102 => bT (okI Q0 (mH m102 1000) (J i + 1)) (bX (mI m102 1000 (Int32.toNatClampNeg (J i + 1))) fun z104 => bT (okO (mH m102 177) 9) (bI ((callF (OA Q0) prog heds 26) 163 [.ref 177, .int z104] m102) fun x106 m105 => bT (Q0.1 0 x103 x106) (Wl i m105) (bT (Q0.2.2.2.1 1 0) (some (some (.int 0), m105)) none)) none) none) none) none) := by
  obtain ⟨S', m1, m2, x, e1, e2, hR2⟩ : Both 0 60 163 [.int (X (Int32.toNatClampNeg (J i + 1)))] m := G_10 hR
  have c1 := call_sim hE 26 60 (.ref 0 :: [.int (X (Int32.toNatClampNeg (J i + 1)))]) m _ _ e1
  have c2 := call_sim hE 26 163 (.ref 177 :: [.int (X (Int32.toNatClampNeg (J i + 1)))]) m1 _ _ e2
  have s1 := call_stay 26 60 _ m hm _ _ e1
  have s2 := call_stay 26 163 _ m1 s1 _ _ e2
  rw [rd_1 h0 hm hL hi, ca_e hA c1, rd_1 h0 s1 hL hi, ca_e hB c2, q_rf]
  exact hk S' m2 hR2 s2
theorem st_11 (hE : EmOK E) (h0 : E.2.2.1 1000 = .inr (10, L)) (hA : okO (E.2.2.1 0) 8 = true) (hB : okO (E.2.2.1 177) 9 = true) (hL : L ≤ 3072) (hi : 0 ≤ i ∧ i + 5 < (L : Int)) (hR : Rel S m) (hm : m.1 1000 = X) (hk : ∀ S' m', Rel S' m' → m'.1 1000 = X → FinE E (Wl i (emb E m'))) : FinE E (bT (okI Q0 (mH (emb E m) 1000) (J i + 1)) (bX (mI (emb E m) 1000 (Int32.toNatClampNeg (J i + 1))) fun z107 => bT (okO (mH (emb E m) 0) 8) (bI ((callF (OA Q0) prog heds 26) 61 [.ref 0, .int z107] (emb E m)) fun x109 m108 => bT (okI Q0 (mH m108 1000) (J i + 1)) (bX (mI m108 1000 (Int32.toNatClampNeg (J i + 1))) fun z110 => bT (okO (mH m108 177) 9) (bI ((callF (OA Q0) prog heds 26) 157 [.ref 177, .int z110] m108) fun x112 m111 => bT (Q0.1 0 x109 x112) (Wl i m111) (bT (Q0.2.2.2.1 1 0) (some (some (.int 0), m111)) none)) none) none) none) none) := by
  obtain ⟨S', m1, m2, x, e1, e2, hR2⟩ : Both 0 61 157 [.int (X (Int32.toNatClampNeg (J i + 1)))] m := G_11 hR
  have c1 := call_sim hE 26 61 (.ref 0 :: [.int (X (Int32.toNatClampNeg (J i + 1)))]) m _ _ e1
  have c2 := call_sim hE 26 157 (.ref 177 :: [.int (X (Int32.toNatClampNeg (J i + 1)))]) m1 _ _ e2
  have s1 := call_stay 26 61 _ m hm _ _ e1
  have s2 := call_stay 26 157 _ m1 s1 _ _ e2
  rw [rd_1 h0 hm hL hi, ca_e hA c1, rd_1 h0 s1 hL hi, ca_e hB c2, q_rf]
  exact hk S' m2 hR2 s2
end
