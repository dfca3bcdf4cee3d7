/-! THE TEXT read by the class: bytes, words, numbers, tests -/
def StLen (q : Nat) (st : List Int) (m : SM) : Prop := m.1 q 2 = J (st.length : Int) ∧ st.length ≤ 100 ∧ StepsAt q m 0 st
def isQ (q : Nat) : Prop := (141 ≤ q ∧ q ≤ 161)
/-- where the reading stands, what steps are there -/
def PS (tx : Int → Int) (N : Int) (q : Nat) (a : Int) (st : List Int) (m : SM) : Prop := TxtC tx N m ∧ m.1 129 2 = J a ∧ (0 ≤ a ∧ a ≤ N) ∧ StLen q st m ∧ StrA m
def pqK (q : Nat) : Nat → Prop := fun k => k = 129 ∨ k = q ∨ k = q + 3
def FrS (q : Nat) (m m' : SM) : Prop := Fr (pqK q) m m' ∧ m'.1 q 0 = m.1 q 0 ∧ m'.1 q 1 = m.1 q 1
theorem FrS.rf {q : Nat} {m : SM} : FrS q m m := ⟨Fr.rf, rfl, rfl⟩
theorem FrS.tr {q : Nat} {a b c : SM} (h1 : FrS q a b) (h2 : FrS q b c) : FrS q a c := ⟨h1.1.tr h2.1, h2.2.1.trans h1.2.1, h2.2.2.trans h1.2.2⟩
theorem FrS.put {q : Nat} {m : SM} {a : Int} (hq : isQ q) : FrS q m (putP m a) := by
  unfold isQ at hq
  refine ⟨(putP_fr m a).mono fun k hk => Or.inl hk, ?_, ?_⟩
  · rw [(putP_fr m a).1 q (by omega)]
  · rw [(putP_fr m a).1 q (by omega)]
def After (tx : Int → Int) (N : Int) (q : Nat) (st : List Int) (m : SM) (r : Rp) (m' : SM) : Prop := (∃ st', PS tx N q r.1 st' m' ∧ ∀ ts, r.2 = some ts → st' = st ++ ts) ∧ FrS q m m'
theorem StepsAt.fr3 {q : Nat} {m m' : SM} (h : m'.1 (q + 3) = m.1 (q + 3)) : ∀ (ts : List Int) (i : Int), StepsAt q m i ts → StepsAt q m' i ts
  | [], _, _ => trivial
  | t :: ts, i, g => ⟨by rw [h]; exact g.1, StepsAt.fr3 h ts (i + 1) g.2⟩
theorem StepsAt.app {q : Nat} {m : SM} : ∀ (ts us : List Int) (i : Int), StepsAt q m i (ts ++ us) ↔ StepsAt q m i ts ∧ StepsAt q m (i + ts.length) us
  | [], us, i => by simp [StepsAt]
  | t :: ts, us, i => by
    have ih := StepsAt.app (q := q) (m := m) ts us (i + 1)
    have e : i + 1 + (ts.length : Int) = i + ((t :: ts).length : Int) := by simp only [List.length_cons]; omega
    rw [e] at ih
    show _ ∧ StepsAt q m (i + 1) (ts ++ us) ↔ (_ ∧ StepsAt q m (i + 1) ts) ∧ _
    rw [ih, and_assoc]
theorem StepsAt.out {q : Nat} {m : SM} {j : Int} {v : Int32} : ∀ (ts : List Int) (i : Int), 0 ≤ i → i + ts.length ≤ j → StepsAt q m i ts → StepsAt q (up2 m.1 (q + 3) j.toNat v, m.2) i ts
  | [], _, _, _, _ => trivial
  | t :: ts, i, h0, h1, g => by
    simp only [List.length_cons] at h1
    refine ⟨?_, StepsAt.out ts (i + 1) (by omega) (by omega) g.2⟩
    show up2 m.1 (q + 3) j.toNat v (q + 3) i.toNat = _
    rw [u2_at, if_neg (by omega)]
    exact g.1
theorem PS.put {tx : Int → Int} {N a b : Int} {q : Nat} {st : List Int} {m : SM} (hq : isQ q) (h : PS tx N q a st m) (hb : 0 ≤ b ∧ b ≤ N) : PS tx N q b st (putP m b) := by
  obtain ⟨h1, h2, h3, ⟨h4, h5, h6⟩, h7⟩ := h
  unfold isQ at hq
  have hf := putP_fr m b
  exact ⟨h1.put, putP_at m b, hb, ⟨by rw [hf.1 q (by omega)]; exact h4, h5, h6.fr3 (hf.1 (q + 3) (by omega)) _ _⟩, h7.fr hf fun k hk => by omega⟩
section
variable {tx : Int → Int} {N : Int} {q : Nat} {a : Int} {st : List Int} {m : SM} {d : Nat}
theorem S_32 (hx : chr tx) (hN : N ≤ 100) (hT : TxtC tx N m) (ha : m.1 129 2 = J a) (h0 : 0 ≤ a ∧ a ≤ N) {c : Int} (hc : 0 ≤ c ∧ c ≤ 127) : cB Q0 (d + 1) 32 [.ref 129, .int (J c)] m = some (some (.int (bi (byt tx N a = c))), putP m (if byt tx N a = c then a + 1 else a)) := by
  rw [cB_eq]
  show rB Q0 32 (cB Q0 d) 0 [some (.ref 129), some (.int (J c))] m = _
  rw [T_32_0, bX_e, bX_e, ha, hT.1, q2_J (by omega) (by omega) (by omega) (by omega)]
  unfold byt
  by_cases e : N ≤ a
  · rw [if_pos e, nr_0, if_neg (show ¬ a < N by omega), if_neg (show ¬ (-1 : Int) = c by omega), putP_self ha]
    unfold bi
    rw [if_neg (show ¬ (-1 : Int) = c by omega)]
  · have hxa := hx a
    rw [if_neg e, bX_e, cB_J (n := 100) h0.1 (by omega) (by omega), bX_e, J_clamp h0.1 (by omega), hT.2 a h0.1 (by omega), if_pos (show a < N by omega), q0_J (by omega) (by omega) (by omega) (by omega)]
    unfold bi
    by_cases e2 : tx a = c
    · rw [if_pos e2, if_pos e2, if_pos e2]
      show some (some (Value.int 1), (up2 m.1 129 2 (J a + J 1), m.2)) = some (some (Value.int 1), putP m (a + 1))
      rw [J_add]
      rfl
    · rw [if_neg e2, if_neg e2, if_neg e2, putP_self ha]
      rfl
theorem L_33 (hx : chr tx) (hN : N ≤ 100) {s : Nat} {f : Int → Int} {n : Nat} (hF : StrF s n) (hf : chr f) (hn : n = 4) (hs : 130 ≤ s) : ∀ (k : Nat) (i a : Int) (m : SM), 0 ≤ i → i + k = n → TxtC tx N m → m.1 129 2 = J a → (0 ≤ a ∧ a ≤ N) → StrC s n f m → rB Q0 33 (cB Q0 (d + 4)) 2 [some (.ref 129), some (.ref s), some (.int (J i))] m = some (some (.int (bi ((wrdF tx N f k i a).2 = true))), putP m (wrdF tx N f k i a).1) := by
  intro k
  induction k with
  | zero =>
    intro i a m h0 h1 hT ha h2 hS
    have e32 := S_32 (d := d + 3) hx hN hT ha h2 (c := 32) (by omega)
    rw [T_33_2, hF.1, cO_J, show cB Q0 (d + 4) 213 [.ref s] m = _ from S_213 (d := d + 2) hF hS (by omega), bI_e, q2_J (by omega) (by omega) (by omega) (by omega), if_pos (by omega), show cB Q0 (d + 4) 32 [.ref 129, .int 32] m = _ from e32, bI_e, nr_bi]
    unfold wrdF
    by_cases e : byt tx N a = 32
    · rw [if_pos e, if_pos e]
      unfold bi
      rw [if_pos e, if_pos rfl]
    · rw [if_neg e, if_neg e]
      unfold bi
      rw [if_neg e, if_neg (by simp)]
  | succ k ih =>
    intro i a m h0 h1 hT ha h2 hS
    have e32 := S_32 (d := d + 3) hx hN hT ha h2 (c := f i) (hf i)
    rw [T_33_2, hF.1, cO_J, show cB Q0 (d + 4) 213 [.ref s] m = _ from S_213 (d := d + 2) hF hS (by omega), bI_e, q2_J (by omega) (by omega) (by omega) (by omega), if_neg (by omega), cO_J, S_214 (d := d) hF hS hf (by omega) h0 (by omega), bI_e, e32, bI_e, nz_bi]
    have ew : wrdF tx N f (k + 1) i a = if byt tx N a = f i then wrdF tx N f k (i + 1) (a + 1) else (a, false) := rfl
    rw [ew]
    by_cases e : byt tx N a = f i
    · have hl : a < N := byt_lt e (hf i).1
      rw [if_pos e, if_pos e, if_pos e, show J i + 1 = J (i + 1) from J_add i 1, ih (i + 1) (a + 1) (putP m (a + 1)) (by omega) (by omega) hT.put (putP_at _ _) (by omega) (hS.fr (putP_fr m _) (by omega) (by omega)), putP_putP]
    · rw [if_neg e, if_neg e, if_neg e, nr_0]
      unfold bi
      rw [if_neg (by simp)]
theorem S_33 (hx : chr tx) (hN : N ≤ 100) {s : Nat} {f : Int → Int} (hF : StrF s 4) (hf : chr f) (hs : 130 ≤ s) (hT : TxtC tx N m) (ha : m.1 129 2 = J a) (h0 : 0 ≤ a ∧ a ≤ N) (hS : StrC s 4 f m) : cB Q0 (d + 5) 33 [.ref 129, .ref s] m = some (some (.int (bi ((wrdF tx N f 4 0 a).2 = true))), putP m (wrdF tx N f 4 0 a).1) := by
  rw [cB_eq]
  show rB Q0 33 (cB Q0 (d + 4)) 0 [some (.ref 129), some (.ref s)] m = _
  rw [T_33_0]
  exact L_33 hx hN hF hf rfl hs 4 0 a m (by omega) (by omega) hT ha h0 hS
theorem S_34 (hx : chr tx) (hN : N ≤ 100) {s n : Nat} {f : Int → Int} (hF : StrF s n) (hf : chr f) (hn : n = 3 ∨ n = 4 ∨ n = 6) (hT : TxtC tx N m) (ha : m.1 129 2 = J a) (h0 : 0 ≤ a ∧ a ≤ N) (hS : StrC s n f m) (g : Int → Int) (hg : ∀ c, ixF f c n 0 = g c) (hg1 : g (-1) = -1) : cB Q0 (d + 5) 34 [.ref 129, .ref s] m = some (some (.int (J (g (byt tx N a)))), putP m (if g (byt tx N a) < 0 then a else a + 1)) := by
  rw [cB_eq]
  show rB Q0 34 (cB Q0 (d + 4)) 0 [some (.ref 129), some (.ref s)] m = _
  rw [T_34_0, bX_e, bX_e, ha, hT.1, q2_J (by omega) (by omega) (by omega) (by omega)]
  unfold byt
  by_cases e : N ≤ a
  · rw [if_pos e, if_neg (show ¬ a < N by omega), hg1, if_pos (by omega), putP_self ha]
    rfl
  · have hxa := hx a
    have hix := ixF_in (f := f) (c := tx a) n 0 (by omega)
    rw [hg] at hix
    have hb := byte_at hxa.1 hxa.2
    have n0 : ∀ {α : Type} (x y : α), bT (Q0.1 1 (J (g (tx a))) 0) x y = if g (tx a) < 0 then x else y := fun x y => q1_J (b := 0) (by omega) (by omega) (by omega) (by omega) x y
    rw [if_neg e, bX_e, cB_J (n := 100) h0.1 (by omega) (by omega), bX_e, J_clamp h0.1 (by omega), hT.2 a h0.1 (by omega), if_pos (show a < N by omega), hF.1, cO_J, hb.2.1, S_215 hF hS hf hn hxa, bI_e, hg, n0]
    by_cases e2 : g (tx a) < 0
    · rw [if_pos e2, if_pos e2, putP_self ha]
    · rw [if_neg e2, if_neg e2, bX_e, ha]
      show some (some (Value.int (J (g (tx a)))), (up2 m.1 129 2 (J a + J 1), m.2)) = some (some (Value.int (J (g (tx a)))), putP m (a + 1))
      rw [J_add]
      rfl
theorem L_35 (hx : chr tx) (hN : N ≤ 100) : ∀ (k : Nat) (n a i : Int) (m : SM), 0 ≤ i → i + k = 2 → (-1 ≤ n ∧ n ≤ 99) → (0 < n → (k ≤ 1 ∧ n ≤ 9) ∨ k = 0) → TxtC tx N m → m.1 129 2 = J a → (0 ≤ a ∧ a ≤ N) → rB Q0 35 (cB Q0 (d + 1)) 4 [some (.ref 129), some (.int (J n)), some (.int (J i))] m = some (some (.int (J (numF tx N k n a).2)), putP m (numF tx N k n a).1) := by
  intro k
  induction k with
  | zero =>
    intro n a i m h0 h1 hn hn9 hT ha h2
    obtain rfl : i = 2 := by omega
    rw [T_35_4, show Q0.1 2 2 (J 2) = Q0.1 2 (J 2) (J 2) from rfl, q2_J (by omega) (by omega) (by omega) (by omega), if_pos (by omega)]
    unfold numF
    rw [putP_self ha]
  | succ k ih =>
    intro n a i m h0 h1 hn hn9 hT ha h2
    have en : numF tx N (k + 1) n a = if 48 ≤ byt tx N a ∧ byt tx N a ≤ 57 then numF tx N k ((if 0 < n then n else 0) * 10 + byt tx N a - 48) (a + 1) else (a, n) := rfl
    rw [T_35_4, show Q0.1 2 2 (J i) = Q0.1 2 (J 2) (J i) from rfl, q2_J (by omega) (by omega) (by omega) (by omega), if_neg (by omega), bX_e, bX_e, ha, hT.1, q2_J (by omega) (by omega) (by omega) (by omega), en]
    by_cases e : N ≤ a
    · have hb : byt tx N a = -1 := by unfold byt; rw [if_neg (by omega)]
      rw [if_pos e, hb, if_neg (by omega), putP_self ha]
    · have hxa := hx a
      have hb : byt tx N a = tx a := by unfold byt; rw [if_pos (by omega)]
      have e211 := S_211 (m := m) (d := d) (x := 0) (y := n) (by omega) (by omega) (by omega) (by omega)
      have n0 : ∀ {α : Type} (x y : α), bT (Q0.1 1 (J (tx a)) 48) x y = if tx a < 48 then x else y := fun x y => q1_J (b := 48) (by omega) (by omega) (by omega) (by omega) x y
      have n1 : ∀ {α : Type} (x y : α), bT (Q0.1 1 57 (J (tx a))) x y = if 57 < tx a then x else y := fun x y => q1_J (a := 57) (by omega) (by omega) (by omega) (by omega) x y
      have hcb : ∀ {α : Type} (x y : α), bT (okB Q0 (.inr (1, 100)) (J a)) x y = x := fun x y => cB_J (n := 100) h2.1 (by omega) (by omega) x y
      have hcl : (J a).toNatClampNeg = a.toNat := J_clamp h2.1 (by omega)
      have hta := hT.2 a h2.1 (by omega)
      rw [if_neg e, bX_e, hcb, bX_e, hcl, hta, n0, hb]
      by_cases c1 : tx a < 48
      · rw [if_pos c1, if_neg (by omega), putP_self ha]
      · rw [if_neg c1, bX_e, hcb, bX_e, hcl, hta, n1]
        by_cases c2 : 57 < tx a
        · rw [if_pos c2, if_neg (by omega), putP_self ha]
        · rw [if_neg c2, if_pos (by omega), show cB Q0 (d + 1) 211 [.int 0, .int (J n)] m = _ from e211, bI_e, bX_e, ha, hcb, hcl, bX_e, hta, bX_e, bX_e]
          show rB Q0 35 (cB Q0 (d + 1)) 4 [some (.ref 129), some (.int (J (if 0 < n then n else 0) * J 10 + J (tx a) - J 48)), some (.int (J i + J 1))] (up2 m.1 129 2 (J a + J 1), m.2) = _
          rw [J_mul, J_add, J_sub, J_add, J_add]
          have h := ih ((if 0 < n then n else 0) * 10 + tx a - 48) (a + 1) (i + 1) (putP m (a + 1)) (by omega) (by omega) (by split <;> omega) (by split <;> omega) hT.put (putP_at _ _) (by omega)
          rw [putP_putP] at h
          exact h
theorem S_35 (hx : chr tx) (hN : N ≤ 100) (hT : TxtC tx N m) (ha : m.1 129 2 = J a) (h0 : 0 ≤ a ∧ a ≤ N) : cB Q0 (d + 2) 35 [.ref 129] m = some (some (.int (J (numF tx N 2 (-1) a).2)), putP m (numF tx N 2 (-1) a).1) := by
  rw [cB_eq]
  show rB Q0 35 (cB Q0 (d + 1)) 0 [some (.ref 129)] m = _
  rw [T_35_0]
  exact L_35 (d := d) hx hN 2 (-1) a 0 m (by omega) (by omega) (by omega) (by omega) hT ha h0
theorem th_F {q : Nat} (hq : ∃ t : Nat, t ≤ 5 ∧ q = 141 + 4 * t) : ThF q := by
  obtain ⟨t, h, rfl⟩ := hq
  rcases (show t = 0 ∨ t = 1 ∨ t = 2 ∨ t = 3 ∨ t = 4 ∨ t = 5 by omega) with rfl | rfl | rfl | rfl | rfl | rfl <;> exact ⟨rfl, ⟨rfl, rfl, rfl⟩, rfl, rfl, rfl⟩
/-- a step more -/
theorem S_44 (hF : ThF q) (hq : isQ q) (hP : PS tx N q a st m) {t : Int} : ∃ m', cB Q0 (d + 1) 44 [.ref q, .int (J t)] m = some (none, m') ∧ PS tx N q a (if st.length < 100 then st ++ [t] else st) m' ∧ FrS q m m' := by
  obtain ⟨f1, ⟨f2, f3, f4⟩, f5, f6, f7⟩ := hF
  obtain ⟨h1, h2, h3, ⟨h4, h5, h6⟩, h7⟩ := hP
  unfold isQ at hq
  by_cases c : st.length < 100
  · rw [if_pos c]
    have k1 : Fr (pqK q) m (up2 (up2 m.1 (q + 3) st.length (J t)) q 2 (J ((st.length : Int) + 1)), m.2) := (Fr.put (K := pqK q) (k := q + 3) (by unfold pqK; omega) _ _).tr (Fr.put (K := pqK q) (k := q) (by unfold pqK; omega) _ _)
    have k129 : (up2 (up2 m.1 (q + 3) st.length (J t)) q 2 (J ((st.length : Int) + 1))) 129 = m.1 129 := by rw [u2_ne _ _ (by omega), u2_ne _ _ (by omega)]
    have k130 : (up2 (up2 m.1 (q + 3) st.length (J t)) q 2 (J ((st.length : Int) + 1))) 130 = m.1 130 := by rw [u2_ne _ _ (by omega), u2_ne _ _ (by omega)]
    have ks : (up2 (up2 m.1 (q + 3) st.length (J t)) q 2 (J ((st.length : Int) + 1))) (q + 3) = up2 m.1 (q + 3) st.length (J t) (q + 3) := by rw [u2_ne _ _ (by omega)]
    refine ⟨(up2 (up2 m.1 (q + 3) st.length (J t)) q 2 (J ((st.length : Int) + 1)), m.2), ?_, ⟨⟨?_, fun j g0 g1 => ?_⟩, ?_, h3, ⟨?_, ?_, ?_⟩, h7.fr k1 fun k hk => by unfold pqK; omega⟩, k1, ?_, ?_⟩
    · rw [cB_eq]
      show rB Q0 44 (cB Q0 d) 0 [some (.ref q), some (.int (J t))] m = _
      rw [T_44_0]
      simp only [lits]
      simp (disch := omega) only [kk, lits, q0_J, q1_J, q2_J, cI_J, cT_J, cB_J, cZ_J, cS_J, c1_J, cA_J, J_clamp, u2_at, reduceIte, f1, f4, f7, h4, u2_ne, Int.toNat_natCast]
      rw [if_neg (by omega)]
    · exact (congrFun k129 1).trans h1.1
    · exact (congrFun k130 j.toNat).trans (h1.2 j g0 g1)
    · exact (congrFun k129 2).trans h2
    · show up2 (up2 m.1 (q + 3) st.length (J t)) q 2 (J ((st.length : Int) + 1)) q 2 = _
      rw [u2_at, if_pos rfl]
      simp
    · simp; omega
    · rw [StepsAt.app]
      refine ⟨?_, ?_, trivial⟩
      · have h8 := StepsAt.out (q := q) (m := m) (j := (st.length : Int)) (v := J t) st 0 (by omega) (by omega) h6
        rw [Int.toNat_natCast] at h8
        exact h8.fr3 (m := (up2 m.1 (q + 3) st.length (J t), m.2)) ks _ _
      · show up2 (up2 m.1 (q + 3) st.length (J t)) q 2 (J ((st.length : Int) + 1)) (q + 3) (0 + (st.length : Int)).toNat = J t
        rw [ks, Int.zero_add, Int.toNat_natCast, u2_at, if_pos rfl]
    · show up2 (up2 m.1 (q + 3) st.length (J t)) q 2 (J ((st.length : Int) + 1)) q 0 = _
      rw [u2_at, if_neg (by omega), u2_ne _ _ (by omega)]
    · show up2 (up2 m.1 (q + 3) st.length (J t)) q 2 (J ((st.length : Int) + 1)) q 1 = _
      rw [u2_at, if_neg (by omega), u2_ne _ _ (by omega)]
  · rw [if_neg c]
    refine ⟨m, ?_, ⟨h1, h2, h3, ⟨h4, h5, h6⟩, h7⟩, FrS.rf⟩
    rw [cB_eq]
    show rB Q0 44 (cB Q0 d) 0 [some (.ref q), some (.int (J t))] m = _
    rw [T_44_0]
    simp only [lits]
    simp (disch := omega) only [kk, lits, q0_J, q1_J, q2_J, cI_J, cT_J, cB_J, cZ_J, cS_J, c1_J, cA_J, J_clamp, u2_at, reduceIte, f1, f4, f7, h4]
    rw [if_pos (by omega)]
theorem S_45 {x y z : Int} : cB Q0 (d + 1) 45 [.int (J x), .int (J y), .int (J z)] m = some (some (.int (J ((x * 3 + y) * 100 + z))), m) := by
  rw [cB_eq]
  show rB Q0 45 (cB Q0 d) 0 [some (.int (J x)), some (.int (J y)), some (.int (J z))] m = _
  rw [T_45_0]
  simp only [lits, kk]
/-- a test, as F reads it -/
noncomputable def tlF (cf : Nat → List Value → SM → Rs SM) (a1 : Nat) (m : SM) : Rs SM := bI (cf 34 [.ref 129, .ref 1013] m) fun x2 m1 => bT (Q0.1 2 0 x2) (bI (cf 34 [.ref 129, .ref 1014] m1) fun x4 m3 => bT (Q0.1 2 0 x4) (bI (cf 35 [.ref 129] m3) fun x6 m5 => bT (Q0.1 2 0 x6) (bI (cf 45 [.int x2, .int x4, .int x6] m5) fun x8 m7 => bT (okO (SHt a1) 7) (bV (cf 44 [.ref a1, .int x8] m7) fun m9 => bT (Q0.2.2.2.1 1 1) (some (some (.int 1), m9)) none) none) (bT (Q0.2.2.2.1 1 0) (some (some (.int 0), m5)) none)) (bT (Q0.1 2 0 (-1)) (bI (cf 45 [.int x2, .int x4, .int (-1)] m3) fun x11 m10 => bT (okO (SHt a1) 7) (bV (cf 44 [.ref a1, .int x11] m10) fun m12 => bT (Q0.2.2.2.1 1 1) (some (some (.int 1), m12)) none) none) (bT (Q0.2.2.2.1 1 0) (some (some (.int 0), m3)) none))) (bT (Q0.1 2 0 (-1)) (bI (cf 35 [.ref 129] m1) fun x14 m13 => bT (Q0.1 2 0 x14) (bI (cf 45 [.int x2, .int (-1), .int x14] m13) fun x16 m15 => bT (okO (SHt a1) 7) (bV (cf 44 [.ref a1, .int x16] m15) fun m17 => bT (Q0.2.2.2.1 1 1) (some (some (.int 1), m17)) none) none) (bT (Q0.2.2.2.1 1 0) (some (some (.int 0), m13)) none)) (bT (Q0.1 2 0 (-1)) (bI (cf 45 [.int x2, .int (-1), .int (-1)] m1) fun x19 m18 => bT (okO (SHt a1) 7) (bV (cf 44 [.ref a1, .int x19] m18) fun m20 => bT (Q0.2.2.2.1 1 1) (some (some (.int 1), m20)) none) none) (bT (Q0.2.2.2.1 1 0) (some (some (.int 0), m1)) none)))
theorem T40 (cf : Nat → List Value → SM → Rs SM) (a1 : Nat) (a2 : Int32) (m : SM) : rB Q0 40 cf 0 [some (.ref 129), some (.ref a1), some (.int a2)] m = (bT (Q0.1 2 4 a2) (bT (Q0.1 2 4 a2) (tlF cf a1 m) (bI (cf 32 [.ref 129, .int 40] m) fun x22 m21 => bT (Q0.1 0 x22 0) (tlF cf a1 m21) (bI (cf 38 [.ref 129, .ref a1, .int (a2 + 1)] m21) fun x44 m43 => bT (Q0.1 0 x44 0) (bT (Q0.2.2.2.1 1 0) (some (some (.int 0), m43)) none) (bI (cf 32 [.ref 129, .int 41] m43) fun x46 m45 => bT (Q0.1 0 x46 0) (bT (Q0.2.2.2.1 1 0) (some (some (.int 0), m45)) none) (bT (Q0.2.2.2.1 1 1) (some (some (.int 1), m45)) none))))) (bI (cf 32 [.ref 129, .int 33] m) fun x48 m47 => bT (Q0.1 0 x48 0) (bT (Q0.1 2 4 a2) (tlF cf a1 m47) (bI (cf 32 [.ref 129, .int 40] m47) fun x70 m69 => bT (Q0.1 0 x70 0) (tlF cf a1 m69) (bI (cf 38 [.ref 129, .ref a1, .int (a2 + 1)] m69) fun x92 m91 => bT (Q0.1 0 x92 0) (bT (Q0.2.2.2.1 1 0) (some (some (.int 0), m91)) none) (bI (cf 32 [.ref 129, .int 41] m91) fun x94 m93 => bT (Q0.1 0 x94 0) (bT (Q0.2.2.2.1 1 0) (some (some (.int 0), m93)) none) (bT (Q0.2.2.2.1 1 1) (some (some (.int 1), m93)) none))))) (bI (cf 40 [.ref 129, .ref a1, .int (a2 + 1)] m47) fun x96 m95 => bT (okO (SHt a1) 7) (bV (cf 44 [.ref a1, .int (-1)] m95) fun m97 => bT (Q0.2.2.2.1 1 x96) (some (some (.int x96), m97)) none) none))) := by
  unfold tlF
  exact T_40_0 Q0 cf a1 a2 m
/-- a test -/
theorem S_T (hx : chr tx) (hN : N ≤ 100) (hF : ThF q) (hq : isQ q) (hP : PS tx N q a st m) (hl : st.length ≤ a) : ∃ m', tlF (cB Q0 (d + 5)) q m = some (some (.int (J (rdOk (tstF tx N a)))), m') ∧ After tx N q st m (tstF tx N a) m' := by
  obtain ⟨h1, h2, h3, h4, h7⟩ := id hP
  have p1 := plc_in (byt tx N a)
  have p2 := sgn_in (byt tx N (a + 1))
  have e1 := S_34 (d := d) hx hN sF13 chr13 (by omega) h1 h2 h3 h7.2.2.2.1 plc ix13 rfl
  have n1 : ∀ {α : Type} (x y : α), bT (Q0.1 2 0 (J (plc (byt tx N a)))) x y = if 0 ≤ plc (byt tx N a) then x else y := fun x y => q2_J (a := 0) (by omega) (by omega) (by omega) (by omega) x y
  have n2 : ∀ {α : Type} (x y : α), bT (Q0.1 2 0 (J (sgn (byt tx N (a + 1))))) x y = if 0 ≤ sgn (byt tx N (a + 1)) then x else y := fun x y => q2_J (a := 0) (by omega) (by omega) (by omega) (by omega) x y
  have ng : ∀ (x y : Rs SM), bT (Q0.1 2 0 (-1)) x y = y := fun _ _ => rfl
  unfold tlF
  rw [e1, bI_e, n1]
  unfold tstF
  by_cases c1 : plc (byt tx N a) < 0
  · rw [if_neg (show ¬ 0 ≤ plc (byt tx N a) by omega), if_pos c1, if_pos c1, putP_self h2, ng, ng]
    exact ⟨m, rfl, ⟨st, hP, fun ts e => by simp at e⟩, FrS.rf⟩
  · have l1 : a < N := byt_lt (c := byt tx N a) rfl (p1.2.2 (by omega))
    have hP1 := hP.put hq (b := a + 1) (by omega)
    have k1 : FrS q m (putP m (a + 1)) := FrS.put hq
    have e2 := S_34 (d := d) hx hN sF14 chr14 (by omega) hP1.1 hP1.2.1 hP1.2.2.1 hP1.2.2.2.2.2.2.2.2 sgn ix14 rfl
    rw [if_pos (show 0 ≤ plc (byt tx N a) by omega), if_neg c1, if_neg c1, e2, bI_e, n2, putP_putP]
    by_cases c2 : sgn (byt tx N (a + 1)) < 0
    · rw [if_neg (show ¬ 0 ≤ sgn (byt tx N (a + 1)) by omega), if_pos c2, if_pos c2, ng]
      exact ⟨putP m (a + 1), rfl, ⟨st, hP1, fun ts e => by simp at e⟩, k1⟩
    · have l2 : a + 1 < N := byt_lt (c := byt tx N (a + 1)) rfl (p2.2.2 (by omega))
      have hP2 := hP.put hq (b := a + 1 + 1) (by omega)
      have e3 := S_35 (d := d + 3) hx hN hP2.1 hP2.2.1 hP2.2.2.1
      have p3 := num2 (tx := tx) (N := N) (a + 2)
      have p4 := numF_in (tx := tx) (N := N) 2 (-1) (a + 2) (by omega)
      rw [show a + 1 + 1 = a + 2 by omega] at e3
      have n3 : ∀ {α : Type} (x y : α), bT (Q0.1 2 0 (J (numF tx N 2 (-1) (a + 2)).2)) x y = if 0 ≤ (numF tx N 2 (-1) (a + 2)).2 then x else y := fun x y => q2_J (a := 0) (by omega) (by omega) (by omega) (by omega) x y
      have hP3 := hP.put hq (b := (numF tx N 2 (-1) (a + 2)).1) (by omega)
      have k3 : FrS q m (putP m (numF tx N 2 (-1) (a + 2)).1) := FrS.put hq
      rw [if_pos (show 0 ≤ sgn (byt tx N (a + 1)) by omega), if_neg c2, if_neg c2, show a + 1 + 1 = a + 2 by omega, e3, bI_e, n3, putP_putP]
      by_cases c3 : (numF tx N 2 (-1) (a + 2)).2 < 0
      · rw [if_neg (show ¬ 0 ≤ (numF tx N 2 (-1) (a + 2)).2 by omega), if_pos c3]
        exact ⟨_, rfl, ⟨st, hP3, fun ts e => by simp at e⟩, k3⟩
      · obtain ⟨m4, r1, r2, r3⟩ := S_44 (d := d + 4) hF hq hP3 (t := (plc (byt tx N a) * 3 + sgn (byt tx N (a + 1))) * 100 + (numF tx N 2 (-1) (a + 2)).2)
        rw [if_pos (show st.length < 100 by omega)] at r2
        rw [if_pos (show 0 ≤ (numF tx N 2 (-1) (a + 2)).2 by omega), if_neg c3, S_45, bI_e, hF.1, cO_J, r1, bV_e]
        exact ⟨m4, rfl, ⟨_, r2, fun ts e => by rw [Option.some.inj e]⟩, k3.tr r3⟩
end
