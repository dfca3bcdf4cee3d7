/-! THE TEXT read by the reference: bytes, words, numbers, what waits -/
def TxtN (tx : Int → Int) (N : Int) (m : SM) : Prop := m.1 177 16 = J N ∧ ∀ j : Int, 0 ≤ j → j < N → m.1 188 j.toNat = J (tx j)
def LetN (m : SM) : Prop := ∀ i : Int, 0 ≤ i → i < 4 → m.1 196 i.toNat = J (f10 i) ∧ m.1 196 (4 + i).toNat = J (f11 i) ∧ m.1 196 (8 + i).toNat = J (f12 i)
def RS (tx : Int → Int) (N a : Int) (m : SM) : Prop := TxtN tx N m ∧ m.1 177 17 = J a ∧ (0 ≤ a ∧ a ≤ N) ∧ LetN m
def nK : Nat → Prop := fun _ => False
def atI : Nat → Prop := fun i => i = 17
def gI : Nat → Prop := fun i => i = 17 ∨ i = 18
theorem RS.mv {tx : Int → Int} {N a b : Int} {m m' : SM} {K KI : Nat → Prop} (h : RS tx N a m) (hF : FrR K KI m m') (hb : m'.1 177 17 = J b) (hb2 : 0 ≤ b ∧ b ≤ N) (hK : ¬ K 188 ∧ ¬ K 196) (hI : ¬ KI 16) : RS tx N b m' := by
  refine ⟨⟨by rw [hF.2.1 16 hI]; exact h.1.1, fun j g0 g1 => by rw [hF.1 188 hK.1 (by omega)]; exact h.1.2 j g0 g1⟩, hb, hb2, fun i g0 g1 => ?_⟩
  rw [hF.1 196 hK.2 (by omega)]
  exact h.2.2.2 i g0 g1
section
variable {tx : Int → Int} {N : Int} {a : Int} {m : SM} {d : Nat}
theorem S_128 (hx : chr tx) (hN : N ≤ 100) (hR : RS tx N a m) : cB Q0 (d + 1) 128 [.ref 177] m = some (some (.int (J (byt tx N a))), m) := by
  obtain ⟨hT, ha, h0, -⟩ := hR
  rw [cB_eq]
  show rB Q0 128 (cB Q0 d) 0 [some (.ref 177)] m = _
  rw [T_128_0, bX_e, bX_e, ha, hT.1, q2_J (by omega) (by omega) (by omega) (by omega)]
  unfold byt
  by_cases e : N ≤ a
  · rw [if_pos e, if_neg (by omega)]
    rfl
  · rw [if_neg e, if_pos (by omega), bX_e, cI_J (n := 100) h0.1 (by omega) (by omega), bX_e, J_clamp h0.1 (by omega), hT.2 a h0.1 (by omega)]
theorem S_129 (hx : chr tx) (hN : N ≤ 100) (hR : RS tx N a m) {c : Int} (hc : 0 ≤ c ∧ c ≤ 127) : ∃ m', cB Q0 (d + 2) 129 [.ref 177, .int (J c)] m = some (some (.int (bi (byt tx N a = c))), m') ∧ RS tx N (if byt tx N a = c then a + 1 else a) m' ∧ FrR nK atI m m' := by
  have hb := byt_in (tx := tx) (N := N) hx a
  have h0 := hR.2.2.1
  have ha := hR.2.1
  rw [cB_eq]
  show ∃ m', rB Q0 129 (cB Q0 (d + 1)) 0 [some (.ref 177), some (.int (J c))] m = _ ∧ _
  rw [T_129_0, S_128 hx hN hR, bI_e, q0_J (by omega) (by omega) (by omega) (by omega)]
  unfold bi
  by_cases e : byt tx N a = c
  · have hl : a < N := byt_lt e hc.1
    have hF : FrR nK atI m (up2 m.1 177 17 (J (a + 1)), m.2) := FrR.put7 (KI := atI) (i := 17) rfl _
    rw [if_pos e, if_pos e, if_pos e, bX_e, ha, bX_e, nr_1, show J a + 1 = J (a + 1) from J_add a 1]
    refine ⟨_, rfl, hR.mv hF ?_ (by omega) ⟨fun z => z, fun z => z⟩ (by unfold atI; omega), hF⟩
    show up2 m.1 177 17 (J (a + 1)) 177 17 = _
    rw [u2_at, if_pos rfl]
  · rw [if_neg e, if_neg e, if_neg e, nr_0]
    exact ⟨m, rfl, hR, FrR.rf⟩
theorem L_130 (hx : chr tx) (hN : N ≤ 100) {s : Int} {f : Int → Int} (hf : chr f) (hs : 0 ≤ s ∧ s ≤ 8) (hL : ∀ m : SM, LetN m → ∀ i : Int, 0 ≤ i → i < 4 → m.1 196 (s + i).toNat = J (f i)) : ∀ (k : Nat) (i a : Int) (m : SM), 0 ≤ i → i + k = 4 → RS tx N a m → ∃ m', rB Q0 130 (cB Q0 (d + 2)) 2 [some (.ref 177), some (.int (J s)), some (.int (J 4)), some (.int (J i))] m = some (some (.int (bi ((wrdF tx N f k i a).2 = true))), m') ∧ RS tx N (wrdF tx N f k i a).1 m' ∧ FrR nK atI m m' := by
  intro k
  induction k with
  | zero =>
    intro i a m h0 h1 hR
    obtain ⟨m1, q1, q2, q3⟩ := S_129 (d := d) hx hN hR (c := 32) (by omega)
    rw [T_130_2, q2_J (by omega) (by omega) (by omega) (by omega), if_pos (by omega), show cB Q0 (d + 2) 129 [.ref 177, .int 32] m = _ from q1, bI_e, nr_bi]
    unfold wrdF
    by_cases e : byt tx N a = 32
    · rw [if_pos e] at q2 ⊢
      refine ⟨m1, ?_, q2, q3⟩
      unfold bi
      rw [if_pos e, if_pos rfl]
    · rw [if_neg e] at q2 ⊢
      refine ⟨m1, ?_, q2, q3⟩
      unfold bi
      rw [if_neg e, if_neg (by simp)]
  | succ k ih =>
    intro i a m h0 h1 hR
    obtain ⟨m1, q1, q2, q3⟩ := S_129 (d := d) hx hN hR (c := f i) (hf i)
    have hi := hL m hR.2.2.2 i h0 (by omega)
    have ew : wrdF tx N f (k + 1) i a = if byt tx N a = f i then wrdF tx N f k (i + 1) (a + 1) else (a, false) := rfl
    rw [T_130_2, q2_J (by omega) (by omega) (by omega) (by omega), if_neg (by omega), J_add, cI_J (n := 12) (by omega) (by omega) (by omega), bX_e, J_clamp (a := s + i) (by omega) (by omega), hi, q1, bI_e, nz_bi, ew]
    by_cases e : byt tx N a = f i
    · rw [if_pos e] at q2
      obtain ⟨m2, r1, r2, r3⟩ := ih (i + 1) (a + 1) m1 (by omega) (by omega) q2
      rw [if_pos e, if_pos e, show J i + 1 = J (i + 1) from J_add i 1]
      exact ⟨m2, r1, r2, q3.tr r3⟩
    · rw [if_neg e] at q2
      rw [if_neg e, if_neg e, nr_0]
      refine ⟨m1, ?_, q2, q3⟩
      unfold bi
      rw [if_neg (by simp)]
theorem S_130 (hx : chr tx) (hN : N ≤ 100) {s : Int} {f : Int → Int} (hf : chr f) (hs : 0 ≤ s ∧ s ≤ 8) (hL : ∀ m : SM, LetN m → ∀ i : Int, 0 ≤ i → i < 4 → m.1 196 (s + i).toNat = J (f i)) (hR : RS tx N a m) : ∃ m', cB Q0 (d + 3) 130 [.ref 177, .int (J s), .int (J 4)] m = some (some (.int (bi ((wrdF tx N f 4 0 a).2 = true))), m') ∧ RS tx N (wrdF tx N f 4 0 a).1 m' ∧ FrR nK atI m m' := by
  obtain ⟨m', q1, q2⟩ := L_130 (d := d) hx hN hf hs hL 4 0 a m (by omega) (by omega) hR
  refine ⟨m', ?_, q2⟩
  rw [cB_eq]
  show rB Q0 130 (cB Q0 (d + 2)) 0 [some (.ref 177), some (.int (J s)), some (.int (J 4))] m = _
  rw [T_130_0]
  exact q1
theorem S_131 (hx : chr tx) (hN : N ≤ 100) (hR : RS tx N a m) : cB Q0 (d + 2) 131 [.ref 177] m = some (some (.int (bi (48 ≤ byt tx N a ∧ byt tx N a ≤ 57))), m) := by
  have hb := byt_in (tx := tx) (N := N) hx a
  have e := S_109 (m := m) (d := d) (n := byt tx N a) (by omega) (by omega) (show -2147483648 ≤ (48 : Int) by omega) (by omega) (show -2147483648 ≤ (57 : Int) by omega) (by omega)
  rw [cB_eq]
  show rB Q0 131 (cB Q0 (d + 1)) 0 [some (.ref 177)] m = _
  rw [T_131_0, S_128 hx hN hR, bI_e, show cB Q0 (d + 1) 109 [.ref 177, .int (J (byt tx N a)), .int 48, .int 57] m = _ from e, bI_e, nr_bi]
theorem L_132 (hx : chr tx) (hN : N ≤ 100) : ∀ (k : Nat) (n a i : Int) (m : SM), 0 ≤ i → i + k = 2 → (0 ≤ n ∧ n ≤ 99) → (0 < n → (k ≤ 1 ∧ n ≤ 9) ∨ k = 0) → RS tx N a m → m.1 177 18 = J n → ∃ m', rB Q0 132 (cB Q0 (d + 2)) 16 [some (.ref 177), some (.int (J i))] m = some (some (.int 1), m') ∧ RS tx N (numF tx N k n a).1 m' ∧ m'.1 177 18 = J (numF tx N k n a).2 ∧ FrR nK gI m m' := by
  intro k
  induction k with
  | zero =>
    intro n a i m h0 h1 hn hn9 hR h18
    obtain rfl : i = 2 := by omega
    rw [T_132_16, show Q0.1 2 2 (J 2) = Q0.1 2 (J 2) (J 2) from rfl, q2_J (by omega) (by omega) (by omega) (by omega), if_pos (by omega), nr_1]
    exact ⟨m, rfl, hR, h18, FrR.rf⟩
  | succ k ih =>
    intro n a i m h0 h1 hn hn9 hR h18
    have hb := byt_in (tx := tx) (N := N) hx a
    have h00 := hR.2.2.1
    have en : numF tx N (k + 1) n a = if 48 ≤ byt tx N a ∧ byt tx N a ≤ 57 then numF tx N k ((if 0 < n then n else 0) * 10 + byt tx N a - 48) (a + 1) else (a, n) := rfl
    have e0 : (if 0 < n then n else 0) = n := by split <;> omega
    rw [T_132_16, show Q0.1 2 2 (J i) = Q0.1 2 (J 2) (J i) from rfl, q2_J (by omega) (by omega) (by omega) (by omega), if_neg (by omega), S_131 hx hN hR, bI_e, nz_bi, en, e0]
    by_cases c : 48 ≤ byt tx N a ∧ byt tx N a ≤ 57
    · have hl : a < N := byt_lt (c := byt tx N a) rfl (by omega)
      generalize hm1 : ((up2 (up2 m.1 177 18 (J (n * 10 + byt tx N a - 48))) 177 17 (J (a + 1)), m.2) : SM) = m1
      have hF : FrR nK gI m m1 := by
        rw [← hm1]
        exact (FrR.put7 (KI := gI) (i := 18) (by unfold gI; omega) _).tr (FrR.put7 (KI := gI) (i := 17) (by unfold gI; omega) _)
      have h17 : m1.1 177 17 = J (a + 1) := by rw [← hm1]; show up2 (up2 m.1 177 18 (J (n * 10 + byt tx N a - 48))) 177 17 (J (a + 1)) 177 17 = _; rw [u2_at, if_pos rfl]
      have h18' : m1.1 177 18 = J (n * 10 + byt tx N a - 48) := by rw [← hm1]; show up2 (up2 m.1 177 18 (J (n * 10 + byt tx N a - 48))) 177 17 (J (a + 1)) 177 18 = _; rw [u2_at, if_neg (by omega), u2_at, if_pos rfl]
      obtain ⟨m2, r1, r2, r3, r4⟩ := ih (n * 10 + byt tx N a - 48) (a + 1) (i + 1) m1 (by omega) (by omega) (by omega) (by omega) (hR.mv hF h17 (by omega) ⟨fun z => z, fun z => z⟩ (by unfold gI; omega)) h18'
      rw [if_pos c, if_pos c, bX_e, h18, show cB Q0 (d + 2) 128 [.ref 177] m = _ from S_128 (d := d + 1) hx hN hR, bI_e, bX_e, bX_e]
      refine ⟨m2, ?_, r2, r3, hF.tr r4⟩
      rw [← r1, ← hm1]
      show rB Q0 132 (cB Q0 (d + 2)) 16 [some (.ref 177), some (.int (J i + J 1))] (up2 (up2 m.1 177 18 (J 10 * J n + J (byt tx N a) - J 48)) 177 17 (up2 m.1 177 18 (J 10 * J n + J (byt tx N a) - J 48) 177 17 + J 1), m.2) = _
      rw [u2_at, if_neg (show ¬ (17 : Nat) = 18 by omega), hR.2.1, J_mul, J_add (10 * n), J_sub, J_add a, J_add i, show 10 * n = n * 10 by omega]
    · rw [if_neg c, if_neg c, nr_1]
      exact ⟨m, rfl, hR, h18, FrR.rf⟩
theorem S_132 (hx : chr tx) (hN : N ≤ 100) (hR : RS tx N a m) : ∃ m', cB Q0 (d + 3) 132 [.ref 177] m = some (some (.int (bi (0 ≤ (numF tx N 2 (-1) a).2))), m') ∧ RS tx N (numF tx N 2 (-1) a).1 m' ∧ (0 ≤ (numF tx N 2 (-1) a).2 → m'.1 177 18 = J (numF tx N 2 (-1) a).2) ∧ FrR nK gI m m' := by
  have hb := byt_in (tx := tx) (N := N) hx a
  have en : ∀ n : Int, numF tx N 2 n a = if 48 ≤ byt tx N a ∧ byt tx N a ≤ 57 then numF tx N 1 ((if 0 < n then n else 0) * 10 + byt tx N a - 48) (a + 1) else (a, n) := fun _ => rfl
  rw [cB_eq]
  show ∃ m', rB Q0 132 (cB Q0 (d + 2)) 0 [some (.ref 177)] m = _ ∧ _
  rw [T_132_0, S_131 hx hN hR, bI_e, nz_bi]
  by_cases c : 48 ≤ byt tx N a ∧ byt tx N a ≤ 57
  · have hF : FrR nK gI m (up2 m.1 177 18 (J 0), m.2) := FrR.put7 (KI := gI) (i := 18) (by unfold gI; omega) _
    obtain ⟨m2, r1, r2, r3, r4⟩ := L_132 (d := d) hx hN 2 0 a 0 (up2 m.1 177 18 (J 0), m.2) (by omega) (by omega) (by omega) (by omega) (hR.mv hF (by show up2 m.1 177 18 (J 0) 177 17 = _; rw [u2_at, if_neg (by omega)]; exact hR.2.1) hR.2.2.1 ⟨fun z => z, fun z => z⟩ (by unfold gI; omega)) (by show up2 m.1 177 18 (J 0) 177 18 = _; rw [u2_at, if_pos rfl])
    have e2 : numF tx N 2 (-1) a = numF tx N 2 0 a := by
      rw [en, en, if_pos c, if_pos c]
      rfl
    have h2 : 0 ≤ (numF tx N 2 (-1) a).2 := by
      have := num2 (tx := tx) (N := N) a
      rw [en, if_pos c]
      have en1 : ∀ n : Int, numF tx N 1 n (a + 1) = if 48 ≤ byt tx N (a + 1) ∧ byt tx N (a + 1) ≤ 57 then ((a + 1 + 1), (if 0 < n then n else 0) * 10 + byt tx N (a + 1) - 48) else (a + 1, n) := fun _ => rfl
      rw [en1, if_neg (show ¬ (0 : Int) < -1 by omega)]
      split
      · simp only
        split <;> omega
      · simp only
        omega
    rw [if_pos c, bX_e]
    refine ⟨m2, ?_, by rw [e2]; exact r2, fun _ => by rw [e2]; exact r3, hF.tr r4⟩
    unfold bi
    rw [if_pos h2]
    exact r1
  · have e2 : numF tx N 2 (-1) a = (a, -1) := by rw [en, if_neg c]
    rw [if_neg c, e2, nr_0]
    refine ⟨m, ?_, hR, fun z => absurd z (by simp), FrR.rf⟩
    unfold bi
    rw [if_neg (by simp)]
theorem S_136 {c : Int} (hc : -1 ≤ c ∧ c ≤ 127) : cB Q0 (d + 1) 136 [.ref 177, .int (J c)] m = some (some (.int (J (plc c))), m) := by
  have nk : ∀ (k : Int) {α : Type} (x y : α), 0 ≤ k → k ≤ 127 → bT (Q0.1 0 (J c) (J k)) x y = if c = k then x else y := fun k α x y z0 z1 => q0_J (by omega) (by omega) (by omega) (by omega) x y
  rw [cB_eq]
  show rB Q0 136 (cB Q0 d) 0 [some (.ref 177), some (.int (J c))] m = _
  rw [T_136_0, show (99 : Int32) = J 99 from rfl, show (107 : Int32) = J 107 from rfl, show (108 : Int32) = J 108 from rfl, show (110 : Int32) = J 110 from rfl, show (112 : Int32) = J 112 from rfl, show (118 : Int32) = J 118 from rfl, nk 99 _ _ (by omega) (by omega), nk 107 _ _ (by omega) (by omega), nk 108 _ _ (by omega) (by omega), nk 110 _ _ (by omega) (by omega), nk 112 _ _ (by omega) (by omega), nk 118 _ _ (by omega) (by omega)]
  unfold plc
  by_cases c1 : c = 99
  · rw [if_pos c1, if_neg (by omega), if_neg (by omega), if_neg (by omega), if_pos c1]; rfl
  · rw [if_neg c1]
    by_cases c2 : c = 107
    · rw [if_pos c2, if_neg (by omega), if_pos c2]; rfl
    · rw [if_neg c2]
      by_cases c3 : c = 108
      · rw [if_pos c3, if_neg (by omega), if_neg (by omega), if_neg (by omega), if_neg (by omega), if_pos c3]; rfl
      · rw [if_neg c3]
        by_cases c4 : c = 110
        · rw [if_pos c4, if_neg (by omega), if_neg (by omega), if_neg (by omega), if_neg (by omega), if_neg (by omega), if_pos c4]; rfl
        · rw [if_neg c4]
          by_cases c5 : c = 112
          · rw [if_pos c5, if_pos c5]; rfl
          · rw [if_neg c5, if_neg c5]
            by_cases c6 : c = 118
            · rw [if_pos c6, if_neg c2, if_pos c6]; rfl
            · rw [if_neg c6, if_neg c2, if_neg c6, if_neg c1, if_neg c3, if_neg c4]; rfl
end
