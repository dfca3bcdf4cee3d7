/-! What waits is settled; a test -/
section
variable {tx : Int → Int} {N : Int} {f a : Int} {W em : List Int} {m : SM} {d : Nat}
theorem S_135 (hN : N ≤ 100) {s : Int} (hs : s = 38 ∨ s = 124) : ∀ (W em : List Int) (m : SM), YS tx N f a W em m → ∃ m', rB Q0 135 (cB Q0 (d + 1)) 0 [some (.ref 177), some (.int (J s))] m = some (none, m') ∧ YS tx N f a (setW s W) (em ++ setE s W) m' ∧ FrV f m m' := by
  intro W
  induction W with
  | nil =>
    intro em m hY
    refine ⟨m, ?_, by simpa [setW, setE] using hY, FrV.rf⟩
    rw [T_135_0, bX_e, hY.2.1.1]
    rfl
  | cons x W ih =>
    intro em m hY
    have hl := hY.2.2.2.2.1
    have ha := hY.1.2.2.1
    have ho := opn_in W
    have hxr : x = 33 ∨ x = 40 ∨ x = 38 ∨ x = 124 := hY.2.1.2.2.1
    have h28 : m.1 177 28 = J ((W.length : Int) + 1) := by
      have := hY.2.1.1
      simpa using this
    have h195 : m.1 195 W.length = J x := hY.2.1.2.1.1
    simp only [List.length_cons] at hl
    have n0 : ∀ {α : Type} (u v : α), bT (Q0.1 2 (J ((W.length : Int) + 1)) 0) u v = if (W.length : Int) + 1 ≤ 0 then u else v := fun u v => q2_J (b := 0) (by omega) (by omega) (by omega) (by omega) u v
    have n38 : ∀ {α : Type} (u v : α), bT (Q0.1 0 (J x) 38) u v = if x = 38 then u else v := fun u v => q0_J (b := 38) (by omega) (by omega) (by omega) (by omega) u v
    have n124 : ∀ {α : Type} (u v : α), bT (Q0.1 0 (J x) 124) u v = if x = 124 then u else v := fun u v => q0_J (b := 124) (by omega) (by omega) (by omega) (by omega) u v
    have s38 : ∀ {α : Type} (u v : α), bT (Q0.1 0 (J s) 38) u v = if s = 38 then u else v := fun u v => q0_J (b := 38) (by omega) (by omega) (by omega) (by omega) u v
    have hm1 : (J ((W.length : Int) + 1) - 1 : Int32) = J (W.length : Int) := by
      rw [show (1 : Int32) = J 1 from rfl, J_sub, show (W.length : Int) + 1 - 1 = W.length by omega]
    have okc : ∀ {α : Type} (u v : α), bT (okI Q0 (.inr (0, 101)) (J (W.length : Int))) u v = u := fun u v => cI_J (n := 101) (by omega) (by omega) (by omega) u v
    have hcl : (J (W.length : Int)).toNatClampNeg = W.length := by
      rw [J_clamp (by omega) (by omega)]
      exact Int.toNat_natCast _
    have step : x = 38 ∨ x = 124 → ∀ t : Int, rco t = -x → ∃ m6, (bX ((up2 m.1 177 28 (J (W.length : Int)), m.2) : SM) fun m5 => bX (m5.1 177 28) fun z6 => bT (okI Q0 (.inr (0, 101)) z6) (bX (m5.1 195 (Int32.toNatClampNeg z6)) fun z7 => bV (cB Q0 (d + 1) 133 [.ref 177, .int (-z7)] m5) fun m8 => rB Q0 135 (cB Q0 (d + 1)) 0 [some (.ref 177), some (.int (J s))] m8) none) = some (none, m6) ∧ YS tx N f a (setW s W) (em ++ [t] ++ setE s W) m6 ∧ FrV f m m6 := by
      intro hx2 t ht
      generalize hm5 : ((up2 m.1 177 28 (J (W.length : Int)), m.2) : SM) = m5
      have h4 := hY.2.2.1
      have hop : opn (x :: W) = opn W := by
        show (if x = 33 ∨ x = 40 then 1 else 0) + opn W = _
        rw [if_neg (by omega), Int.zero_add]
      have i5 : ∀ i, i ≠ 28 → m5.1 177 i = m.1 177 i := fun i z => by rw [← hm5]; show up2 m.1 177 28 (J (W.length : Int)) 177 i = _; rw [u2_at, if_neg z]
      have k5 : ∀ k, k ≠ 177 → m5.1 k = m.1 k := fun k z => by rw [← hm5]; show up2 m.1 177 28 (J (W.length : Int)) k = _; rw [u2_ne _ _ z]
      have g28 : m5.1 177 28 = J (W.length : Int) := by rw [← hm5]; show up2 m.1 177 28 (J (W.length : Int)) 177 28 = _; rw [u2_at, if_pos rfl]
      obtain ⟨hY5, f5⟩ := popY (m' := m5) hY _ rfl g28 (by rw [i5 29 (by omega), h4, hop]) k5 (fun i z z2 => i5 i z) (by rw [← hm5])
      obtain ⟨m6, q1, q2, q3⟩ := emit (d := d) (t := t) (x := -(J x)) hY5 hN (by rw [ht, J_neg]) (by omega)
      obtain ⟨m7, r1, r2, r3⟩ := ih (em ++ [t]) m6 q2
      rw [bX_e, bX_e, g28, okc, hcl, bX_e, k5 195 (by omega), h195, q1, bV_e]
      exact ⟨m7, r1, r2, (f5.tr q3).tr r3⟩
    rw [T_135_0, bX_e, h28, n0, if_neg (by omega), bX_e, hm1, okc, bX_e, hcl, h195, n38]
    by_cases c : x = 38
    · obtain ⟨m6, q1, q2, q3⟩ := step (Or.inl c) (-2) (by rw [c]; rfl)
      rw [if_pos c, bX_e, hm1]
      refine ⟨m6, q1, ?_, q3⟩
      show YS tx N f a (if x = 38 then setW s W else _) (em ++ if x = 38 then -2 :: setE s W else _) m6
      rw [if_pos c, if_pos c]
      rw [List.append_assoc] at q2
      exact q2
    · rw [if_neg c, bX_e, hm1, okc, bX_e, hcl, h195, n124]
      by_cases c2 : x = 124
      · rw [if_pos c2, s38]
        by_cases c3 : s = 38
        · rw [if_pos c3]
          refine ⟨m, rfl, ?_, FrV.rf⟩
          show YS tx N f a (if x = 38 then setW s W else if x = 124 ∧ s ≠ 38 then setW s W else x :: W) (em ++ if x = 38 then -2 :: setE s W else if x = 124 ∧ s ≠ 38 then -3 :: setE s W else []) m
          rw [if_neg c, if_neg c, if_neg (fun z => z.2 c3), if_neg (fun z => z.2 c3), List.append_nil]
          exact hY
        · obtain ⟨m6, q1, q2, q3⟩ := step (Or.inr c2) (-3) (by rw [c2]; rfl)
          rw [if_neg c3, bX_e, hm1]
          refine ⟨m6, q1, ?_, q3⟩
          show YS tx N f a (if x = 38 then setW s W else if x = 124 ∧ s ≠ 38 then setW s W else x :: W) (em ++ if x = 38 then -2 :: setE s W else if x = 124 ∧ s ≠ 38 then -3 :: setE s W else []) m6
          rw [if_neg c, if_neg c, if_pos ⟨c2, c3⟩, if_pos ⟨c2, c3⟩]
          rw [List.append_assoc] at q2
          exact q2
      · rw [if_neg c2]
        refine ⟨m, rfl, ?_, FrV.rf⟩
        show YS tx N f a (if x = 38 then setW s W else if x = 124 ∧ s ≠ 38 then setW s W else x :: W) (em ++ if x = 38 then -2 :: setE s W else if x = 124 ∧ s ≠ 38 then -3 :: setE s W else []) m
        rw [if_neg c, if_neg c, if_neg (fun z => c2 z.1), if_neg (fun z => c2 z.1), List.append_nil]
        exact hY
theorem YS.mv {a' : Int} (hY : YS tx N f a W em m) {m' : SM} (h : FrR nK gI m m') (hR : RS tx N a' m') (h2 : a ≤ a') : YS tx N f a' W em m' := by
  obtain ⟨h1, ⟨h2', h3, h3'⟩, h4, ⟨h5, h6⟩, h7, h8⟩ := hY
  exact ⟨hR, ⟨by rw [h.2.1 28 (by unfold gI; omega)]; exact h2', h3.fr (h.1 195 (fun z => z) (by omega)), h3'⟩, by rw [h.2.1 29 (by unfold gI; omega)]; exact h4, ⟨by rw [h.2.1 27 (by unfold gI; omega)]; exact h5, h6.fr4 (h.1 194 (fun z => z) (by omega)) _ _⟩, by omega, h8⟩
theorem gy {m' : SM} (h : FrR nK gI m m') : FrV f m m' := ⟨h.mono (fun _ z => z.elim) fun i z => by unfold gI at z; unfold yI; omega, fun i _ => by rw [h.1 194 (fun z => z) (by omega)]⟩
theorem py {m' : SM} (h : FrR nK atI m m') : FrR nK gI m m' := h.mono (fun _ z => z) fun i z => by unfold atI at z; unfold gI; omega
theorem rco_t {l s n : Int} (hl : 0 ≤ l ∧ l ≤ 5) (hs : 0 ≤ s ∧ s ≤ 2) (hn : 0 ≤ n ∧ n ≤ 99) : rco ((l * 3 + s) * 100 + n) = 1000 * l + 100 * s + n := by
  unfold rco
  rw [if_neg (by omega), if_neg (by omega), if_neg (by omega)]
  omega
/-- a test -/
theorem S_137 (hx : chr tx) (hN : N ≤ 100) (hY : YS tx N f a W em m) : ((tstF tx N a).2 = none ∧ ∃ m', cB Q0 (d + 4) 137 [.ref 177] m = some (some (.int 0), m') ∧ RS tx N (tstF tx N a).1 m' ∧ FrV f m m') ∨ ∃ ts m', (tstF tx N a).2 = some ts ∧ cB Q0 (d + 4) 137 [.ref 177] m = some (some (.int 1), m') ∧ YS tx N f (tstF tx N a).1 (dropB W) (em ++ ts ++ nots W) m' ∧ FrV f m m' := by
  have hR := hY.1
  have ha := hR.2.2.1
  have hl := hY.2.2.2.2
  have hb := byt_in (tx := tx) (N := N) hx a
  have p1 := plc_in (byt tx N a)
  have p2 := sgn_in (byt tx N (a + 1))
  have n1 : ∀ {α : Type} (u v : α), bT (Q0.1 2 0 (J (plc (byt tx N a)))) u v = if 0 ≤ plc (byt tx N a) then u else v := fun u v => q2_J (a := 0) (by omega) (by omega) (by omega) (by omega) u v
  have e : cB Q0 (d + 4) 137 [.ref 177] m = rB Q0 137 (cB Q0 (d + 3)) 0 [some (.ref 177)] m := by rw [cB_eq]; rfl
  rw [e, T_137_0, show cB Q0 (d + 3) 128 [.ref 177] m = _ from S_128 (d := d + 2) hx hN hR, bI_e, show cB Q0 (d + 3) 136 [.ref 177, .int (J (byt tx N a))] m = _ from S_136 (d := d + 2) hb, bI_e, n1]
  unfold tstF
  by_cases c1 : plc (byt tx N a) < 0
  · rw [if_neg (show ¬ 0 ≤ plc (byt tx N a) by omega), if_pos c1, nr_0]
    exact Or.inl ⟨rfl, m, rfl, hR, FrV.rf⟩
  · have l1 : a < N := byt_lt (c := byt tx N a) rfl (p1.2.2 (by omega))
    have hb1 := byt_in (tx := tx) (N := N) hx (a + 1)
    generalize hm1 : ((up2 m.1 177 17 (J (a + 1)), m.2) : SM) = m1
    have f1 : FrR nK gI m m1 := by rw [← hm1]; exact FrR.put7 (KI := gI) (i := 17) (by unfold gI; omega) _
    have h17 : m1.1 177 17 = J (a + 1) := by rw [← hm1]; show up2 m.1 177 17 (J (a + 1)) 177 17 = _; rw [u2_at, if_pos rfl]
    have hR1 : RS tx N (a + 1) m1 := hR.mv f1 h17 (by omega) ⟨fun z => z, fun z => z⟩ (by unfold gI; omega)
    have e2 := S_109 (m := m1) (d := d + 2) (n := byt tx N (a + 1)) (by omega) (by omega) (show -2147483648 ≤ (60 : Int) by omega) (by omega) (show -2147483648 ≤ (62 : Int) by omega) (by omega)
    rw [if_pos (show 0 ≤ plc (byt tx N a) by omega), if_neg c1, bX_e, hR.2.1, bX_e, show J a + 1 = J (a + 1) from J_add a 1, hm1, show cB Q0 (d + 3) 128 [.ref 177] m1 = _ from S_128 (d := d + 2) hx hN hR1, bI_e, show cB Q0 (d + 3) 109 [.ref 177, .int (J (byt tx N (a + 1))), .int 60, .int 62] m1 = _ from e2, bI_e, nz_bi]
    have hsg : (sgn (byt tx N (a + 1)) < 0) = ¬ (60 ≤ byt tx N (a + 1) ∧ byt tx N (a + 1) ≤ 62) := by
      apply propext
      unfold sgn
      (repeat' split) <;> omega
    have hsv : 60 ≤ byt tx N (a + 1) ∧ byt tx N (a + 1) ≤ 62 → sgn (byt tx N (a + 1)) = byt tx N (a + 1) - 60 := fun z => by
      unfold sgn
      (repeat' split) <;> omega
    by_cases c2 : 60 ≤ byt tx N (a + 1) ∧ byt tx N (a + 1) ≤ 62
    · have l2 : a + 1 < N := byt_lt (c := byt tx N (a + 1)) rfl (by omega)
      generalize hm2 : ((up2 m1.1 177 17 (J (a + 2)), m1.2) : SM) = m2
      have f2 : FrR nK gI m1 m2 := by rw [← hm2]; exact FrR.put7 (KI := gI) (i := 17) (by unfold gI; omega) _
      have h17' : m2.1 177 17 = J (a + 2) := by rw [← hm2]; show up2 m1.1 177 17 (J (a + 2)) 177 17 = _; rw [u2_at, if_pos rfl]
      have hR2 : RS tx N (a + 2) m2 := hR1.mv f2 h17' (by omega) ⟨fun z => z, fun z => z⟩ (by unfold gI; omega)
      obtain ⟨m3, q1, q2, q3, q4⟩ := S_132 (d := d) hx hN hR2
      have hni := numF_in (tx := tx) (N := N) 2 (-1) (a + 2) (by omega)
      have hn2 := num2 (tx := tx) (N := N) (a + 2)
      rw [if_pos c2, if_neg (show ¬ sgn (byt tx N (a + 1)) < 0 by rw [hsg]; exact fun z => z c2), bX_e, hR1.2.1, bX_e, show J (a + 1) + 1 = J (a + 2) from by rw [show (1 : Int32) = J 1 from rfl, J_add, show a + 1 + 1 = a + 2 by omega], hm2, q1, bI_e, nz_bi]
      by_cases c3 : 0 ≤ (numF tx N 2 (-1) (a + 2)).2
      · have hY3 := hY.mv ((f1.tr f2).tr q4) q2 (by omega)
        have p3 := hsv c2
        obtain ⟨m4, r1, r2, r3⟩ := emit (d := d + 2) (t := (plc (byt tx N a) * 3 + sgn (byt tx N (a + 1))) * 100 + (numF tx N 2 (-1) (a + 2)).2) (x := J (1000 * plc (byt tx N a) + 100 * (byt tx N (a + 1) - 60) + (numF tx N 2 (-1) (a + 2)).2)) hY3 hN (by rw [rco_t (by omega) (by omega) (by omega), p3]) (by omega)
        obtain ⟨m5, z1, z2, z3⟩ := S_134 (d := d + 1) hN W _ m4 r2
        have e134 : cB Q0 (d + 3) 134 [.ref 177] m4 = some (none, m5) := by
          rw [cB_eq]
          exact z1
        rw [if_pos c3, if_neg (show ¬ (numF tx N 2 (-1) (a + 2)).2 < 0 by omega), bX_e, q3 c3]
        rw [show (1000 * J (plc (byt tx N a)) + 100 * (J (byt tx N (a + 1)) - 60) + J (numF tx N 2 (-1) (a + 2)).2 : Int32) = J (1000 * plc (byt tx N a) + 100 * (byt tx N (a + 1) - 60) + (numF tx N 2 (-1) (a + 2)).2) by rw [show (1000 : Int32) = J 1000 from rfl, show (100 : Int32) = J 100 from rfl, show (60 : Int32) = J 60 from rfl, J_mul, J_sub, J_mul, J_add, J_add]]
        rw [show cB Q0 (d + 3) 133 [.ref 177, .int (J (1000 * plc (byt tx N a) + 100 * (byt tx N (a + 1) - 60) + (numF tx N 2 (-1) (a + 2)).2))] m3 = _ from r1, bV_e, e134, bV_e, nr_1]
        exact Or.inr ⟨_, m5, rfl, rfl, z2, ((gy ((f1.tr f2).tr q4)).tr r3).tr z3⟩
      · rw [if_neg c3, if_pos (show (numF tx N 2 (-1) (a + 2)).2 < 0 by omega), nr_0]
        exact Or.inl ⟨rfl, m3, rfl, q2, gy ((f1.tr f2).tr q4)⟩
    · rw [if_neg c2, if_pos (show sgn (byt tx N (a + 1)) < 0 by rw [hsg]; exact c2), nr_0]
      exact Or.inl ⟨rfl, m1, rfl, hR1, gy f1⟩
end
