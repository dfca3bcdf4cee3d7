/-! CLAUSES, THEATRES and FEED: the reference's methods -/
section
variable {tx : Int → Int} {N : Int} {f a : Int} {m : SM} {d : Nat} {L : Cla}
def BN (tx : Int → Int) (N f a : Int) (L : Cla) (m : SM) : Prop := ES tx N f a (catC (clsL L)) m ∧ CluW m f (10 * f) 0 L
def OutD (tx : Int → Int) (N f : Int) (L : Cla) (r : Rc) (x : Int32) (m' : SM) : Prop := (r.2 = none ∧ x = J 0 ∧ RS tx N r.1 m') ∨ ∃ c, r.2 = some c ∧ x = J 1 ∧ BN tx N f r.1 (L ++ [c]) m'
theorem cluW_keep {m m' : SM} {c : Int} (hf : 0 ≤ f) (hc : c = 10 * f + (L.length : Int)) (hF : FrC f c m m') (h : CluW m f (10 * f) 0 L) : CluW m' f (10 * f) 0 L :=
  CluW.fr L _ _ (by omega) (fun k g0 g1 j g2 g3 => hF.2.1 k g0 g1 j.toNat (by omega)) h
theorem S_140 (hx : chr tx) (hN : N ≤ 100) (hB : BN tx N f a L m) (h10 : L.length < 10) : ∃ m' x, cB Q0 (d + 6) 140 [.ref 177, .int (J (10 * f + L.length))] m = some (some (.int x), m') ∧ FrC f (10 * f + L.length) m m' ∧ OutD tx N f L (claF tx N a) x m' := by
  obtain ⟨hE, hC⟩ := hB
  have hR := hE.1
  have ha := hR.2.2.1
  have hf5 := hE.2.2
  generalize hcd : 10 * f + (L.length : Int) = c
  have hc : 0 ≤ c ∧ c < 60 := by omega
  obtain ⟨m1, q1, q2, q3, q4, q5, q6⟩ := S_139 (d := d + 1) (f := f) hx hN hR hc
  have hwi := wrd_in (tx := tx) (N := N) (f := hf (byt tx N a)) (by unfold hf; split; exact chr11; split; exact chr10; exact chr12) 4 0 a ha.2
  have hwr : hw (byt tx N a) = 0 ∨ hw (byt tx N a) = 1 ∨ hw (byt tx N a) = 2 := by unfold hw; (repeat' split) <;> omega
  rw [cB_eq, claF_h]
  show ∃ m' x, rB Q0 140 (cB Q0 (d + 5)) 0 [some (.ref 177), some (.int (J c))] m = _ ∧ _
  rw [T_140_0, q1, bI_e, nz_bi]
  unfold claH
  generalize wrdF tx N (hf (byt tx N a)) 4 0 a = W at *
  generalize hw (byt tx N a) = w at *
  by_cases c1 : W.2 = true
  · obtain ⟨m2, r1, r2, r3, r4⟩ := S_132 (d := d + 2) hx hN q2
    have hni := numF_in (tx := tx) (N := N) 2 (-1) W.1 hwi.2
    have hn2 := num2 (tx := tx) (N := N) W.1
    rw [if_pos c1, if_pos c1, r1, bI_e, nz_bi]
    generalize numF tx N 2 (-1) W.1 = Z at *
    by_cases c2 : 0 ≤ Z.2
    · rw [if_pos c2, if_neg (show ¬ Z.2 < 0 by omega), bX_e, r3 c2, c1_J (n := 60) hc.1 (by omega) (by omega), J_clamp hc.1 (by omega), bX_e, cI_J (n := 60) hc.1 (by omega) (by omega)]
      generalize hm3 : ((up2 m2.1 191 c.toNat (J Z.2), m2.2) : SM) = m3
      have f3 : FrC f c m2 m3 := by rw [← hm3]; exact FrC.put (Or.inr rfl) _
      have k3 : ∀ k, k ≠ 191 → m3.1 k = m2.1 k := fun k z => by rw [← hm3]; exact u2_ne (f := m2.1) (k := 191) (j := k) _ _ z
      have g190 : m3.1 190 c.toNat = J w := by rw [k3 190 (by omega), r4.1 190 (fun z => z) (by omega)]; exact q3
      have g191 : m3.1 191 c.toNat = J Z.2 := by rw [← hm3]; show up2 m2.1 191 c.toNat (J Z.2) 191 c.toNat = _; rw [u2_at, if_pos rfl]
      have F3 : FrC f c m m3 := (q4.tr (FrC.ofG r4)).tr f3
      have hR3 : RS tx N Z.1 m3 := r2.mv f3.1 (by rw [k3 177 (by omega)]; exact r2.2.1) r2.2.2.1 ⟨by unfold cK; omega, by unfold cK; omega⟩ (by unfold yI; omega)
      have hE3 : ES tx N f Z.1 (catC (clsL L)) m3 := hE.fr F3 hR3 (by rw [k3 177 (by omega), r4.2.1 27 (by unfold gI; omega)]; exact q5) (by rw [k3 194 (by omega), r4.1 194 (fun z => z) (by omega)]; exact q6) (by omega)
      have hC3 := cluW_keep (by omega) hcd.symm F3 hC
      have n2 : ∀ {α : Type} (u v : α), bT (Q0.1 0 (J w) 2) u v = if w = 2 then u else v := fun u v => q0_J (b := 2) (by omega) (by omega) (by omega) (by omega) u v
      rw [bX_e, g190, n2]
      by_cases c3 : w = 2
      · rw [if_pos c3, if_pos c3, nr_1]
        refine ⟨m3, _, rfl, F3, Or.inr ⟨(2, Z.2, []), rfl, rfl, ?_, ?_⟩⟩
        · rw [clsL_app]
          show ES tx N f Z.1 (catC (clsL L ++ [])) m3
          rw [List.append_nil]
          exact hE3
        · refine CluW.snoc L (10 * f) 0 (by omega) hC3 (by rw [hcd, g190, c3]) (by rw [hcd]; exact g191) (fun z => absurd rfl z)
      · obtain ⟨m4, z1, z2, z3⟩ := S_129 (d := d + 3) hx hN hR3 (c := 32) (by omega)
        rw [if_neg c3, if_neg c3, show cB Q0 (d + 5) 129 [.ref 177, .int 32] m3 = _ from z1, bI_e, nz_bi]
        by_cases c4 : byt tx N Z.1 = 32
        · have hbN : Z.1 < N := byt_lt c4 (by omega)
          rw [if_pos c4] at z2
          rw [if_pos c4, if_pos c4]
          have f4 : FrC f c m3 m4 := FrC.ofG (py z3)
          have hE4 : ES tx N f (Z.1 + 1) (catC (clsL L)) m4 := hE3.fr f4 z2 (z3.2.1 27 (by unfold atI; omega)) (z3.1 194 (fun z => z) (by omega)) (by omega)
          have hg := pE_prg (tx := tx) (N := N) 4 (a := Z.1 + 1) (by omega)
          rcases S_138 (d := d) hx hN hc hE4 with ⟨y1, m5, y2, y3, y4⟩ | ⟨ts, m5, y1, y2, y3, y4, y5, y6⟩
          · rw [y2, bI_e]
            exact ⟨m5, _, rfl, (F3.tr f4).tr (FrC.ofE y4), Or.inl ⟨by rw [y1]; rfl, rfl, y3⟩⟩
          · rw [y2, bI_e]
            have F5 : FrC f c m m5 := (F3.tr f4).tr (FrC.ofE y6)
            refine ⟨m5, _, rfl, F5, Or.inr ⟨(w, Z.2, ts), by rw [y1]; rfl, rfl, ?_, ?_⟩⟩
            · rw [clsL_app]
              show ES tx N f (pE tx N 4 (Z.1 + 1)).1 (catC (clsL L ++ (if w = 2 then clsL [] else _ :: clsL []))) m5
              rw [if_neg c3, catC_app]
              show ES tx N f (pE tx N 4 (Z.1 + 1)).1 (catC (clsL L) ++ (ts ++ [])) m5
              rw [List.append_nil]
              exact y3
            · refine CluW.snoc L (10 * f) 0 (by omega) (cluW_keep (by omega) hcd.symm F5 hC) ?_ ?_ fun _ => ⟨?_, ?_⟩
              · rw [hcd, y6.1.1 190 (by unfold eK; omega) (by omega), z3.1 190 (fun z => z) (by omega)]
                exact g190
              · rw [hcd, y6.1.1 191 (by unfold eK; omega) (by omega), z3.1 191 (fun z => z) (by omega)]
                exact g191
              · rw [hcd, y4, Int.add_zero]
              · rw [hcd, y5, Int.add_zero]
        · rw [if_neg c4] at z2
          rw [if_neg c4, if_neg c4, nr_0]
          exact ⟨m4, _, rfl, F3.tr (FrC.ofG (py z3)), Or.inl ⟨rfl, rfl, z2⟩⟩
    · rw [if_neg c2, if_pos (show Z.2 < 0 by omega), nr_0]
      exact ⟨m2, _, rfl, q4.tr (FrC.ofG r4), Or.inl ⟨rfl, rfl, r2⟩⟩
  · rw [if_neg c1, if_neg c1, nr_0]
    exact ⟨m1, _, rfl, q4, Or.inl ⟨rfl, rfl, q2⟩⟩
/-- what a whole text's reading leaves as it was -/
def gK : Nat → Prop := fun k => 189 ≤ k ∧ k ≤ 195
def FrG (f : Int) (m m' : SM) : Prop := FrR gK yI m m' ∧ (∀ i, i ≠ f.toNat → m'.1 189 i = m.1 189 i) ∧ (∀ k, 190 ≤ k → k ≤ 193 → ∀ i : Nat, (i : Int) < 10 * f → m'.1 k i = m.1 k i) ∧ ∀ i : Nat, (i : Int) < 100 * f → m'.1 194 i = m.1 194 i
theorem FrG.tr {f : Int} {a b e : SM} (h1 : FrG f a b) (h2 : FrG f b e) : FrG f a e := ⟨h1.1.tr h2.1, fun i hi => (h2.2.1 i hi).trans (h1.2.1 i hi), fun k h3 h4 i hi => (h2.2.2.1 k h3 h4 i hi).trans (h1.2.2.1 k h3 h4 i hi), fun i hi => (h2.2.2.2 i hi).trans (h1.2.2.2 i hi)⟩
theorem FrG.ofC {f c : Int} {m m' : SM} (hf : 0 ≤ f) (hc : 10 * f ≤ c) (h : FrC f c m m') : FrG f m m' := ⟨h.1.mono (fun k hk => by unfold cK at hk; unfold gK; omega) (fun _ z => z), fun i _ => by rw [h.1.1 189 (by unfold cK; omega) (by omega)], fun k h3 h4 i hi => h.2.1 k h3 h4 i (by omega), h.2.2⟩
theorem FrG.ofG {f : Int} {m m' : SM} (h : FrR nK gI m m') : FrG f m m' := ⟨h.mono (fun _ z => z.elim) (fun i z => by unfold gI at z; unfold yI; omega), fun i _ => by rw [h.1 189 (fun z => z) (by omega)], fun k h3 h4 i _ => by rw [h.1 k (fun z => z) (by omega)], fun i _ => by rw [h.1 194 (fun z => z) (by omega)]⟩
theorem BN.keep {a' : Int} {m' : SM} (hB : BN tx N f a L m) (hR : RS tx N a' m') (h1 : ∀ k, 190 ≤ k → k ≤ 194 → m'.1 k = m.1 k) (h2 : m'.1 177 27 = m.1 177 27) (h3 : a ≤ a') : BN tx N f a' L m' := by
  obtain ⟨⟨g1, ⟨g2, g3⟩, g4⟩, g5⟩ := hB
  exact ⟨⟨hR, ⟨by rw [h2]; exact g2, g3.fr4 (h1 194 (by omega) (by omega)) _ _⟩, by omega⟩, CluW.fr L _ _ (by omega) (fun k z0 z1 j _ _ => by rw [h1 k z0 (by omega)]) g5⟩
def OutH (tx : Int → Int) (N f : Int) (r : Int × Option Cla) (x : Int32) (m' : SM) : Prop := (r.2 = none ∧ x = J 0 ∧ RS tx N r.1 m') ∨ ∃ L, r.2 = some L ∧ x = J 1 ∧ BN tx N f r.1 L m' ∧ m'.1 189 f.toNat = J (L.length : Int)
theorem L_141 (hx : chr tx) (hN : N ≤ 100) : ∀ (k : Nat) (n a : Int) (L : Cla) (m : SM), n + (k + 1) = 10 → (L.length : Int) = n → BN tx N f a L m → ((catC (clsL L)).length : Int) ≤ a → ∃ m' x, rB Q0 141 (cB Q0 (d + 6)) 15 [some (.ref 177), some (.int (J f)), some (.int (J n))] m = some (some (.int x), m') ∧ FrG f m m' ∧ OutH tx N f (goF tx N (k + 1) a L) x m' := by
  intro k
  induction k with
  | zero =>
    intro n a L m h1 hL hB hl
    have hf5 := hB.1.2.2
    have ha := hB.1.1.2.2.1
    obtain ⟨m1, x1, w1, w2, w3⟩ := S_140 (d := d) hx hN hB (by omega)
    have hg := claF_prg (tx := tx) (N := N) (a := a) ha.2
    have eg : goF tx N (0 + 1) a L = match (claF tx N a).2 with
      | none => ((claF tx N a).1, none)
      | some x => if N ≤ (claF tx N a).1 then ((claF tx N a).1, some (L ++ [x])) else if (0 : Nat) = 0 then ((claF tx N a).1, none) else if byt tx N (claF tx N a).1 = 59 then goF tx N 0 ((claF tx N a).1 + 1) (L ++ [x]) else ((claF tx N a).1, none) := rfl
    rw [T_141_15, show (10 : Int32) * J f + J n = J (10 * f + L.length) by rw [show (10 : Int32) = J 10 from rfl, J_mul, J_add, hL], w1, bI_e, eg]
    have F1 : FrG f m m1 := FrG.ofC (by omega) (by omega) w2
    rcases w3 with ⟨e1, e2, e3⟩ | ⟨cc, e1, e2, e3⟩
    · rw [e2, e1]
      exact ⟨m1, _, rfl, F1, Or.inl ⟨rfl, rfl, e3⟩⟩
    · rw [e2, e1, show ∀ (x y : Rs SM), bT (Q0.1 0 (J 1) 0) x y = y from fun _ _ => rfl, c1_J (n := 6) (show 0 ≤ f by omega) (by omega) (by omega), J_clamp (show 0 ≤ f by omega) (by omega), show J n + 1 = J (n + 1) from J_add n 1, bX_e]
      generalize hm2 : ((up2 m1.1 189 f.toNat (J (n + 1)), m1.2) : SM) = m2
      have k2 : ∀ k, k ≠ 189 → m2.1 k = m1.1 k := fun k z => by rw [← hm2]; exact u2_ne (f := m1.1) (k := 189) (j := k) _ _ z
      have F2 : FrG f m1 m2 := ⟨⟨fun k z _ => k2 k (by unfold gK at z; omega), fun i _ => by rw [k2 177 (by omega)], by rw [← hm2]⟩, fun i hi => by rw [← hm2]; show up2 m1.1 189 f.toNat (J (n + 1)) 189 i = _; rw [u2_at, if_neg hi], fun k z0 z1 i _ => by rw [k2 k (by omega)], fun i _ => by rw [k2 194 (by omega)]⟩
      have hR1 := e3.1.1
      have hb := hR1.2.2.1
      have hR2 : RS tx N (claF tx N a).1 m2 := hR1.mv F2.1 (by rw [k2 177 (by omega)]; exact hR1.2.1) hb ⟨by unfold gK; omega, by unfold gK; omega⟩ (by unfold yI; omega)
      rw [bX_e, bX_e, hR2.2.1, hR2.1.1, q0_J (by omega) (by omega) (by omega) (by omega), nr_1]
      simp only
      by_cases c1 : (claF tx N a).1 = N
      · rw [if_pos c1, if_pos (by omega)]
        refine ⟨m2, _, rfl, F1.tr F2, Or.inr ⟨_, rfl, rfl, e3.keep hR2 (fun k z0 z1 => k2 k (by omega)) (by rw [k2 177 (by omega)]) (Int.le_refl _), ?_⟩⟩
        rw [← hm2]
        show up2 m1.1 189 f.toNat (J (n + 1)) 189 f.toNat = _
        rw [u2_at, if_pos rfl]
        simp only [List.length_append, List.length_singleton]
        congr 1
        omega
      · rw [if_neg c1, if_neg (show ¬ N ≤ (claF tx N a).1 by omega), if_pos trivial, show n + 1 = 10 by omega, show ∀ (x y : Rs SM), bT (Q0.1 0 (J 10) 10) x y = x from fun _ _ => rfl, nr_0]
        exact ⟨m2, _, rfl, F1.tr F2, Or.inl ⟨rfl, rfl, hR2⟩⟩
  | succ k ih =>
    intro n a L m h1 hL hB hl
    have hf5 := hB.1.2.2
    have ha := hB.1.1.2.2.1
    obtain ⟨m1, x1, w1, w2, w3⟩ := S_140 (d := d) hx hN hB (by omega)
    have hg := claF_prg (tx := tx) (N := N) (a := a) ha.2
    have eg : goF tx N (k + 1 + 1) a L = match (claF tx N a).2 with
      | none => ((claF tx N a).1, none)
      | some x => if N ≤ (claF tx N a).1 then ((claF tx N a).1, some (L ++ [x])) else if k + 1 = 0 then ((claF tx N a).1, none) else if byt tx N (claF tx N a).1 = 59 then goF tx N (k + 1) ((claF tx N a).1 + 1) (L ++ [x]) else ((claF tx N a).1, none) := rfl
    rw [T_141_15, show (10 : Int32) * J f + J n = J (10 * f + L.length) by rw [show (10 : Int32) = J 10 from rfl, J_mul, J_add, hL], w1, bI_e, eg]
    have F1 : FrG f m m1 := FrG.ofC (by omega) (by omega) w2
    rcases w3 with ⟨e1, e2, e3⟩ | ⟨cc, e1, e2, e3⟩
    · rw [e2, e1]
      exact ⟨m1, _, rfl, F1, Or.inl ⟨rfl, rfl, e3⟩⟩
    · have hle := (hg.2.2 cc e1).2 L hl
      rw [e2, e1, show ∀ (x y : Rs SM), bT (Q0.1 0 (J 1) 0) x y = y from fun _ _ => rfl, c1_J (n := 6) (show 0 ≤ f by omega) (by omega) (by omega), J_clamp (show 0 ≤ f by omega) (by omega), show J n + 1 = J (n + 1) from J_add n 1, bX_e]
      generalize hm2 : ((up2 m1.1 189 f.toNat (J (n + 1)), m1.2) : SM) = m2
      have k2 : ∀ k, k ≠ 189 → m2.1 k = m1.1 k := fun k z => by rw [← hm2]; exact u2_ne (f := m1.1) (k := 189) (j := k) _ _ z
      have F2 : FrG f m1 m2 := ⟨⟨fun k z _ => k2 k (by unfold gK at z; omega), fun i _ => by rw [k2 177 (by omega)], by rw [← hm2]⟩, fun i hi => by rw [← hm2]; show up2 m1.1 189 f.toNat (J (n + 1)) 189 i = _; rw [u2_at, if_neg hi], fun k z0 z1 i _ => by rw [k2 k (by omega)], fun i _ => by rw [k2 194 (by omega)]⟩
      have hR1 := e3.1.1
      have hb := hR1.2.2.1
      have hR2 : RS tx N (claF tx N a).1 m2 := hR1.mv F2.1 (by rw [k2 177 (by omega)]; exact hR1.2.1) hb ⟨by unfold gK; omega, by unfold gK; omega⟩ (by unfold yI; omega)
      rw [bX_e, bX_e, hR2.2.1, hR2.1.1, q0_J (by omega) (by omega) (by omega) (by omega), nr_1]
      simp only
      generalize (claF tx N a).1 = b at *
      by_cases c1 : b = N
      · rw [if_pos c1, if_pos (by omega)]
        refine ⟨m2, _, rfl, F1.tr F2, Or.inr ⟨_, rfl, rfl, e3.keep hR2 (fun k z0 z1 => k2 k (by omega)) (by rw [k2 177 (by omega)]) (Int.le_refl _), ?_⟩⟩
        rw [← hm2]
        show up2 m1.1 189 f.toNat (J (n + 1)) 189 f.toNat = _
        rw [u2_at, if_pos rfl]
        simp only [List.length_append, List.length_singleton]
        congr 1
        omega
      · obtain ⟨m3, z1, z2, z3⟩ := S_129 (d := d + 4) hx hN hR2 (c := 59) (by omega)
        have n10 : ∀ {α : Type} (x y : α), bT (Q0.1 0 (J (n + 1)) 10) x y = if n + 1 = 10 then x else y := fun x y => q0_J (b := 10) (by omega) (by omega) (by omega) (by omega) x y
        rw [if_neg c1, if_neg (show ¬ N ≤ b by omega), if_neg (show ¬ k + 1 = 0 by omega), n10, if_neg (by omega), show cB Q0 (d + 6) 129 [.ref 177, .int 59] m2 = _ from z1, bI_e, nz_bi]
        by_cases c2 : byt tx N b = 59
        · have hbN : b < N := byt_lt c2 (by omega)
          rw [if_pos c2] at z2
          rw [if_pos c2, if_pos c2]
          have hB3 : BN tx N f (b + 1) (L ++ [cc]) m3 := e3.keep z2 (fun k g0 g1 => by rw [z3.1 k (fun z => z) (by omega), k2 k (by omega)]) (by rw [z3.2.1 27 (by unfold atI; omega), k2 177 (by omega)]) (by omega)
          obtain ⟨m4, x4, y1, y2, y3⟩ := ih (n + 1) (b + 1) (L ++ [cc]) m3 (by omega) (by simp; omega) hB3 (by omega)
          exact ⟨m4, x4, y1, ((F1.tr F2).tr (FrG.ofG (py z3))).tr y2, y3⟩
        · rw [if_neg c2] at z2
          rw [if_neg c2, if_neg c2, nr_0]
          exact ⟨m3, _, rfl, (F1.tr F2).tr (FrG.ofG (py z3)), Or.inl ⟨rfl, rfl, z2⟩⟩
end
