/-! THEATRES read by the class; FEED -/
section
variable {tx : Int → Int} {N : Int} {q : Nat} {d : Nat}
theorem wrd_ok {f : Int → Int} (hf : chr f) : ∀ (k : Nat) (i a : Int), (wrdF tx N f k i a).2 = true → a + k + 1 ≤ (wrdF tx N f k i a).1
  | 0, i, a, h => by
    unfold wrdF at h ⊢
    by_cases c : byt tx N a = 32
    · rw [if_pos c]; simp
    · rw [if_neg c] at h; simp at h
  | k + 1, i, a, h => by
    unfold wrdF at h ⊢
    by_cases c : byt tx N a = f i
    · rw [if_pos c] at h ⊢
      have := wrd_ok hf k (i + 1) (a + 1) h
      omega
    · rw [if_neg c] at h; simp at h
/-- how far a clause goes -/
theorem claG_prg {f : Int → Int} (hf : chr f) {w a : Int} (h : a ≤ N) : a ≤ (claG tx N f w a).1 ∧ (claG tx N f w a).1 ≤ N ∧ ∀ c, (claG tx N f w a).2 = some c → (c.1 = w ∧ (0 ≤ c.2.1 ∧ c.2.1 ≤ 99) ∧ a + c.2.2.length ≤ (claG tx N f w a).1 ∧ c.2.2 ≠ [] ∧ WfT c.2.2 0) := by
  have h1 := wrd_in (tx := tx) (N := N) hf 4 0 a h
  have h2 := numF_in (tx := tx) (N := N) 2 (-1) (wrdF tx N f 4 0 a).1 h1.2
  have h3 := num2 (tx := tx) (N := N) (wrdF tx N f 4 0 a).1
  unfold claG
  by_cases c1 : (wrdF tx N f 4 0 a).2 = true
  · rw [if_pos c1]
    by_cases c2 : (numF tx N 2 (-1) (wrdF tx N f 4 0 a).1).2 < 0
    · rw [if_pos c2]
      exact ⟨by simp only; omega, h2.2, fun c e => by simp at e⟩
    · rw [if_neg c2]
      by_cases c3 : byt tx N (numF tx N 2 (-1) (wrdF tx N f 4 0 a).1).1 = 32
      · have hb := byt_lt c3 (by omega)
        have hg := pE_prg (tx := tx) (N := N) 4 (a := (numF tx N 2 (-1) (wrdF tx N f 4 0 a).1).1 + 1) (by omega)
        have hwf := fun ts e => pE_wf (tx := tx) (N := N) (r := 4) (by omega) ((numF tx N 2 (-1) (wrdF tx N f 4 0 a).1).1 + 1) (ts := ts) e
        rw [if_pos c3]
        generalize (numF tx N 2 (-1) (wrdF tx N f 4 0 a).1) = Z at *
        generalize pE tx N 4 (Z.1 + 1) = E at *
        refine ⟨by have := hg.1; simp only; omega, hg.2.1, fun c e => ?_⟩
        obtain ⟨b, o⟩ := E
        cases o with
        | none => simp at e
        | some ts =>
          have e : (w, Z.2, ts) = c := Option.some.inj e
          subst e
          have := hg.2.2 ts rfl
          have hg1 := hg.1
          exact ⟨rfl, by simp only; omega, by simp only at this hg1 ⊢; omega, this.2, hwf ts rfl⟩
      · rw [if_neg c3]
        exact ⟨by simp only; omega, h2.2, fun c e => by simp at e⟩
  · rw [if_neg c1]
    exact ⟨h1.1, h1.2, fun c e => by simp at e⟩
theorem claR_prg {a : Int} (h : a ≤ N) : a ≤ (claR tx N a).1 ∧ (claR tx N a).1 ≤ N ∧ ∀ c, (claR tx N a).2 = some c → (c.1 = 2 ∧ (0 ≤ c.2.1 ∧ c.2.1 ≤ 99) ∧ c.2.2 = []) := by
  have h1 := wrd_in (tx := tx) (N := N) chr12 4 0 a h
  have h2 := numF_in (tx := tx) (N := N) 2 (-1) (wrdF tx N f12 4 0 a).1 h1.2
  have h3 := num2 (tx := tx) (N := N) (wrdF tx N f12 4 0 a).1
  unfold claR
  by_cases c1 : (wrdF tx N f12 4 0 a).2 = true
  · rw [if_pos c1]
    by_cases c2 : (numF tx N 2 (-1) (wrdF tx N f12 4 0 a).1).2 < 0
    · rw [if_pos c2]
      exact ⟨by simp only; omega, h2.2, fun c e => by simp at e⟩
    · rw [if_neg c2]
      refine ⟨by simp only; omega, h2.2, fun c e => ?_⟩
      have e := Option.some.inj e
      subst e
      exact ⟨rfl, by simp only; omega, rfl⟩
  · rw [if_neg c1]
    exact ⟨h1.1, h1.2, fun c e => by simp at e⟩
def ClaOne (c : Int × Int × List Int) : Prop := (0 ≤ c.1 ∧ c.1 ≤ 2) ∧ (0 ≤ c.2.1 ∧ c.2.1 ≤ 99) ∧ (c.1 ≠ 2 → c.2.2 ≠ [] ∧ WfT c.2.2 0)
theorem claF_prg {a : Int} (h : a ≤ N) : a ≤ (claF tx N a).1 ∧ (claF tx N a).1 ≤ N ∧ ∀ c, (claF tx N a).2 = some c → ClaOne c ∧ ∀ L : Cla, ((catC (clsL L)).length : Int) ≤ a → ((catC (clsL (L ++ [c]))).length : Int) ≤ (claF tx N a).1 := by
  rw [claF_s]
  by_cases c1 : byt tx N a = 114
  · rw [if_pos c1]
    obtain ⟨g1, g2, g3⟩ := claR_prg (tx := tx) (N := N) h
    refine ⟨g1, g2, fun c e => ?_⟩
    obtain ⟨e1, e2, e3⟩ := g3 c e
    refine ⟨⟨by omega, e2, fun z => absurd e1 z⟩, fun L hL => ?_⟩
    rw [clsL_app]
    obtain ⟨w, k, ts⟩ := c
    have e1 : w = 2 := e1
    show ((catC (clsL L ++ (if w = 2 then clsL [] else _ :: clsL []))).length : Int) ≤ _
    rw [if_pos e1]
    show ((catC (clsL L ++ [])).length : Int) ≤ _
    rw [List.append_nil]
    omega
  · rw [if_neg c1]
    have hf : chr (if byt tx N a = 119 then f10 else f11) := by
      split
      · exact chr10
      · exact chr11
    obtain ⟨g1, g2, g3⟩ := claG_prg (tx := tx) (N := N) hf (w := if byt tx N a = 119 then 0 else 1) h
    refine ⟨g1, g2, fun c e => ?_⟩
    obtain ⟨e1, e2, e3, e4, e5⟩ := g3 c e
    have hw : c.1 = 0 ∨ c.1 = 1 := by
      rw [e1]
      split
      · exact Or.inl rfl
      · exact Or.inr rfl
    refine ⟨⟨by omega, e2, fun _ => ⟨e4, e5⟩⟩, fun L hL => ?_⟩
    rw [clsL_app]
    obtain ⟨w, k, ts⟩ := c
    have hw : w = 0 ∨ w = 1 := hw
    show ((catC (clsL L ++ (if w = 2 then clsL [] else ((if w = 0 then k else -k), ts) :: clsL []))).length : Int) ≤ _
    rw [if_neg (show ¬ w = 2 by omega), catC_app]
    show ((catC (clsL L) ++ (ts ++ [])).length : Int) ≤ _
    rw [List.append_nil, List.length_append]
    have e3 : a + (ts.length : Int) ≤ _ := e3
    omega
theorem ClaI.snoc : ∀ {L : Cla} {c : Int × Int × List Int}, ClaI L → ClaOne c → ClaI (L ++ [c])
  | [], (w, k, ts), _, h => ⟨h.1, h.2.1, h.2.2, trivial⟩
  | (w, k, ts) :: r, c, h, h2 => by
    unfold ClaI at h
    exact ⟨h.1, h.2.1, h.2.2.1, ClaI.snoc h.2.2.2 h2⟩
theorem go_prg : ∀ (k : Nat) (a : Int) (L : Cla), a ≤ N → L.length + k = 10 → ClaI L → ((catC (clsL L)).length : Int) ≤ a → a ≤ (goF tx N k a L).1 ∧ (goF tx N k a L).1 ≤ N ∧ ∀ M, (goF tx N k a L).2 = some M → ClaI M ∧ M.length ≤ 10 ∧ ((catC (clsL M)).length : Int) ≤ N
  | 0, a, L, h, _, _, _ => ⟨Int.le_refl _, h, fun M e => by simp [goF] at e⟩
  | k + 1, a, L, h, h1, h2, h3 => by
    obtain ⟨g1, g2, g3⟩ := claF_prg (tx := tx) (N := N) h
    unfold goF
    generalize claF tx N a = r at *
    obtain ⟨b, o⟩ := r
    simp only at g1 g2 g3
    cases o with
    | none => exact ⟨g1, g2, fun M e => by simp at e⟩
    | some x =>
      obtain ⟨e1, e2⟩ := g3 x rfl
      have e2 := e2 L h3
      simp only
      by_cases c1 : N ≤ b
      · rw [if_pos c1]
        refine ⟨g1, g2, fun M e => ?_⟩
        have e := Option.some.inj e
        subst e
        exact ⟨h2.snoc e1, by simp; omega, by omega⟩
      · rw [if_neg c1]
        by_cases c2 : k = 0
        · rw [if_pos c2]
          exact ⟨g1, g2, fun M e => by simp at e⟩
        · rw [if_neg c2]
          by_cases c3 : byt tx N b = 59
          · rw [if_pos c3]
            have ih := go_prg k (b + 1) (L ++ [x]) (by omega) (by simp; omega) (h2.snoc e1) (by omega)
            exact ⟨by omega, ih.2⟩
          · rw [if_neg c3]
            exact ⟨g1, g2, fun M e => by simp at e⟩
/-- from a clause's start on -/
def OutG (tx : Int → Int) (N : Int) (q : Nat) (r : Int × Option Cla) (x : Int32) (m' : SM) : Prop := (r.2 = none ∧ x = J r.1 ∧ Bad tx N r.1 m') ∨ ∃ L, r.2 = some L ∧ x = J (-1) ∧ BS tx N q r.1 L m'
theorem L_31 (hx : chr tx) (hN : N ≤ 100) (hF : ThF q) (hq : isQ q) : ∀ (k : Nat) (i a : Int) (L : Cla) (m : SM), 0 ≤ i → i + (k + 1) = 10 → (L.length : Int) = i → BS tx N q a L m → ((catC (clsL L)).length : Int) ≤ a → ∀ (c0 : i = 0 ∨ 0 < i), ∃ m' x, (bI (cB Q0 (d + 22) 36 [.ref 129, .ref q] m) fun x3 m2 => bT (Q0.1 0 x3 0) (bX (m2.1 129 2) fun z4 => some (some (Value.int z4), m2)) (bX (m2.1 129 2) fun z5 => bX (m2.1 129 1) fun z6 => bT (Q0.1 1 z5 z6) (rB Q0 31 (cB Q0 (d + 22)) 11 [some (.ref 129), some (.ref q), some (.int (J i + 1))] m2) (some (some (.int (-1)), m2)))) = some (some (.int x), m') ∧ Fr (tqK q) m m' ∧ OutG tx N q (goF tx N (k + 1) a L) x m' := by
  intro k
  induction k with
  | zero =>
    intro i a L m h0 h1 hL hB hl _
    obtain ⟨m1, x1, w1, w2, w3⟩ := S_36 (d := d) hx hN hF hq hB (by omega) (by omega)
    have hg := claF_prg (tx := tx) (N := N) (a := a) hB.1.2.2.1.2
    have ha := hB.1.2.2.1
    rw [w1, bI_e]
    have eg : goF tx N (0 + 1) a L = match (claF tx N a).2 with
      | none => ((claF tx N a).1, none)
      | some x => if N ≤ (claF tx N a).1 then ((claF tx N a).1, some (L ++ [x])) else if (0 : Nat) = 0 then ((claF tx N a).1, none) else if byt tx N (claF tx N a).1 = 59 then goF tx N 0 ((claF tx N a).1 + 1) (L ++ [x]) else ((claF tx N a).1, none) := rfl
    rw [eg]
    rcases w3 with ⟨e1, e2, e3⟩ | ⟨c, e1, e2, e3⟩
    · rw [e2, e1, bX_e, e3.2.1]
      exact ⟨m1, _, rfl, w2, Or.inl ⟨rfl, rfl, e3⟩⟩
    · have hP := e3.1
      have hb := hP.2.2.1
      rw [e2, e1, show ∀ (x y : Rs SM), bT (Q0.1 0 (J 1) 0) x y = y from fun _ _ => rfl, bX_e, bX_e, hP.2.1, hP.1.1, q1_J (by omega) (by omega) (by omega) (by omega)]
      simp only
      by_cases c1 : N ≤ (claF tx N a).1
      · rw [if_pos c1, if_neg (by omega)]
        exact ⟨m1, _, rfl, w2, Or.inr ⟨_, rfl, rfl, e3⟩⟩
      · rw [if_neg c1, if_pos (by omega), if_pos trivial, T_31_11, show J i + 1 = J (i + 1) from J_add i 1, show i + 1 = 10 by omega, show ∀ (x y : Rs SM), bT (Q0.1 2 10 (J 10)) x y = x from fun _ _ => rfl, bX_e, hP.2.1]
        exact ⟨m1, _, rfl, w2, Or.inl ⟨rfl, rfl, hP.bad⟩⟩
  | succ k ih =>
    intro i a L m h0 h1 hL hB hl _
    obtain ⟨m1, x1, w1, w2, w3⟩ := S_36 (d := d) hx hN hF hq hB (by omega) (by omega)
    have hg := claF_prg (tx := tx) (N := N) (a := a) hB.1.2.2.1.2
    have ha := hB.1.2.2.1
    rw [w1, bI_e]
    have eg : goF tx N (k + 1 + 1) a L = match (claF tx N a).2 with
      | none => ((claF tx N a).1, none)
      | some x => if N ≤ (claF tx N a).1 then ((claF tx N a).1, some (L ++ [x])) else if k + 1 = 0 then ((claF tx N a).1, none) else if byt tx N (claF tx N a).1 = 59 then goF tx N (k + 1) ((claF tx N a).1 + 1) (L ++ [x]) else ((claF tx N a).1, none) := rfl
    rw [eg]
    rcases w3 with ⟨e1, e2, e3⟩ | ⟨c, e1, e2, e3⟩
    · rw [e2, e1, bX_e, e3.2.1]
      exact ⟨m1, _, rfl, w2, Or.inl ⟨rfl, rfl, e3⟩⟩
    · have hP := e3.1
      have hb := hP.2.2.1
      have hle := (hg.2.2 c e1).2 L hl
      rw [e2, e1, show ∀ (x y : Rs SM), bT (Q0.1 0 (J 1) 0) x y = y from fun _ _ => rfl, bX_e, bX_e, hP.2.1, hP.1.1, q1_J (by omega) (by omega) (by omega) (by omega)]
      simp only
      generalize (claF tx N a).1 = b at *
      by_cases c1 : N ≤ b
      · rw [if_pos c1, if_neg (by omega)]
        exact ⟨m1, _, rfl, w2, Or.inr ⟨_, rfl, rfl, e3⟩⟩
      · have n10 : ∀ {α : Type} (x y : α), bT (Q0.1 2 10 (J (i + 1))) x y = if 10 ≤ i + 1 then x else y := fun x y => q2_J (a := 10) (by omega) (by omega) (by omega) (by omega) x y
        have n0 : ∀ {α : Type} (x y : α), bT (Q0.1 2 (J (i + 1)) 0) x y = if i + 1 ≤ 0 then x else y := fun x y => q2_J (b := 0) (by omega) (by omega) (by omega) (by omega) x y
        have e59 := S_32 (d := d + 21) hx hN hP.1 hP.2.1 hP.2.2.1 (c := 59) (by omega)
        rw [if_neg c1, if_pos (by omega), if_neg (show ¬ k + 1 = 0 by omega), show J i + 1 = J (i + 1) from J_add i 1, T_31_11, n10, if_neg (by omega), n0, if_neg (by omega), show cB Q0 (d + 22) 32 [.ref 129, .int 59] m1 = _ from e59, bI_e, nz_bi]
        by_cases c2 : byt tx N b = 59
        · have hb2 : b < N := byt_lt c2 (by omega)
          rw [if_pos c2, if_pos c2, if_pos c2]
          have hq2 := hq
          unfold isQ at hq2
          have kq : ∀ i, (putP m1 (b + 1)).1 q i = m1.1 q i := fun i => congrFun (u2_ne (f := m1.1) (k := 129) (j := q) 2 _ (by omega)) i
          have hB2 : BS tx N q (b + 1) (L ++ [c]) (putP m1 (b + 1)) := ⟨hP.put hq (by omega), by rw [kq]; exact e3.2.1, by rw [kq]; exact e3.2.2.1, e3.2.2.2.fr (u2_ne (f := m1.1) (k := 129) (j := q + 1) 2 _ (by omega)) (u2_ne (f := m1.1) (k := 129) (j := q + 2) 2 _ (by omega)) _ _ _⟩
          obtain ⟨m2, x2, z1, z2, z3⟩ := ih (i + 1) (b + 1) (L ++ [c]) (putP m1 (b + 1)) (by omega) (by omega) (by simp; omega) hB2 (by omega) (by omega)
          exact ⟨m2, x2, z1, (w2.tr ((FrS.put hq).tq)).tr z2, z3⟩
        · rw [if_neg c2, if_neg c2, if_neg c2, putP_self hP.2.1, bX_e, hP.2.1]
          exact ⟨m1, _, rfl, w2, Or.inl ⟨rfl, rfl, hP.bad⟩⟩
theorem S_31 (hx : chr tx) (hN : 0 ≤ N ∧ N ≤ 100) (hF : ThF q) (hq : isQ q) {m : SM} (hT : TxtC tx N m) (hS : StrA m) : ∃ m' x, cB Q0 (d + 23) 31 [.ref 129, .ref q] m = some (some (.int x), m') ∧ Fr (tqK q) m m' ∧ OutG tx N q (goF tx N 10 0 []) x m' := by
  have hq2 := hq
  unfold isQ at hq2
  generalize hm1 : ((up2 (up2 (up2 (putP m 0).1 q 0 (J 0)) q 1 (J 0)) q 2 (J 0), m.2) : SM) = m1
  have e43 : cB Q0 (d + 22) 43 [.ref q] (putP m 0) = some (none, m1) := by
    rw [cB_eq]
    show rB Q0 43 (cB Q0 (d + 21)) 0 [some (.ref q)] (putP m 0) = _
    rw [T_43_0, hF.1, cO_J, bX_e, cO_J, bX_e, cO_J, bX_e, ← hm1]
    rfl
  have k1 : ∀ k, k ≠ q → m1.1 k = (putP m 0).1 k := fun k hk => by
    rw [← hm1]
    show up2 (up2 (up2 (putP m 0).1 q 0 (J 0)) q 1 (J 0)) q 2 (J 0) k = _
    rw [u2_ne _ _ hk, u2_ne _ _ hk, u2_ne _ _ hk]
  have f1 : Fr (tqK q) m m1 := (FrS.put (a := 0) hq).tq.tr ⟨fun k hk => k1 k (by unfold tqK at hk; omega), by rw [← hm1]; rfl⟩
  have hT0 := hT.put (a := 0)
  have hB : BS tx N q 0 [] m1 := by
    refine ⟨⟨⟨(congrFun (k1 129 (by omega)) 1).trans hT0.1, fun j g0 g1 => (congrFun (k1 130 (by omega)) _).trans (hT0.2 j g0 g1)⟩, (congrFun (k1 129 (by omega)) 2).trans (putP_at _ _), by omega, ⟨?_, by simp [clsL, catC], trivial⟩, hS.fr f1 fun k hk => by unfold tqK; omega⟩, ?_, ?_, trivial⟩
    · rw [← hm1]
      show up2 (up2 (up2 (putP m 0).1 q 0 (J 0)) q 1 (J 0)) q 2 (J 0) q 2 = J 0
      rw [u2_at, if_pos rfl]
    · rw [← hm1]
      show up2 (up2 (up2 (putP m 0).1 q 0 (J 0)) q 1 (J 0)) q 2 (J 0) q 0 = J 0
      rw [u2_at, if_neg (by omega), u2_at, if_neg (by omega), u2_at, if_pos rfl]
    · rw [← hm1]
      show up2 (up2 (up2 (putP m 0).1 q 0 (J 0)) q 1 (J 0)) q 2 (J 0) q 1 = J 0
      rw [u2_at, if_neg (by omega), u2_at, if_pos rfl]
  obtain ⟨m2, x2, z1, z2, z3⟩ := L_31 (d := d) hx hN.2 hF hq 9 0 0 [] m1 (by omega) (by omega) rfl hB (by simp [clsL, catC]) (Or.inl rfl)
  refine ⟨m2, x2, ?_, f1.tr z2, z3⟩
  rw [cB_eq]
  show rB Q0 31 (cB Q0 (d + 22)) 0 [some (.ref 129), some (.ref q)] m = _
  rw [T_31_0, bX_e, hF.1, cO_J, show cB Q0 (d + 22) 43 [.ref q] (up2 m.1 129 2 0, m.2) = _ from e43, bV_e, T_31_11, show ∀ (x y : Rs SM), bT (Q0.1 2 10 0) x y = y from fun _ _ => rfl, show ∀ (x y : Rs SM), bT (Q0.1 2 0 0) x y = x from fun _ _ => rfl]
  exact z1
end
