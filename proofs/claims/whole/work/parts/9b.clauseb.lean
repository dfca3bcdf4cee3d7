/-! CLAUSES read by the class: the methods -/
section
variable (tx : Int → Int) (N : Int)
def claG (f : Int → Int) (w : Int) (a : Int) : Rc :=
  if (wrdF tx N f 4 0 a).2 = true then (if (numF tx N 2 (-1) (wrdF tx N f 4 0 a).1).2 < 0 then ((numF tx N 2 (-1) (wrdF tx N f 4 0 a).1).1, none) else (if byt tx N (numF tx N 2 (-1) (wrdF tx N f 4 0 a).1).1 = 32 then ((pE tx N 4 ((numF tx N 2 (-1) (wrdF tx N f 4 0 a).1).1 + 1)).1, ((pE tx N 4 ((numF tx N 2 (-1) (wrdF tx N f 4 0 a).1).1 + 1)).2.map fun ts => (w, (numF tx N 2 (-1) (wrdF tx N f 4 0 a).1).2, ts))) else ((numF tx N 2 (-1) (wrdF tx N f 4 0 a).1).1, none))) else ((wrdF tx N f 4 0 a).1, none)
def claR (a : Int) : Rc :=
  if (wrdF tx N f12 4 0 a).2 = true then (if (numF tx N 2 (-1) (wrdF tx N f12 4 0 a).1).2 < 0 then ((numF tx N 2 (-1) (wrdF tx N f12 4 0 a).1).1, none) else ((numF tx N 2 (-1) (wrdF tx N f12 4 0 a).1).1, some (2, (numF tx N 2 (-1) (wrdF tx N f12 4 0 a).1).2, []))) else ((wrdF tx N f12 4 0 a).1, none)
theorem claF_s (a : Int) : claF tx N a = if byt tx N a = 114 then claR tx N a else claG tx N (if byt tx N a = 119 then f10 else f11) (if byt tx N a = 119 then 0 else 1) a := rfl
end
noncomputable def tlC (cf : Nat → List Value → SM → Rs SM) (q s : Nat) (G : Int32 → SM → Rs SM) (m : SM) : Rs SM := bI (cf 33 [.ref 129, .ref s] m) fun x30 m29 => bT (Q0.1 0 x30 0) (bT (Q0.2.2.2.1 1 0) (some (some (.int 0), m29)) none) (bI (cf 35 [.ref 129] m29) fun x32 m31 => bT (Q0.1 1 x32 0) (bT (Q0.2.2.2.1 1 0) (some (some (.int 0), m31)) none) (bI (cf 32 [.ref 129, .int 32] m31) fun x34 m33 => bT (Q0.1 0 x34 0) (bT (Q0.2.2.2.1 1 0) (some (some (.int 0), m33)) none) (bI (cf 38 [.ref 129, .ref q, .int 0] m33) fun x36 m35 => bT (Q0.1 0 x36 0) (bT (Q0.2.2.2.1 1 0) (some (some (.int 0), m35)) none) (G x32 m35))))
section
variable {tx : Int → Int} {N : Int} {q : Nat} {d : Nat}
/-- how a clause ended -/
def OutC (tx : Int → Int) (N : Int) (q : Nat) (L : Cla) (r : Rc) (x : Int32) (m' : SM) : Prop := (r.2 = none ∧ x = J 0 ∧ Bad tx N r.1 m') ∨ ∃ c, r.2 = some c ∧ x = J 1 ∧ BS tx N q r.1 (L ++ [c]) m'
theorem PS.bad {a : Int} {st : List Int} {m : SM} (h : PS tx N q a st m) : Bad tx N a m := ⟨h.1, h.2.1, h.2.2.1⟩
theorem FrS.tq {m m' : SM} (h : FrS q m m') : Fr (tqK q) m m' := h.1.mono fun k hk => by unfold pqK at hk; unfold tqK; omega
theorem key_G (hx : chr tx) (hN : N ≤ 100) (hF : ThF q) (hq : isQ q) {a : Int} {L : Cla} {m : SM} (hB : BS tx N q a L m) (h10 : L.length < 10) (hl : (catC (clsL L)).length ≤ a) {s : Nat} {f : Int → Int} (hs : StrF s 4) (hf : chr f) (hs2 : 130 ≤ s) (hS : StrC s 4 f m) {w : Int} (hw : w = 0 ∨ w = 1) {G : Int32 → SM → Rs SM} (hG : ∀ (n : Int) (m2 : SM), G (J n) m2 = bV (cB Q0 (d + 21) 46 [.ref q, .int (J (if w = 0 then n else -n))] m2) fun m3 => some (some (.int 1), m3)) : ∃ m' x, tlC (cB Q0 (d + 21)) q s G m = some (some (.int x), m') ∧ Fr (tqK q) m m' ∧ OutC tx N q L (claG tx N f w a) x m' := by
  obtain ⟨hP, b0, b1, b2⟩ := hB
  have e33 := S_33 (d := d + 16) hx hN hs hf hs2 hP.1 hP.2.1 hP.2.2.1 hS
  have hwi := wrd_in (tx := tx) (N := N) hf 4 0 a hP.2.2.1.2
  unfold tlC claG
  rw [e33, bI_e, nz_bi]
  generalize wrdF tx N f 4 0 a = W at *
  have ha := hP.2.2.1
  have hP1 := hP.put hq (b := W.1) (by omega)
  by_cases c1 : W.2 = true
  · have e35 := S_35 (d := d + 19) hx hN hP1.1 hP1.2.1 hP1.2.2.1
    have hni := numF_in (tx := tx) (N := N) 2 (-1) W.1 hwi.2
    have hn2 := num2 (tx := tx) (N := N) W.1
    rw [if_pos c1, if_pos c1, e35, bI_e, putP_putP]
    generalize numF tx N 2 (-1) W.1 = Z at *
    have n0 : ∀ {α : Type} (x y : α), bT (Q0.1 1 (J Z.2) 0) x y = if Z.2 < 0 then x else y := fun x y => q1_J (b := 0) (by omega) (by omega) (by omega) (by omega) x y
    have hP2 := hP.put hq (b := Z.1) (by omega)
    rw [n0]
    by_cases c2 : Z.2 < 0
    · rw [if_pos c2, if_pos c2]
      exact ⟨_, _, rfl, (FrS.put hq).tq, Or.inl ⟨rfl, rfl, hP2.bad⟩⟩
    · have e32 := S_32 (d := d + 20) hx hN hP2.1 hP2.2.1 hP2.2.2.1 (c := 32) (by omega)
      rw [if_neg c2, if_neg c2, show cB Q0 (d + 21) 32 [.ref 129, .int 32] (putP m Z.1) = _ from e32, bI_e, nz_bi]
      by_cases c3 : byt tx N Z.1 = 32
      · have hb : Z.1 < N := byt_lt c3 (by omega)
        have hP3 := hP.put hq (b := Z.1 + 1) (by omega)
        obtain ⟨m2, w1, w2⟩ := S_38E (d := d) hx hN hF hq hP3 (by omega)
        have hg := pE_prg (tx := tx) (N := N) 4 (a := Z.1 + 1) (by omega)
        rw [if_pos c3, if_pos c3, if_pos c3, putP_putP, show cB Q0 (d + 21) 38 [.ref 129, .ref q, .int 0] (putP m (Z.1 + 1)) = _ from w1, bI_e]
        generalize pE tx N 4 (Z.1 + 1) = E at *
        rcases rd01 E with ⟨ts, e1, e2⟩ | ⟨e1, e2⟩
        · have hP4 := w2.len (a := Z.1 + 1) e1
          have hk := w2.2
          have hq2 := hq
          unfold isQ at hq2
          have hk1 : m2.1 (q + 1) = m.1 (q + 1) := by rw [hk.1.1 (q + 1) (by unfold pqK; omega)]; exact u2_ne (f := m.1) (k := 129) (j := q + 1) 2 _ (by omega)
          have hk2 : m2.1 (q + 2) = m.1 (q + 2) := by rw [hk.1.1 (q + 2) (by unfold pqK; omega)]; exact u2_ne (f := m.1) (k := 129) (j := q + 2) 2 _ (by omega)
          have hk3 : (putP m (Z.1 + 1)).1 q = m.1 q := u2_ne (f := m.1) (k := 129) (j := q) 2 _ (by omega)
          have hcl := clsL_le L
          obtain ⟨m3, r1, r2, r3, r4, r5, r6⟩ := S_46 (d := d + 20) (w := if w = 0 then Z.2 else -Z.2) (ts := ts) hF hq hP4 (by rw [hk.2.2, hk3]; exact b1) (by omega) (b2.fr hk1 hk2) rfl
          rw [e2, show ∀ (x y : Rs SM), bT (Q0.1 0 (J 1) 0) x y = y from fun _ _ => rfl, hG, r1, bV_e]
          have hcc : clsL (L ++ [(w, Z.2, ts)]) = clsL L ++ [((if w = 0 then Z.2 else -Z.2), ts)] := by
            rw [clsL_app]
            show clsL L ++ (if w = 2 then clsL [] else ((if w = 0 then Z.2 else -Z.2), ts) :: clsL []) = _
            rw [if_neg (by omega)]
            rfl
          refine ⟨m3, _, rfl, (((FrS.put hq).tr hk).tq).tr r6, Or.inr ⟨(w, Z.2, ts), by rw [e1]; rfl, rfl, ?_, ?_, ?_, ?_⟩⟩
          · rw [hcc, catC_app]
            show PS tx N q E.1 (catC (clsL L) ++ (ts ++ [])) m3
            rw [List.append_nil]
            exact r2
          · rw [r3, hk.2.1, hk3, b0, rainL_app]
            show _ = J (rainL (if w = 2 then Z.2 else rainL 0 L) [])
            rw [if_neg (by omega)]
            rfl
          · rw [hcc]
            exact r4
          · rw [hcc]
            exact r5
        · obtain ⟨⟨st2, hP2', -⟩, k2⟩ := w2
          rw [e2, show ∀ (x y : Rs SM), bT (Q0.1 0 (J 0) 0) x y = x from fun _ _ => rfl, nr_0]
          exact ⟨m2, _, rfl, ((FrS.put hq).tr k2).tq, Or.inl ⟨by rw [e1]; rfl, rfl, hP2'.bad⟩⟩
      · rw [if_neg c3, if_neg c3, if_neg c3, putP_putP]
        exact ⟨_, _, rfl, (FrS.put hq).tq, Or.inl ⟨rfl, rfl, hP2.bad⟩⟩
  · rw [if_neg c1, if_neg c1]
    exact ⟨_, _, rfl, (FrS.put hq).tq, Or.inl ⟨rfl, rfl, hP1.bad⟩⟩
theorem S_37 (hx : chr tx) (hN : N ≤ 100) (hF : ThF q) (hq : isQ q) {a : Int} {L : Cla} {m : SM} (hB : BS tx N q a L m) : ∃ m' x, cB Q0 (d + 6) 37 [.ref 129, .ref q] m = some (some (.int x), m') ∧ Fr (tqK q) m m' ∧ OutC tx N q L (claR tx N a) x m' := by
  obtain ⟨hP, b0, b1, b2⟩ := hB
  have e33 := S_33 (d := d) hx hN sF12 chr12 (by omega) hP.1 hP.2.1 hP.2.2.1 hP.2.2.2.2.2.2.1
  have hwi := wrd_in (tx := tx) (N := N) chr12 4 0 a hP.2.2.1.2
  have hq2 := hq
  unfold isQ at hq2
  rw [cB_eq]
  show ∃ m' x, rB Q0 37 (cB Q0 (d + 5)) 0 [some (.ref 129), some (.ref q)] m = _ ∧ _
  rw [T_37_0, e33, bI_e, nz_bi]
  unfold claR
  generalize wrdF tx N f12 4 0 a = W at *
  have ha := hP.2.2.1
  have hP1 := hP.put hq (b := W.1) (by omega)
  by_cases c1 : W.2 = true
  · have e35 := S_35 (d := d + 3) hx hN hP1.1 hP1.2.1 hP1.2.2.1
    have hni := numF_in (tx := tx) (N := N) 2 (-1) W.1 hwi.2
    have hn2 := num2 (tx := tx) (N := N) W.1
    rw [if_pos c1, if_pos c1, e35, bI_e, putP_putP, hF.1, cO_J, bX_e]
    generalize numF tx N 2 (-1) W.1 = Z at *
    have n0 : ∀ {α : Type} (x y : α), bT (Q0.1 1 (J Z.2) 0) x y = if Z.2 < 0 then x else y := fun x y => q1_J (b := 0) (by omega) (by omega) (by omega) (by omega) x y
    obtain ⟨⟨g1, g2⟩, g3, g4, ⟨g5, g6, g7⟩, g8⟩ := hP.put hq (b := Z.1) (by omega)
    have k1 : Fr (tqK q) (putP m Z.1) (up2 (putP m Z.1).1 q 0 (J Z.2), (putP m Z.1).2) := Fr.put (K := tqK q) (k := q) (by unfold tqK; omega) _ _
    have kk1 : ∀ k, k ≠ q → up2 (putP m Z.1).1 q 0 (J Z.2) k = (putP m Z.1).1 k := fun k hk => u2_ne _ _ hk
    have kq : ∀ i, i ≠ 0 → up2 (putP m Z.1).1 q 0 (J Z.2) q i = m.1 q i := fun i hi => by
      rw [u2_at, if_neg hi]
      exact congrFun (u2_ne (f := m.1) (k := 129) (j := q) 2 _ (by omega)) i
    have hP2 : PS tx N q Z.1 (catC (clsL L)) (up2 (putP m Z.1).1 q 0 (J Z.2), (putP m Z.1).2) := ⟨⟨(congrFun (kk1 129 (by omega)) 1).trans g1, fun j z0 z1 => (congrFun (kk1 130 (by omega)) _).trans (g2 j z0 z1)⟩, (congrFun (kk1 129 (by omega)) 2).trans g3, g4, ⟨(kq 2 (by omega)).trans hP.2.2.2.1.1, g6, g7.fr3 (kk1 (q + 3) (by omega)) _ _⟩, g8.fr k1 fun k hk => by unfold tqK; omega⟩
    rw [n0]
    by_cases c2 : Z.2 < 0
    · rw [if_pos c2, if_pos c2]
      exact ⟨_, _, rfl, ((FrS.put hq).tq).tr k1, Or.inl ⟨rfl, rfl, hP2.bad⟩⟩
    · rw [if_neg c2, if_neg c2]
      refine ⟨_, _, rfl, ((FrS.put hq).tq).tr k1, Or.inr ⟨(2, Z.2, []), rfl, rfl, ?_, ?_, ?_, ?_⟩⟩
      · rw [clsL_app]
        show PS tx N q Z.1 (catC (clsL L ++ [])) _
        rw [List.append_nil]
        exact hP2
      · rw [rainL_app]
        show up2 (putP m Z.1).1 q 0 (J Z.2) q 0 = J (rainL (rainL 0 L) [(2, Z.2, [])])
        rw [u2_at, if_pos rfl]
        rfl
      · rw [clsL_app]
        show up2 (putP m Z.1).1 q 0 (J Z.2) q 1 = J (((clsL L ++ []).length : Nat) : Int)
        rw [List.append_nil, kq 1 (by omega)]
        exact b1
      · rw [clsL_app]
        show ClsW q _ 0 0 (clsL L ++ [])
        rw [List.append_nil]
        refine ClsW.fr (m := m) ?_ ?_ _ _ _ b2
        · exact (kk1 (q + 1) (by omega)).trans (u2_ne (f := m.1) (k := 129) (j := q + 1) 2 _ (by omega))
        · exact (kk1 (q + 2) (by omega)).trans (u2_ne (f := m.1) (k := 129) (j := q + 2) 2 _ (by omega))
  · rw [if_neg c1, if_neg c1]
    exact ⟨_, _, rfl, (FrS.put hq).tq, Or.inl ⟨rfl, rfl, hP1.bad⟩⟩
theorem S_36 (hx : chr tx) (hN : N ≤ 100) (hF : ThF q) (hq : isQ q) {a : Int} {L : Cla} {m : SM} (hB : BS tx N q a L m) (h10 : L.length < 10) (hl : (catC (clsL L)).length ≤ a) : ∃ m' x, cB Q0 (d + 22) 36 [.ref 129, .ref q] m = some (some (.int x), m') ∧ Fr (tqK q) m m' ∧ OutC tx N q L (claF tx N a) x m' := by
  have hP := hB.1
  have ha := hP.2.2.1
  have hS := hP.2.2.2.2
  rw [cB_eq]
  show ∃ m' x, rB Q0 36 (cB Q0 (d + 21)) 0 [some (.ref 129), some (.ref q)] m = _ ∧ _
  rw [T_36_0, bX_e, bX_e, hP.2.1, hP.1.1, q2_J (by omega) (by omega) (by omega) (by omega), claF_s]
  by_cases e : N ≤ a
  · have hb : byt tx N a = -1 := by unfold byt; rw [if_neg (by omega)]
    rw [if_pos e, hb, if_neg (show ¬ (-1 : Int) = 114 by omega), if_neg (show ¬ (-1 : Int) = 119 by omega), if_neg (show ¬ (-1 : Int) = 119 by omega), show ∀ (x y : Rs SM), bT (Q0.1 0 (-1) 114) x y = y from fun _ _ => rfl, show ∀ (x y : Rs SM), bT (Q0.1 0 (-1) 119) x y = y from fun _ _ => rfl]
    refine key_G (d := d) (s := 1011) hx hN hF hq hB h10 hl sF11 chr11 (by omega) hS.2.1 (w := 1) (Or.inr rfl) (G := fun x m21 => bT (Q0.1 0 (-1) 119) (bT (okO (SHt q) 7) (bV (cB Q0 (d + 21) 46 [.ref q, .int x] m21) fun m23 => bT (Q0.2.2.2.1 1 1) (some (some (.int 1), m23)) none) none) (bT (okO (SHt q) 7) (bV (cB Q0 (d + 21) 46 [.ref q, .int (-x)] m21) fun m24 => bT (Q0.2.2.2.1 1 1) (some (some (.int 1), m24)) none) none)) fun n m2 => ?_
    show bT (Q0.1 0 (-1) 119) _ _ = _
    rw [show ∀ (x y : Rs SM), bT (Q0.1 0 (-1) 119) x y = y from fun _ _ => rfl, hF.1, cO_J, if_neg (show ¬ (1 : Int) = 0 by omega), J_neg]
    rfl
  · have hb : byt tx N a = tx a := by unfold byt; rw [if_pos (by omega)]
    have hxa := hx a
    have nk : ∀ (k : Int) {α : Type} (x y : α), 0 ≤ k → k ≤ 127 → bT (Q0.1 0 (J (tx a)) (J k)) x y = if tx a = k then x else y := fun k α x y z0 z1 => q0_J (by omega) (by omega) (by omega) (by omega) x y
    have n119 : ∀ {α : Type} (x y : α), bT (Q0.1 0 (J (tx a)) 119) x y = if tx a = 119 then x else y := fun x y => nk 119 x y (by omega) (by omega)
    rw [if_neg e, bX_e, cB_J (n := 100) ha.1 (by omega) (by omega), bX_e, J_clamp ha.1 (by omega), hP.1.2 a ha.1 (by omega), show ∀ (x y : Rs SM), bT (Q0.1 0 (J (tx a)) 114) x y = if tx a = 114 then x else y from fun x y => nk 114 x y (by omega) (by omega), hb]
    by_cases c1 : tx a = 114
    · obtain ⟨m1, x1, w1, w2, w3⟩ := S_37 (d := d + 15) hx hN hF hq hB
      rw [if_pos c1, if_pos c1, show cB Q0 (d + 21) 37 [.ref 129, .ref q] m = _ from w1, bI_e]
      refine ⟨m1, x1, ?_, w2, w3⟩
      rcases w3 with ⟨-, e2, -⟩ | ⟨c, -, e2, -⟩ <;> rw [e2] <;> rfl
    · rw [if_neg c1, if_neg c1, n119]
      by_cases c2 : tx a = 119
      · rw [if_pos c2, if_pos c2, if_pos c2]
        refine key_G (d := d) (s := 1010) hx hN hF hq hB h10 hl sF10 chr10 (by omega) hS.1 (w := 0) (Or.inl rfl) (G := fun x m35 => bT (Q0.1 0 (J (tx a)) 119) (bT (okO (SHt q) 7) (bV (cB Q0 (d + 21) 46 [.ref q, .int x] m35) fun m37 => bT (Q0.2.2.2.1 1 1) (some (some (.int 1), m37)) none) none) (bT (okO (SHt q) 7) (bV (cB Q0 (d + 21) 46 [.ref q, .int (-x)] m35) fun m38 => bT (Q0.2.2.2.1 1 1) (some (some (.int 1), m38)) none) none)) fun n m2 => ?_
        show bT (Q0.1 0 (J (tx a)) 119) _ _ = _
        rw [n119, if_pos c2, hF.1, cO_J, if_pos rfl]
        rfl
      · rw [if_neg c2, if_neg c2, if_neg c2]
        refine key_G (d := d) (s := 1011) hx hN hF hq hB h10 hl sF11 chr11 (by omega) hS.2.1 (w := 1) (Or.inr rfl) (G := fun x m45 => bT (Q0.1 0 (J (tx a)) 119) (bT (okO (SHt q) 7) (bV (cB Q0 (d + 21) 46 [.ref q, .int x] m45) fun m47 => bT (Q0.2.2.2.1 1 1) (some (some (.int 1), m47)) none) none) (bT (okO (SHt q) 7) (bV (cB Q0 (d + 21) 46 [.ref q, .int (-x)] m45) fun m48 => bT (Q0.2.2.2.1 1 1) (some (some (.int 1), m48)) none) none)) fun n m2 => ?_
        show bT (Q0.1 0 (J (tx a)) 119) _ _ = _
        rw [n119, if_neg c2, hF.1, cO_J, if_neg (show ¬ (1 : Int) = 0 by omega), J_neg]
        rfl
end
