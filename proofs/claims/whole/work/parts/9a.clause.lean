/-! CLAUSES and THEATRES read by the class -/
def catC : Cls → List Int
  | [] => []
  | (_, ts) :: r => ts ++ catC r
def ClsW (q : Nat) (m : SM) : Int → Int → Cls → Prop
  | _, _, [] => True
  | k, i, (w, ts) :: r => m.1 (q + 1) k.toNat = J w ∧ m.1 (q + 2) k.toNat = J (i + ts.length) ∧ ClsW q m (k + 1) (i + ts.length) r
theorem catC_len : ∀ c : Cls, totC c = ((catC c).length : Int)
  | [] => rfl
  | (_, ts) :: r => by
    have := catC_len r
    show (ts.length : Int) + totC r = _
    rw [this]
    show _ = (((ts ++ catC r).length : Nat) : Int)
    rw [List.length_append]
    omega
theorem ClsW.at {q : Nat} {m : SM} : ∀ (c : Cls) (k i : Int), ClsW q m k i c → StepsAt q m i (catC c) → ClsAt q m k i c
  | [], _, _, _, _ => trivial
  | (w, ts) :: r, k, i, h, g => by
    have g := (StepsAt.app ts (catC r) i).mp g
    exact ⟨h.1, h.2.1, g.1, ClsW.at r (k + 1) (i + ts.length) h.2.2 g.2⟩
theorem ClsW.fr {q : Nat} {m m' : SM} (h1 : m'.1 (q + 1) = m.1 (q + 1)) (h2 : m'.1 (q + 2) = m.1 (q + 2)) : ∀ (c : Cls) (k i : Int), ClsW q m k i c → ClsW q m' k i c
  | [], _, _, _ => trivial
  | (w, ts) :: r, k, i, h => ⟨by rw [h1]; exact h.1, by rw [h2]; exact h.2.1, ClsW.fr h1 h2 r _ _ h.2.2⟩
theorem ClsW.snoc {q : Nat} {m : SM} {w : Int} {ts : List Int} {x y : Int32} : ∀ (c : Cls) (k i j : Int), 0 ≤ k → j = k + c.length → ClsW q m k i c → x = J w → y = J (i + totC c + ts.length) → ClsW q (up2 (up2 m.1 (q + 1) j.toNat x) (q + 2) j.toNat y, m.2) k i (c ++ [(w, ts)])
  | [], k, i, j, h0, hj, _, hx, hy => by
    have hj : j = k := by simpa using hj
    subst hj
    refine ⟨?_, ?_, trivial⟩
    · show up2 (up2 m.1 (q + 1) j.toNat x) (q + 2) j.toNat y (q + 1) j.toNat = _
      rw [u2_ne _ _ (by omega), u2_at, if_pos rfl, hx]
    · show up2 (up2 m.1 (q + 1) j.toNat x) (q + 2) j.toNat y (q + 2) j.toNat = _
      rw [u2_at, if_pos rfl, hy]
      simp [totC]
  | (v, us) :: r, k, i, j, h0, hj, h, hx, hy => by
    simp only [List.length_cons] at hj
    refine ⟨?_, ?_, ClsW.snoc r (k + 1) (i + us.length) j (by omega) (by omega) h.2.2 hx (by rw [hy]; show J (i + ((us.length : Int) + totC r) + ts.length) = _; congr 1; omega)⟩
    · show up2 (up2 m.1 (q + 1) j.toNat x) (q + 2) j.toNat y (q + 1) k.toNat = _
      rw [u2_ne _ _ (by omega), u2_at, if_neg (by omega)]
      exact h.1
    · show up2 (up2 m.1 (q + 1) j.toNat x) (q + 2) j.toNat y (q + 2) k.toNat = _
      rw [u2_at, if_neg (by omega), u2_ne _ _ (by omega)]
      exact h.2.1
theorem clsL_app : ∀ (L M : Cla), clsL (L ++ M) = clsL L ++ clsL M
  | [], _ => rfl
  | (w, k, ts) :: r, M => by
    show (if w = 2 then clsL (r ++ M) else _ :: clsL (r ++ M)) = (if w = 2 then clsL r else _ :: clsL r) ++ clsL M
    rw [clsL_app r M]
    split <;> rfl
theorem rainL_app : ∀ (L M : Cla) (n : Int), rainL n (L ++ M) = rainL (rainL n L) M
  | [], _, _ => rfl
  | (w, k, ts) :: r, M, n => rainL_app r M (if w = 2 then k else n)
theorem catC_app : ∀ (c e : Cls), catC (c ++ e) = catC c ++ catC e
  | [], _ => rfl
  | (w, ts) :: r, e => by
    show ts ++ catC (r ++ e) = (ts ++ catC r) ++ catC e
    rw [catC_app r e, List.append_assoc]
theorem clsL_le : ∀ L : Cla, (clsL L).length ≤ L.length
  | [] => Nat.le_refl _
  | (w, k, ts) :: r => by
    have := clsL_le r
    show (if w = 2 then clsL r else _ :: clsL r).length ≤ r.length + 1
    split
    · omega
    · simp only [List.length_cons]; omega
section
variable (tx : Int → Int) (N : Int)
abbrev Rc : Type := Int × Option (Int × Int × List Int)
def claF (a : Int) : Rc :=
  if byt tx N a = 114 then (if (wrdF tx N f12 4 0 a).2 = true then (if (numF tx N 2 (-1) (wrdF tx N f12 4 0 a).1).2 < 0 then ((numF tx N 2 (-1) (wrdF tx N f12 4 0 a).1).1, none) else ((numF tx N 2 (-1) (wrdF tx N f12 4 0 a).1).1, some (2, (numF tx N 2 (-1) (wrdF tx N f12 4 0 a).1).2, []))) else ((wrdF tx N f12 4 0 a).1, none))
  else (if (wrdF tx N (if byt tx N a = 119 then f10 else f11) 4 0 a).2 = true then (if (numF tx N 2 (-1) (wrdF tx N (if byt tx N a = 119 then f10 else f11) 4 0 a).1).2 < 0 then ((numF tx N 2 (-1) (wrdF tx N (if byt tx N a = 119 then f10 else f11) 4 0 a).1).1, none) else (if byt tx N (numF tx N 2 (-1) (wrdF tx N (if byt tx N a = 119 then f10 else f11) 4 0 a).1).1 = 32 then ((pE tx N 4 ((numF tx N 2 (-1) (wrdF tx N (if byt tx N a = 119 then f10 else f11) 4 0 a).1).1 + 1)).1, ((pE tx N 4 ((numF tx N 2 (-1) (wrdF tx N (if byt tx N a = 119 then f10 else f11) 4 0 a).1).1 + 1)).2.map fun ts => ((if byt tx N a = 119 then 0 else 1), (numF tx N 2 (-1) (wrdF tx N (if byt tx N a = 119 then f10 else f11) 4 0 a).1).2, ts))) else ((numF tx N 2 (-1) (wrdF tx N (if byt tx N a = 119 then f10 else f11) 4 0 a).1).1, none))) else ((wrdF tx N (if byt tx N a = 119 then f10 else f11) 4 0 a).1, none))
def goF : Nat → Int → Cla → Int × Option Cla
  | 0, a, _ => (a, none)
  | k + 1, a, L => match (claF tx N a).2 with
    | none => ((claF tx N a).1, none)
    | some x => if N ≤ (claF tx N a).1 then ((claF tx N a).1, some (L ++ [x])) else if k = 0 then ((claF tx N a).1, none) else if byt tx N (claF tx N a).1 = 59 then goF k ((claF tx N a).1 + 1) (L ++ [x]) else ((claF tx N a).1, none)
end
section
variable {tx : Int → Int} {N : Int} {q : Nat} {d : Nat}
theorem wrd_in {f : Int → Int} (hf : chr f) : ∀ (k : Nat) (i a : Int), a ≤ N → a ≤ (wrdF tx N f k i a).1 ∧ (wrdF tx N f k i a).1 ≤ N
  | 0, i, a, h => by
    unfold wrdF
    by_cases c : byt tx N a = 32
    · have := byt_lt c (by omega)
      rw [if_pos c]
      exact ⟨by simp only; omega, by simp only; omega⟩
    · rw [if_neg c]
      exact ⟨Int.le_refl _, h⟩
  | k + 1, i, a, h => by
    unfold wrdF
    by_cases c : byt tx N a = f i
    · have := byt_lt c (hf i).1
      rw [if_pos c]
      have ih := wrd_in hf k (i + 1) (a + 1) (by omega)
      exact ⟨by omega, ih.2⟩
    · rw [if_neg c]
      exact ⟨Int.le_refl _, h⟩
/-- what is built so far -/
def BS (tx : Int → Int) (N : Int) (q : Nat) (a : Int) (L : Cla) (m : SM) : Prop := PS tx N q a (catC (clsL L)) m ∧ m.1 q 0 = J (rainL 0 L) ∧ m.1 q 1 = J ((clsL L).length : Int) ∧ ClsW q m 0 0 (clsL L)
def tqK (q : Nat) : Nat → Prop := fun k => k = 129 ∨ (q ≤ k ∧ k ≤ q + 3)
/-- a reading that failed: only its place is of use -/
def Bad (tx : Int → Int) (N : Int) (a : Int) (m : SM) : Prop := TxtC tx N m ∧ m.1 129 2 = J a ∧ (0 ≤ a ∧ a ≤ N)
theorem S_46 (hF : ThF q) (hq : isQ q) {a : Int} {st : List Int} {c : Cls} {m : SM} (hP : PS tx N q a st m) (hc : m.1 q 1 = J (c.length : Int)) (h10 : c.length < 10) (hW : ClsW q m 0 0 c) {w : Int} {ts : List Int} (hst : st = catC c ++ ts) : ∃ m', cB Q0 (d + 1) 46 [.ref q, .int (J w)] m = some (none, m') ∧ PS tx N q a st m' ∧ m'.1 q 0 = m.1 q 0 ∧ m'.1 q 1 = J (((c ++ [(w, ts)]).length : Nat) : Int) ∧ ClsW q m' 0 0 (c ++ [(w, ts)]) ∧ Fr (tqK q) m m' := by
  obtain ⟨f1, ⟨f2, f3, f4⟩, f5, f6, f7⟩ := hF
  obtain ⟨h1, h2, h3, ⟨h4, h5, h6⟩, h7⟩ := hP
  unfold isQ at hq
  generalize hm : ((up2 (up2 (up2 m.1 (q + 1) c.length (J w)) (q + 2) c.length (J (st.length : Int))) q 1 (J ((c.length : Int) + 1)), m.2) : SM) = m'
  have k0 : ∀ k, k ≠ q → k ≠ q + 1 → k ≠ q + 2 → m'.1 k = m.1 k := fun k z0 z1 z2 => by
    rw [← hm]
    show up2 (up2 (up2 m.1 (q + 1) c.length (J w)) (q + 2) c.length (J (st.length : Int))) q 1 (J ((c.length : Int) + 1)) k = _
    rw [u2_ne _ _ z0, u2_ne _ _ z2, u2_ne _ _ z1]
  have kq : ∀ i, i ≠ 1 → m'.1 q i = m.1 q i := fun i hi => by
    rw [← hm]
    show up2 (up2 (up2 m.1 (q + 1) c.length (J w)) (q + 2) c.length (J (st.length : Int))) q 1 (J ((c.length : Int) + 1)) q i = _
    rw [u2_at, if_neg hi, u2_ne _ _ (by omega), u2_ne _ _ (by omega)]
  have k1 : Fr (tqK q) m m' := ⟨fun k hk => by unfold tqK at hk; exact k0 k (by omega) (by omega) (by omega), by rw [← hm]⟩
  refine ⟨m', ?_, ⟨⟨by rw [k0 129 (by omega) (by omega) (by omega)]; exact h1.1, fun j g0 g1 => by rw [k0 130 (by omega) (by omega) (by omega)]; exact h1.2 j g0 g1⟩, by rw [k0 129 (by omega) (by omega) (by omega)]; exact h2, h3, ⟨by rw [kq 2 (by omega)]; exact h4, h5, h6.fr3 (k0 (q + 3) (by omega) (by omega) (by omega)) _ _⟩, h7.fr k1 fun k hk => by unfold tqK; omega⟩, kq 0 (by omega), ?_, ?_, k1⟩
  · rw [cB_eq]
    show rB Q0 46 (cB Q0 d) 0 [some (.ref q), some (.int (J w))] m = _
    rw [T_46_0]
    simp only [lits]
    simp (disch := omega) only [kk, lits, q0_J, q1_J, q2_J, cI_J, cT_J, cB_J, cZ_J, cS_J, c1_J, cA_J, J_clamp, u2_at, reduceIte, f1, f2, f3, f5, f6, hc, h4, u2_ne, Int.toNat_natCast, hm]
    rw [if_neg (by omega)]
  · rw [← hm]
    show up2 (up2 (up2 m.1 (q + 1) c.length (J w)) (q + 2) c.length (J (st.length : Int))) q 1 (J ((c.length : Int) + 1)) q 1 = _
    rw [u2_at, if_pos rfl]
    simp
  · have h8 := ClsW.snoc (q := q) (m := m) (w := w) (ts := ts) (x := J w) (y := J (st.length : Int)) c 0 0 (c.length : Int) (by omega) (by omega) hW rfl (by rw [hst, catC_len]; simp)
    rw [Int.toNat_natCast] at h8
    refine ClsW.fr (m := (up2 (up2 m.1 (q + 1) c.length (J w)) (q + 2) c.length (J (st.length : Int)), m.2)) ?_ ?_ _ _ _ h8
    · rw [← hm]
      show up2 (up2 (up2 m.1 (q + 1) c.length (J w)) (q + 2) c.length (J (st.length : Int))) q 1 (J ((c.length : Int) + 1)) (q + 1) = up2 (up2 m.1 (q + 1) c.length (J w)) (q + 2) c.length (J (st.length : Int)) (q + 1)
      rw [u2_ne _ _ (by omega)]
    · rw [← hm]
      show up2 (up2 (up2 m.1 (q + 1) c.length (J w)) (q + 2) c.length (J (st.length : Int))) q 1 (J ((c.length : Int) + 1)) (q + 2) = up2 (up2 m.1 (q + 1) c.length (J w)) (q + 2) c.length (J (st.length : Int)) (q + 2)
      rw [u2_ne _ _ (by omega)]
end
