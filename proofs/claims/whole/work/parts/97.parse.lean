/-! THE TEXT as it is read: what is taken, from where to where -/
abbrev Rp : Type := Int × Option (List Int)
def bnd (r : Rp) (k : Int → List Int → Rp) : Rp := match r.2 with
  | none => (r.1, none)
  | some ts => k r.1 ts
def rdOk (r : Rp) : Int := match r.2 with
  | none => 0
  | some _ => 1
def plc (c : Int) : Int := if c = 112 then 0 else if c = 107 then 1 else if c = 118 then 2 else if c = 99 then 3 else if c = 108 then 4 else if c = 110 then 5 else -1
def sgn (c : Int) : Int := if c = 60 then 0 else if c = 61 then 1 else if c = 62 then 2 else -1
def f10 (i : Int) : Int := if i = 0 then 119 else if i = 1 then 97 else if i = 2 then 114 else if i = 3 then 109 else 0
def f11 (i : Int) : Int := if i = 0 then 99 else if i = 1 then 111 else if i = 2 then 111 else if i = 3 then 108 else 0
def f12 (i : Int) : Int := if i = 0 then 114 else if i = 1 then 97 else if i = 2 then 105 else if i = 3 then 110 else 0
def f13 (i : Int) : Int := if i = 0 then 112 else if i = 1 then 107 else if i = 2 then 118 else if i = 3 then 99 else if i = 4 then 108 else if i = 5 then 110 else 0
def f14 (i : Int) : Int := if i = 0 then 60 else if i = 1 then 61 else if i = 2 then 62 else 0
theorem chr10 : chr f10 := fun i => by unfold f10; (repeat' split) <;> omega
theorem chr11 : chr f11 := fun i => by unfold f11; (repeat' split) <;> omega
theorem chr12 : chr f12 := fun i => by unfold f12; (repeat' split) <;> omega
theorem chr13 : chr f13 := fun i => by unfold f13; (repeat' split) <;> omega
theorem chr14 : chr f14 := fun i => by unfold f14; (repeat' split) <;> omega
theorem ix13 (c : Int) : ixF f13 c 6 0 = plc c := by
  unfold plc
  simp only [ixF, f13]
  simp only [Int.reduceAdd, Int.reduceEq, reduceIte, eq_comm (b := c)]
theorem ix14 (c : Int) : ixF f14 c 3 0 = sgn c := by
  unfold sgn
  simp only [ixF, f14]
  simp only [Int.reduceAdd, Int.reduceEq, reduceIte, eq_comm (b := c)]
def StrA (m : SM) : Prop := StrC 1010 4 f10 m ∧ StrC 1011 4 f11 m ∧ StrC 1012 4 f12 m ∧ StrC 1013 6 f13 m ∧ StrC 1014 3 f14 m
theorem sF10 : StrF 1010 4 := ⟨rfl, rfl, rfl⟩
theorem sF11 : StrF 1011 4 := ⟨rfl, rfl, rfl⟩
theorem sF12 : StrF 1012 4 := ⟨rfl, rfl, rfl⟩
theorem sF13 : StrF 1013 6 := ⟨rfl, rfl, rfl⟩
theorem sF14 : StrF 1014 3 := ⟨rfl, rfl, rfl⟩
theorem StrA.fr {m m' : SM} {K : Nat → Prop} (h : StrA m) (hF : Fr K m m') (hK : ∀ k, 1010 ≤ k → ¬ K k) : StrA m' := ⟨h.1.fr hF (hK _ (by omega)) (hK _ (by omega)), h.2.1.fr hF (hK _ (by omega)) (hK _ (by omega)), h.2.2.1.fr hF (hK _ (by omega)) (hK _ (by omega)), h.2.2.2.1.fr hF (hK _ (by omega)) (hK _ (by omega)), h.2.2.2.2.fr hF (hK _ (by omega)) (hK _ (by omega))⟩
section
variable (tx : Int → Int) (N : Int)
def wrdF (f : Int → Int) : Nat → Int → Int → Int × Bool
  | 0, _, a => if byt tx N a = 32 then (a + 1, true) else (a, false)
  | k + 1, i, a => if byt tx N a = f i then wrdF f k (i + 1) (a + 1) else (a, false)
def numF : Nat → Int → Int → Int × Int
  | 0, n, a => (a, n)
  | k + 1, n, a => if 48 ≤ byt tx N a ∧ byt tx N a ≤ 57 then numF k ((if 0 < n then n else 0) * 10 + byt tx N a - 48) (a + 1) else (a, n)
def tstF (a : Int) : Rp := if plc (byt tx N a) < 0 then (a, none) else if sgn (byt tx N (a + 1)) < 0 then (a + 1, none) else if (numF tx N 2 (-1) (a + 2)).2 < 0 then ((numF tx N 2 (-1) (a + 2)).1, none) else ((numF tx N 2 (-1) (a + 2)).1, some [(plc (byt tx N a) * 3 + sgn (byt tx N (a + 1))) * 100 + (numF tx N 2 (-1) (a + 2)).2])
def lpF (one : Int → Rp) (sep op : Int) : Nat → Int → List Int → Rp
  | 0, a, acc => (a, some acc)
  | k + 1, a, acc => if byt tx N a = sep then bnd (one (a + 1)) fun a' ts => lpF one sep op k a' (acc ++ ts ++ [op]) else (a, some acc)
def chF (one : Int → Rp) (sep op : Int) (a : Int) : Rp := bnd (one a) fun a' ts => lpF tx N one sep op 100 a' ts
def pF : Nat → Int → Rp
  | 0, a => tstF tx N a
  | r + 1, a => if byt tx N a = 33 then bnd (pF r (a + 1)) fun a' ts => (a', some (ts ++ [-1])) else if byt tx N a = 40 then bnd (chF tx N (chF tx N (pF r) 38 (-2)) 124 (-3) (a + 1)) (fun a' ts => if byt tx N a' = 41 then (a' + 1, some ts) else (a', none)) else tstF tx N a
def pT (r : Nat) : Int → Rp := chF tx N (pF tx N r) 38 (-2)
def pE (r : Nat) : Int → Rp := chF tx N (pT tx N r) 124 (-3)
end
section
variable {tx : Int → Int} {N : Int}
theorem byt_in (hx : chr tx) (a : Int) : -1 ≤ byt tx N a ∧ byt tx N a ≤ 127 := by
  have := hx a
  unfold byt
  split <;> omega
theorem byt_lt {a c : Int} (h : byt tx N a = c) (hc : 0 ≤ c) : a < N := by
  unfold byt at h
  split at h
  · assumption
  · omega
theorem plc_in (c : Int) : -1 ≤ plc c ∧ plc c ≤ 5 ∧ (0 ≤ plc c → 0 ≤ c) := by unfold plc; (repeat' split) <;> omega
theorem sgn_in (c : Int) : -1 ≤ sgn c ∧ sgn c ≤ 2 ∧ (0 ≤ sgn c → 0 ≤ c) := by unfold sgn; (repeat' split) <;> omega
theorem numF_in : ∀ (k : Nat) (n a : Int), a ≤ N → a ≤ (numF tx N k n a).1 ∧ (numF tx N k n a).1 ≤ N
  | 0, n, a, h => ⟨Int.le_refl _, h⟩
  | k + 1, n, a, h => by
    unfold numF
    by_cases c : 48 ≤ byt tx N a ∧ byt tx N a ≤ 57
    · rw [if_pos c]
      have h2 : a < N := byt_lt (c := byt tx N a) rfl (by omega)
      have := numF_in k ((if 0 < n then n else 0) * 10 + byt tx N a - 48) (a + 1) (by omega)
      omega
    · rw [if_neg c]
      exact ⟨Int.le_refl _, h⟩
theorem num2 (a : Int) : -1 ≤ (numF tx N 2 (-1) a).2 ∧ (numF tx N 2 (-1) a).2 ≤ 99 ∧ (0 ≤ (numF tx N 2 (-1) a).2 → a + 1 ≤ (numF tx N 2 (-1) a).1) := by
  unfold numF
  by_cases c : 48 ≤ byt tx N a ∧ byt tx N a ≤ 57
  · rw [if_pos c]
    unfold numF
    by_cases c2 : 48 ≤ byt tx N (a + 1) ∧ byt tx N (a + 1) ≤ 57
    · rw [if_pos c2]
      unfold numF
      simp only
      rw [if_neg (show ¬ (0 : Int) < -1 by omega)]
      split <;> omega
    · rw [if_neg c2]
      simp only
      rw [if_neg (show ¬ (0 : Int) < -1 by omega)]
      omega
  · rw [if_neg c]
    exact ⟨by simp, by simp, by simp⟩
/-- how far a reading goes -/
def Prg (N a : Int) (r : Rp) : Prop := a ≤ r.1 ∧ r.1 ≤ N ∧ ∀ ts, r.2 = some ts → a + ts.length ≤ r.1 ∧ ts ≠ []
theorem tst_prg {a : Int} (h : a ≤ N) : Prg N a (tstF tx N a) := by
  have p1 := plc_in (byt tx N a)
  have p2 := sgn_in (byt tx N (a + 1))
  unfold tstF
  by_cases c1 : plc (byt tx N a) < 0
  · rw [if_pos c1]
    exact ⟨Int.le_refl _, h, fun ts e => by simp at e⟩
  · have h1 : a < N := byt_lt (c := byt tx N a) rfl (p1.2.2 (by omega))
    rw [if_neg c1]
    by_cases c2 : sgn (byt tx N (a + 1)) < 0
    · rw [if_pos c2]
      exact ⟨by show a ≤ a + 1; omega, by show a + 1 ≤ N; omega, fun ts e => by simp at e⟩
    · have h2 : a + 1 < N := byt_lt (c := byt tx N (a + 1)) rfl (p2.2.2 (by omega))
      have h3 := numF_in (tx := tx) (N := N) 2 (-1) (a + 2) (by omega)
      rw [if_neg c2]
      split
      · exact ⟨by simp only; omega, h3.2, fun ts e => by simp at e⟩
      · refine ⟨by simp only; omega, h3.2, fun ts e => ?_⟩
        have e := Option.some.inj e
        subst e
        exact ⟨by simp only [List.length_singleton]; omega, by simp⟩
theorem lp_prg {one : Int → Rp} {sep op : Int} (hs : 0 ≤ sep) (ho : ∀ a, a ≤ N → Prg N a (one a)) : ∀ (k : Nat) (a b : Int) (acc : List Int), a ≤ b → b ≤ N → a + acc.length ≤ b → acc ≠ [] → Prg N a (lpF tx N one sep op k b acc)
  | 0, a, b, acc, h1, h2, h3, h4 => ⟨h1, h2, fun ts e => by
    have e := Option.some.inj e
    subst e
    exact ⟨h3, h4⟩⟩
  | k + 1, a, b, acc, h1, h2, h3, h4 => by
    unfold lpF
    by_cases c : byt tx N b = sep
    · have hb : b < N := byt_lt c hs
      have ho1 := ho (b + 1) (by omega)
      rw [if_pos c]
      unfold bnd
      generalize one (b + 1) = r at *
      obtain ⟨a', o⟩ := r
      cases o with
      | none => exact ⟨by have := ho1.1; simp only at this ⊢; omega, ho1.2.1, fun ts e => by simp at e⟩
      | some ts =>
        obtain ⟨g1, g2, g3⟩ := ho1
        obtain ⟨g4, g5⟩ := g3 ts rfl
        exact lp_prg hs ho k a a' (acc ++ ts ++ [op]) (by simp only at g1; omega) g2 (by simp only [List.length_append, List.length_singleton] at g4 ⊢; omega) (by simp)
    · rw [if_neg c]
      exact ⟨h1, h2, fun ts e => by
        have e := Option.some.inj e
        subst e
        exact ⟨h3, h4⟩⟩
theorem ch_prg {one : Int → Rp} {sep op : Int} (hs : 0 ≤ sep) (ho : ∀ a, a ≤ N → Prg N a (one a)) {a : Int} (h : a ≤ N) : Prg N a (chF tx N one sep op a) := by
  have h1 := ho a h
  unfold chF bnd
  generalize one a = r at *
  obtain ⟨a', o⟩ := r
  cases o with
  | none => exact ⟨h1.1, h1.2.1, fun ts e => by simp at e⟩
  | some ts => exact lp_prg hs ho 100 a a' ts h1.1 h1.2.1 (h1.2.2 ts rfl).1 (h1.2.2 ts rfl).2
theorem pF_prg : ∀ (r : Nat) (a : Int), a ≤ N → Prg N a (pF tx N r a)
  | 0, a, h => tst_prg h
  | r + 1, a, h => by
    unfold pF
    by_cases c1 : byt tx N a = 33
    · have ha : a < N := byt_lt c1 (by omega)
      have h1 := pF_prg r (a + 1) (by omega)
      rw [if_pos c1]
      unfold bnd
      generalize pF tx N r (a + 1) = q at *
      obtain ⟨a', o⟩ := q
      cases o with
      | none => exact ⟨by have := h1.1; simp only at this ⊢; omega, h1.2.1, fun ts e => by simp at e⟩
      | some ts =>
        obtain ⟨g1, g2, g3⟩ := h1
        obtain ⟨g4, g5⟩ := g3 ts rfl
        refine ⟨by simp only at g1 ⊢; omega, g2, fun u e => ?_⟩
        have e := Option.some.inj e
        subst e
        exact ⟨by simp only [List.length_append, List.length_singleton] at g4 ⊢; omega, by simp⟩
    · rw [if_neg c1]
      by_cases c2 : byt tx N a = 40
      · have ha : a < N := byt_lt c2 (by omega)
        have h1 := ch_prg (tx := tx) (op := -3) (show (0 : Int) ≤ 124 by omega) (fun b hb => ch_prg (tx := tx) (op := -2) (show (0 : Int) ≤ 38 by omega) (fun c hc => pF_prg r c hc) hb) (show a + 1 ≤ N by omega)
        rw [if_pos c2]
        unfold bnd
        generalize chF tx N (chF tx N (pF tx N r) 38 (-2)) 124 (-3) (a + 1) = q at *
        obtain ⟨a', o⟩ := q
        obtain ⟨g1, g2, g3⟩ := h1
        simp only at g1 g2
        cases o with
        | none => exact ⟨by simp only; omega, g2, fun ts e => by simp at e⟩
        | some ts =>
          obtain ⟨g4, g5⟩ := g3 ts rfl
          simp only at g4 ⊢
          by_cases c3 : byt tx N a' = 41
          · have hb : a' < N := byt_lt c3 (by omega)
            rw [if_pos c3]
            refine ⟨by simp only; omega, by simp only; omega, fun u e => ?_⟩
            have e := Option.some.inj e
            subst e
            exact ⟨by simp only; omega, g5⟩
          · rw [if_neg c3]
            exact ⟨by simp only; omega, g2, fun ts e => by simp at e⟩
      · rw [if_neg c2]
        exact tst_prg h
theorem pT_prg (r : Nat) {a : Int} (h : a ≤ N) : Prg N a (pT tx N r a) := ch_prg (by omega) (fun c hc => pF_prg r c hc) h
theorem pE_prg (r : Nat) {a : Int} (h : a ≤ N) : Prg N a (pE tx N r a) := ch_prg (by omega) (fun _ hc => pT_prg r hc) h
/-- what is taken, run, puts one truth on top -/
def Pu (H : Nat) (ts : List Int) : Prop := ∀ (h : Nat) (rest : List Int), h ≤ H → WfT rest (h + 1) → WfT (ts ++ rest) h
def PuR (H : Nat) (r : Rp) : Prop := ∀ ts, r.2 = some ts → Pu H ts
theorem tst_pu (a : Int) : PuR 11 (tstF tx N a) := by
  intro ts e
  have p1 := plc_in (byt tx N a)
  have p2 := sgn_in (byt tx N (a + 1))
  have p3 := num2 (tx := tx) (N := N) (a + 2)
  unfold tstF at e
  split at e
  · simp at e
  · split at e
    · simp at e
    · split at e
      · simp at e
      · have e := Option.some.inj e
        subst e
        intro h rest hh hw
        show WfT (_ :: rest) h
        unfold WfT
        rw [if_neg (by omega), if_neg (by omega)]
        exact ⟨by omega, by omega, hw⟩
theorem lp_pu {H : Nat} {one : Int → Rp} {sep op : Int} (hop : op = -2 ∨ op = -3) (ho : ∀ a, PuR (H + 1) (one a)) : ∀ (k : Nat) (b : Int) (acc : List Int), Pu H acc → PuR H (lpF tx N one sep op k b acc)
  | 0, b, acc, h => fun ts e => by
    have e := Option.some.inj e
    subst e
    exact h
  | k + 1, b, acc, h => by
    unfold lpF
    by_cases c : byt tx N b = sep
    · have ho1 := ho (b + 1)
      rw [if_pos c]
      unfold bnd
      generalize one (b + 1) = r at *
      obtain ⟨a', o⟩ := r
      cases o with
      | none => exact fun ts e => by simp at e
      | some ts =>
        refine lp_pu hop ho k a' (acc ++ ts ++ [op]) fun g rest hg hw => ?_
        rw [List.append_assoc, List.append_assoc]
        refine h g _ hg (ho1 ts rfl (g + 1) _ (by omega) ?_)
        show WfT (op :: rest) (g + 2)
        unfold WfT
        rw [if_neg (by omega), if_pos hop]
        exact ⟨by omega, hw⟩
    · rw [if_neg c]
      exact fun ts e => by
        have e := Option.some.inj e
        subst e
        exact h
theorem ch_pu {H : Nat} {one : Int → Rp} {sep op : Int} (hop : op = -2 ∨ op = -3) (ho : ∀ a, PuR (H + 1) (one a)) (a : Int) : PuR H (chF tx N one sep op a) := by
  have h1 := ho a
  unfold chF bnd
  generalize one a = r at *
  obtain ⟨a', o⟩ := r
  cases o with
  | none => exact fun ts e => by simp at e
  | some ts => exact lp_pu hop ho 100 a' ts fun g rest hg hw => h1 ts rfl g rest (by omega) hw
theorem pF_pu : ∀ (r : Nat) (a : Int), r ≤ 5 → PuR (11 - 2 * r) (pF tx N r a)
  | 0, a, _ => tst_pu a
  | r + 1, a, hr => by
    have ih := fun b => pF_pu r b (by omega)
    unfold pF
    by_cases c1 : byt tx N a = 33
    · have h1 := ih (a + 1)
      rw [if_pos c1]
      unfold bnd
      generalize pF tx N r (a + 1) = q at *
      obtain ⟨a', o⟩ := q
      cases o with
      | none => exact fun ts e => by simp at e
      | some ts =>
        intro u e
        have e := Option.some.inj e
        subst e
        intro g rest hg hw
        rw [List.append_assoc]
        refine h1 ts rfl g _ (by omega) ?_
        show WfT (-1 :: rest) (g + 1)
        unfold WfT
        rw [if_pos rfl]
        exact ⟨by omega, hw⟩
    · rw [if_neg c1]
      by_cases c2 : byt tx N a = 40
      · have h1 := ch_pu (tx := tx) (N := N) (H := 11 - 2 * (r + 1)) (sep := 124) (op := -3) (Or.inr rfl) (ch_pu (tx := tx) (N := N) (H := 11 - 2 * (r + 1) + 1) (sep := 38) (op := -2) (Or.inl rfl) (fun b => by rw [show 11 - 2 * (r + 1) + 1 + 1 = 11 - 2 * r by omega]; exact ih b)) (a + 1)
        rw [if_pos c2]
        unfold bnd
        generalize chF tx N (chF tx N (pF tx N r) 38 (-2)) 124 (-3) (a + 1) = q at *
        obtain ⟨a', o⟩ := q
        cases o with
        | none => exact fun ts e => by simp at e
        | some ts =>
          intro u e
          simp only at e
          split at e
          · have e := Option.some.inj e
            subst e
            exact h1 ts rfl
          · simp at e
      · rw [if_neg c2]
        intro ts e g rest hg hw
        exact tst_pu a ts e g rest (by omega) hw
theorem pE_wf {r : Nat} (hr : r ≤ 4) (a : Int) {ts : List Int} (e : (pE tx N r a).2 = some ts) : WfT ts 0 := by
  have h := ch_pu (tx := tx) (N := N) (H := 1) (sep := 124) (op := -3) (Or.inr rfl) (fun b => ch_pu (tx := tx) (N := N) (H := 2) (sep := 38) (op := -2) (Or.inl rfl) (fun c => fun ts e g rest hg hw => pF_pu r c (by omega) ts e g rest (by omega) hw) b) a ts e 0 [] (by omega) rfl
  rw [List.append_nil] at h
  exact h
end
