/-! THE RELATION of the class and the reference -/
abbrev St : Type := Shp × Shp × Int × Int × Int × (Int → Cla) × (Int → Int) × List Int × Tp
abbrev St.A (S : St) : Shp := S.1
abbrev St.B (S : St) : Shp := S.2.1
abbrev St.n (S : St) : Int := S.2.2.1
abbrev St.f (S : St) : Int := S.2.2.2.1
abbrev St.N (S : St) : Int := S.2.2.2.2.1
abbrev St.Ls (S : St) : Int → Cla := S.2.2.2.2.2.1
abbrev St.tx (S : St) : Int → Int := S.2.2.2.2.2.2.1
abbrev St.l (S : St) : List Int := S.2.2.2.2.2.2.2.1
abbrev St.P (S : St) : Tp := S.2.2.2.2.2.2.2.2
abbrev St.wA (S : St) (A : Shp) : St := (A, S.2)
def okL (L : Cla) : Prop := ClaI L ∧ L.length ≤ 10 ∧ (catC (clsL L)).length ≤ 100
def RelP (S : St) : Prop := good S.n S.A ∧ (0 ≤ S.n ∧ S.n ≤ 6) ∧ ((S.f = 0 ∨ S.f = 1) ∧ (S.f = 1 → good S.n S.B)) ∧ (chr S.tx ∧ 0 ≤ S.N ∧ S.N ≤ 100) ∧ TapI S.P ∧ ∀ t, 0 ≤ t → t < S.n → okL (S.Ls t)
def TheA (S : St) (m : SM) : Prop := (∀ t, 0 ≤ t → t < S.n → TheC (thQ t) (rainL 0 (S.Ls t), clsL (S.Ls t)) m) ∧ TheC 125 (0, []) m
def RelC (S : St) (m : SM) : Prop := ShR 1 S.A m ∧ (m.1 0 6 = J S.n ∧ TheA S m) ∧ (m.1 0 3 = J S.f ∧ (S.f = 1 → ShR 42 S.B m)) ∧ TxtC S.tx S.N m ∧ (StrA m ∧ ConC m ∧ ∀ k : Int, 0 ≤ k → k ≤ 6 → m.1 1004 k.toNat = J (abv k)) ∧ LogC S.l m ∧ TapC S.P m
def ImN (S : St) (m : SM) : Prop := m.1 177 51 = J S.f ∧ (S.f = 1 → (∃ sh, ShN sh S.B (und m)) ∧ RwN S.B (und m) ∧ m.1 177 52 = J (S.B.1 0 3))
def RelN (S : St) (m : SM) : Prop := ((∃ sh, ShN sh S.A m) ∧ RwN S.A m ∧ m.1 177 15 = J (S.A.1 0 3) ∧ m.1 177 32 = J 9999) ∧ (m.1 177 14 = J S.n ∧ ∀ t, 0 ≤ t → t < S.n → TheN t (S.Ls t) m) ∧ ImN S m ∧ (TxtN S.tx S.N m ∧ LetN m) ∧ LogN S.l m ∧ TapN S.P m
def Rel (S : St) (m : SM) : Prop := RelP S ∧ RelC S m ∧ RelN S m
/-- cells at which the class's pieces look -/
def lkC (k : Nat) : Prop := k ≤ 82 ∨ (124 ≤ k ∧ k ≤ 133) ∨ (141 ≤ k ∧ k ≤ 176) ∨ 1000 ≤ k
theorem ClsAt.c1 {q : Nat} {m m' : SM} (h : m'.1 = m.1) : ∀ (c : Cls) (k i : Int), ClsAt q m k i c → ClsAt q m' k i c
  | [], _, _, _ => trivial
  | (w, ts) :: r, k, i, g => ⟨by rw [h]; exact g.1, by rw [h]; exact g.2.1, g.2.2.1.fr3 (by rw [h]) _ _, ClsAt.c1 h r _ _ g.2.2.2⟩
theorem TheC.c1 {q : Nat} {T : Int × Cls} {m m' : SM} (h : m'.1 = m.1) (g : TheC q T m) : TheC q T m' := ⟨by rw [h]; exact g.1, by rw [h]; exact g.2.1, by rw [h]; exact g.2.2.1, g.2.2.2.c1 h _ _ _⟩
theorem TheA.keep {S : St} {m m' : SM} (h : TheA S m) (hn : S.n ≤ 6) (h1 : ∀ k, 125 ≤ k → k ≤ 164 → ¬ (129 ≤ k ∧ k ≤ 140) → m'.1 k = m.1 k) : TheA S m' := by
  have hF : ∀ K : Nat → Prop, (∀ k, ¬ K k → 125 ≤ k ∧ k ≤ 164 ∧ ¬ (129 ≤ k ∧ k ≤ 140)) → Fr K m (m'.1, m.2) := fun K hK => ⟨fun k hk => h1 k (hK k hk).1 (hK k hk).2.1 (hK k hk).2.2, rfl⟩
  have hK := hF (fun k => ¬ (125 ≤ k ∧ k ≤ 164 ∧ ¬ (129 ≤ k ∧ k ≤ 140))) fun k hk => Classical.not_not.mp hk
  refine ⟨fun t h0 h2 => ?_, ?_⟩
  · have h9 : TheC (thQ t) (rainL 0 (S.Ls t), clsL (S.Ls t)) (m'.1, m.2) := (h.1 t h0 h2).fr hK fun k g0 g1 z => z (by unfold thQ at g0 g1; omega)
    exact TheC.c1 (m := (m'.1, m.2)) rfl h9
  · have h9 : TheC 125 (0, []) (m'.1, m.2) := h.2.fr hK fun k g0 g1 z => z (by omega)
    exact TheC.c1 (m := (m'.1, m.2)) rfl h9
theorem LogC.keep {l : List Int} {m m' : SM} (h : LogC l m) (h1 : m'.1 132 = m.1 132) (h2 : m'.1 133 = m.1 133) : LogC l m' := ⟨by rw [h1]; exact h.1, fun j b hj => by rw [h2]; exact h.2.1 j b hj, h.2.2⟩
theorem LogN.keep {l : List Int} {m m' : SM} (h : LogN l m) (h1 : m'.1 177 77 = m.1 177 77) (h2 : m'.1 227 = m.1 227) : LogN l m' := ⟨by rw [h1]; exact h.1, fun j b hj => by rw [h2]; exact h.2.1 j b hj, h.2.2⟩
theorem TapC.keep {P : Tp} {m m' : SM} (h : TapC P m) (h1 : ∀ k, 165 ≤ k → k ≤ 176 → m'.1 k = m.1 k) (h2 : ∀ k, 165 ≤ k → k ≤ 176 → m'.2 k = m.2 k) : TapC P m' := fun t h0 h3 => by
  obtain ⟨⟨a, b⟩, c⟩ := h t h0 h3
  exact ⟨⟨by rw [h1 _ (by omega) (by omega)]; exact a, by rw [h1 _ (by omega) (by omega)]; exact b⟩, fun i g0 g1 => by rw [h2 _ (by omega) (by omega)]; exact c i g0 g1⟩
theorem TapN.keep {P : Tp} {m m' : SM} (h : TapN P m) (h1 : m'.1 228 = m.1 228) (h2 : m'.1 229 = m.1 229) (h3 : m'.2 230 = m.2 230) : TapN P m' := fun t g0 g1 => by
  obtain ⟨⟨a, b⟩, c⟩ := h t g0 g1
  exact ⟨⟨by rw [h1]; exact a, by rw [h2]; exact b⟩, fun i z0 z1 => by rw [h3]; exact c i z0 z1⟩
theorem TxtC.keep {tx : Int → Int} {N : Int} {m m' : SM} (h : TxtC tx N m) (h1 : m'.1 129 1 = m.1 129 1) (h2 : m'.1 130 = m.1 130) : TxtC tx N m' := ⟨by rw [h1]; exact h.1, fun j g0 g1 => by rw [h2]; exact h.2 j g0 g1⟩
theorem TxtN.keep {tx : Int → Int} {N : Int} {m m' : SM} (h : TxtN tx N m) (h1 : m'.1 177 16 = m.1 177 16) (h2 : m'.1 188 = m.1 188) : TxtN tx N m' := ⟨by rw [h1]; exact h.1, fun j g0 g1 => by rw [h2]; exact h.2 j g0 g1⟩
def cons (m : SM) : Prop := StrA m ∧ ConC m ∧ ∀ k : Int, 0 ≤ k → k ≤ 6 → m.1 1004 k.toNat = J (abv k)
theorem cons.keep {m m' : SM} (h : cons m) (h1 : ∀ k, 1000 ≤ k → m'.1 k = m.1 k) : cons m' := by
  have hF : Fr (fun k => k < 1000) m (m'.1, m.2) := ⟨fun k hk => h1 k (by omega), rfl⟩
  have hs : StrA (m'.1, m.2) := h.1.fr hF fun k hk => by omega
  exact ⟨hs, fun k g0 g1 => by rw [h1 1001 (by omega), h1 1002 (by omega), h1 1003 (by omega)]; exact h.2.1 k g0 g1, fun k g0 g1 => by rw [h1 1004 (by omega)]; exact h.2.2 k g0 g1⟩
theorem ShR.keep {s : Nat} {A : Shp} {m m' : SM} (h : ShR s A m) (h6 : A.1 0 0 ≤ 6) (h1 : ∀ k, s ≤ k → k ≤ s + 40 → m'.1 k = m.1 k) : ShR s A m' := by
  have hF : Fr (fun k => ¬ (s ≤ k ∧ k ≤ s + 40)) m (m'.1, m.2) := ⟨fun k hk => h1 k (Classical.not_not.mp hk).1 (Classical.not_not.mp hk).2, rfl⟩
  have h9 : ShR s A (m'.1, m.2) := h.fr h6 hF fun k g0 g1 z => z ⟨g0, g1⟩
  exact h9
theorem ImN.keep {S : St} {m m' : SM} (h : ImN S m) (hB : S.f = 1 → good S.n S.B) (h1 : ∀ i, 51 ≤ i → i ≤ 59 → m'.1 177 i = m.1 177 i) (h2 : ∀ k, 210 ≤ k → k ≤ 226 → m'.1 k = m.1 k) : ImN S m' := by
  have hu := und_same (m := m) (m' := m') (fun i g0 g1 => h1 i (by omega) g1) h2
  refine ⟨by rw [h1 51 (by omega) (by omega)]; exact h.1, fun hf => ?_⟩
  obtain ⟨⟨sh, y0⟩, y1, y2⟩ := h.2 hf
  have hg := hB hf
  exact ⟨⟨sh, y0.same hg.1.1.1.2 hu⟩, y1.same hg.1 hu, by rw [h1 52 (by omega) (by omega)]; exact y2⟩
/-- the class's pieces, where nothing that they look at has changed -/
theorem RelC.keep {S : St} {m m' : SM} (hP : RelP S) (h : RelC S m) (h1 : ∀ k, lkC k → m'.1 k = m.1 k) (h2 : ∀ k, k ≤ 176 → m'.2 k = m.2 k) : RelC S m' := by
  obtain ⟨a, b, c, d, e, f, g⟩ := h
  have k1 : ∀ k, k ≤ 82 → m'.1 k = m.1 k := fun k hk => h1 k (Or.inl hk)
  refine ⟨a.keep hP.1.1.1.1.2 fun k g0 g1 => k1 k (by omega), ⟨by rw [k1 0 (by omega)]; exact b.1, b.2.keep hP.2.1.2 fun k g0 g1 g2 => h1 k (by unfold lkC; omega)⟩, ⟨by rw [k1 0 (by omega)]; exact c.1, fun hf => (c.2 hf).keep (hP.2.2.1.2 hf).1.1.1.2 fun k g0 g1 => k1 k (by omega)⟩, d.keep (by rw [h1 129 (by unfold lkC; omega)]) (h1 130 (by unfold lkC; omega)), cons.keep e fun k hk => h1 k (by unfold lkC; omega), f.keep (h1 132 (by unfold lkC; omega)) (h1 133 (by unfold lkC; omega)), g.keep (fun k g0 g1 => h1 k (by unfold lkC; omega)) (fun k g0 g1 => h2 k (by omega))⟩
theorem RelC.q {S : St} {m m' : SM} (hP : RelP S) (h : RelC S m) (hF : Fr scK m m') : RelC S m' := h.keep hP (fun k hk => hF.1 k (by unfold lkC at hk; unfold scK; omega)) (fun k _ => by rw [hF.2])
theorem RelC.ref {S : St} {m m' : SM} (hP : RelP S) (h : RelC S m) (h1 : ∀ k, (k ≤ 176 ∨ 1000 ≤ k) → m'.1 k = m.1 k) (h2 : ∀ k, k ≤ 176 → m'.2 k = m.2 k) : RelC S m' := h.keep hP (fun k hk => h1 k (by unfold lkC at hk; omega)) h2
/-- the reference's pieces, where the class has worked -/
theorem RelN.cls {S : St} {m m' : SM} (hP : RelP S) (h : RelN S m) (h1 : ∀ k, 177 ≤ k → k ≤ 231 → m'.1 k = m.1 k) (h2 : m'.2 230 = m.2 230) : RelN S m' := by
  obtain ⟨⟨⟨sh, a⟩, b, c, d⟩, ⟨e, f⟩, g, ⟨i, j⟩, k, l⟩ := h
  have hF : FrR (fun k => ¬ (177 ≤ k ∧ k ≤ 231)) noI m (m'.1, m.2) := ⟨fun k hk _ => h1 k (Classical.not_not.mp hk).1 (Classical.not_not.mp hk).2, fun i _ => congrFun (h1 177 (by omega) (by omega)) i, rfl⟩
  have e7 : m'.1 177 = m.1 177 := h1 177 (by omega) (by omega)
  have a' : ShN sh S.A (m'.1, m.2) := a.fr hF (fun k hk z => z (by omega)) (fun _ _ z => z)
  have b' : RwN S.A (m'.1, m.2) := b.fr hF (fun k g0 g1 z => z (by omega)) (fun _ _ _ z => z) rfl
  exact ⟨⟨⟨sh, a'⟩, b', by rw [e7]; exact c, by rw [e7]; exact d⟩, ⟨by rw [e7]; exact e, fun t g0 g1 => (f t g0 g1).fr (fun k z0 z1 => h1 k (by omega) (by omega)) g0⟩, g.keep hP.2.2.1.2 (fun i _ _ => by rw [e7]) (fun k z0 z1 => h1 k (by omega) (by omega)), ⟨i.keep (by rw [e7]) (h1 188 (by omega) (by omega)), fun i g0 g1 => by rw [h1 196 (by omega) (by omega)]; exact j i g0 g1⟩, k.keep (by rw [e7]) (h1 227 (by omega) (by omega)), l.keep (h1 228 (by omega) (by omega)) (h1 229 (by omega) (by omega)) h2⟩
/-- .. where the reference was asked -/
theorem RelN.bk {S : St} {m m' : SM} (hP : RelP S) (h : RelN S m) (hB : BK m m') : RelN S m' := by
  obtain ⟨⟨⟨sh, a⟩, b, c, d⟩, ⟨e, f⟩, g, ⟨i, j⟩, k, l⟩ := h
  have k0 : ∀ k, k ≠ 177 → k ≠ 187 → k ≠ 197 → k ≠ 198 → ¬ (199 ≤ k ∧ k ≤ 202) → m'.1 k = m.1 k := hB.1
  have i0 : ∀ i, ¬ (33 ≤ i ∧ i ≤ 35) → m'.1 177 i = m.1 177 i := hB.2.1
  exact ⟨⟨⟨sh, a.bk hP.1.1.1.1.2 hB⟩, b.bk hB, by rw [i0 15 (by omega)]; exact c, by rw [i0 32 (by omega)]; exact d⟩, ⟨by rw [i0 14 (by omega)]; exact e, fun t g0 g1 => (f t g0 g1).fr (fun k z0 z1 => k0 k (by omega) (by omega) (by omega) (by omega) (by omega)) g0⟩, g.keep hP.2.2.1.2 (fun i z0 z1 => i0 i (by omega)) (fun k z0 z1 => k0 k (by omega) (by omega) (by omega) (by omega) (by omega)), ⟨i.keep (i0 16 (by omega)) (k0 188 (by omega) (by omega) (by omega) (by omega) (by omega)), fun i g0 g1 => by rw [k0 196 (by omega) (by omega) (by omega) (by omega) (by omega)]; exact j i g0 g1⟩, k.keep (i0 77 (by omega)) (k0 227 (by omega) (by omega) (by omega) (by omega) (by omega)), l.keep (k0 228 (by omega) (by omega) (by omega) (by omega) (by omega)) (k0 229 (by omega) (by omega) (by omega) (by omega) (by omega)) (by rw [hB.2.2.2])⟩
theorem BK.lo {m m' : SM} (h : BK m m') : (∀ k, (k ≤ 176 ∨ 1000 ≤ k) → m'.1 k = m.1 k) ∧ ∀ k, k ≤ 176 → m'.2 k = m.2 k := ⟨fun k hk => h.1 k (by omega) (by omega) (by omega) (by omega) (by omega), fun k _ => by rw [h.2.2.2]⟩
theorem FrR.lo {K KI : Nat → Prop} {m m' : SM} (h : FrR K KI m m') (hK : ∀ k, K k → 177 ≤ k ∧ k ≤ 231) : (∀ k, (k ≤ 176 ∨ 1000 ≤ k) → m'.1 k = m.1 k) ∧ ∀ k, k ≤ 176 → m'.2 k = m.2 k := ⟨fun k hk => h.1 k (fun z => by have := hK k z; omega) (by omega), fun k _ => by rw [h.2.2]⟩
theorem Fr.hi {K : Nat → Prop} {m m' : SM} (h : Fr K m m') (hK : ∀ k, K k → k ≤ 176) : (∀ k, 177 ≤ k → k ≤ 231 → m'.1 k = m.1 k) ∧ m'.2 230 = m.2 230 := ⟨fun k g0 g1 => h.1 k fun z => by have := hK k z; omega, by rw [h.2]⟩
/-- the stage -/
def stL (S : St) : Cla := if 0 ≤ S.A.1 0 3 then S.Ls (S.A.1 0 3) else []
theorem stL_ok {S : St} (hP : RelP S) : okL (stL S) := by
  unfold stL
  split
  · exact hP.2.2.2.2.2 _ (by assumption) hP.1.2.2.2
  · exact ⟨trivial, by simp, by simp [clsL, catC]⟩
theorem ClsI_of : ∀ L : Cla, ClaI L → ClsI (clsL L)
  | [], _ => trivial
  | (w, k, ts) :: r, h => by
    unfold ClaI at h
    show ClsI (if w = 2 then clsL r else ((if w = 0 then k else -k), ts) :: clsL r)
    by_cases e : w = 2
    · rw [if_pos e]; exact ClsI_of r h.2.2.2
    · rw [if_neg e]
      have := h.2.2.1 e
      exact ⟨by split <;> omega, this.1, this.2, ClsI_of r h.2.2.2⟩
theorem thI_okL {L : Cla} (h : okL L) : ThI (rainL 0 L, clsL L) := by
  obtain ⟨h1, h2, h3⟩ := h
  refine ⟨rainL_in L 0 h1 (by omega), ?_, ?_, ClsI_of L h1⟩
  · have := clsL_le L
    show (clsL L).length ≤ 10
    omega
  · show totC (clsL L) ≤ 100
    rw [catC_len]
    omega
theorem Rel.view {S : St} {m : SM} (h : Rel S m) : View 1 S.n (rainL 0 (stL S), clsL (stL S)) S.A m := by
  obtain ⟨hP, hC, hN⟩ := h
  refine ⟨hC.1, ⟨hC.2.1.1, hP.2.1⟩, ?_, thI_okL (stL_ok hP)⟩
  have h4 := hP.1.2.2.2
  unfold thS stL
  by_cases e : 0 ≤ S.A.1 0 3
  · rw [if_pos ⟨e, by omega⟩, if_pos e]
    exact hC.2.1.2.1 _ e h4
  · rw [if_neg (by omega), if_neg e]
    exact hC.2.1.2.2
theorem RelN.view {S : St} {m : SM} (hP : RelP S) (hN : RelN S m) : ∃ sh, ViewN sh (S.A.1 0 3) (stL S) S.A m := by
  obtain ⟨⟨⟨sh, a⟩, b, c, d⟩, ⟨e, f⟩, -⟩ := hN
  have i3 := hP.1.1.1.2.2.2
  refine ⟨sh, a, ?_⟩
  by_cases e2 : 0 ≤ S.A.1 0 3
  · have hs : stL S = S.Ls (S.A.1 0 3) := by unfold stL; rw [if_pos e2]
    rw [hs]
    exact (f _ e2 hP.1.2.2.2).stg ⟨e2, i3.2⟩ c
  · have hs : stL S = [] := by unfold stL; rw [if_neg e2]
    rw [hs]
    exact ⟨c, Or.inl ⟨by omega, rfl⟩, trivial⟩
