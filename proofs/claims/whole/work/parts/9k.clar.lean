/-! CLAUSES read by the reference -/
def CluW (m : SM) (f : Int) : Int → Int → Cla → Prop
  | _, _, [] => True
  | i, o, (w, k, ts) :: r => (m.1 190 i.toNat = J w ∧ m.1 191 i.toNat = J k ∧ (w ≠ 2 → m.1 192 i.toNat = J (100 * f + o) ∧ m.1 193 i.toNat = J (100 * f + o + ts.length))) ∧ CluW m f (i + 1) (if w = 2 then o else o + ts.length) r
theorem CluW.at {m : SM} {f : Int} (hf : 0 ≤ f ∧ f ≤ 5) : ∀ (L : Cla) (i o : Int), 0 ≤ o → o + ((catC (clsL L)).length : Int) ≤ 100 → CluW m f i o L → SigAt m (100 * f + o) (catC (clsL L)) → CluAt m i L
  | [], _, _, _, _, _, _ => trivial
  | (w, k, ts) :: r, i, o, h0, h1, h, g => by
    by_cases e : w = 2
    · have e1 : clsL ((w, k, ts) :: r) = clsL r := by
        show (if w = 2 then clsL r else _) = _
        rw [if_pos e]
      have h2 := h.2
      rw [if_pos e] at h2
      rw [e1] at g h1
      exact ⟨⟨h.1.1, h.1.2.1, fun z => absurd e z⟩, CluW.at hf r (i + 1) o h0 h1 h2 g⟩
    · have e1 : catC (clsL ((w, k, ts) :: r)) = ts ++ catC (clsL r) := by
        show catC (if w = 2 then clsL r else _ :: clsL r) = _
        rw [if_neg e]
        rfl
      have h2 := h.2
      rw [if_neg e] at h2
      rw [e1] at g h1
      simp only [List.length_append] at h1
      have g2 := (SigAt.app ts _ _).mp g
      obtain ⟨y1, y2⟩ := h.1.2.2 e
      exact ⟨⟨h.1.1, h.1.2.1, fun _ => ⟨100 * f + o, y1, y2, by omega, by omega, g2.1⟩⟩, CluW.at hf r (i + 1) (o + ts.length) (by omega) (by omega) h2 (by rw [← Int.add_assoc]; exact g2.2)⟩
theorem CluW.fr {m m' : SM} {f : Int} : ∀ (L : Cla) (i o : Int), 0 ≤ i → (∀ k, 190 ≤ k → k ≤ 193 → ∀ j : Int, i ≤ j → j < i + L.length → m'.1 k j.toNat = m.1 k j.toNat) → CluW m f i o L → CluW m' f i o L
  | [], _, _, _, _, _ => trivial
  | (w, k, ts) :: r, i, o, h0, h1, h => by
    simp only [List.length_cons] at h1
    refine ⟨⟨by rw [h1 190 (by omega) (by omega) i (by omega) (by omega)]; exact h.1.1, by rw [h1 191 (by omega) (by omega) i (by omega) (by omega)]; exact h.1.2.1, fun z => ?_⟩, CluW.fr r (i + 1) _ (by omega) (fun q g0 g1 j g2 g3 => h1 q g0 g1 j (by omega) (by omega)) h.2⟩
    rw [h1 192 (by omega) (by omega) i (by omega) (by omega), h1 193 (by omega) (by omega) i (by omega) (by omega)]
    exact h.1.2.2 z
theorem CluW.snoc {m : SM} {f : Int} {w k : Int} {ts : List Int} : ∀ (L : Cla) (i o : Int), 0 ≤ i → CluW m f i o L → m.1 190 (i + L.length).toNat = J w → m.1 191 (i + L.length).toNat = J k → (w ≠ 2 → m.1 192 (i + L.length).toNat = J (100 * f + o + ((catC (clsL L)).length : Int)) ∧ m.1 193 (i + L.length).toNat = J (100 * f + o + ((catC (clsL L)).length : Int) + ts.length)) → CluW m f i o (L ++ [(w, k, ts)])
  | [], i, o, _, _, h1, h2, h3 => by
    simp only [List.length_nil, catC, clsL] at h1 h2 h3
    rw [show i + ((0 : Nat) : Int) = i by omega] at h1 h2 h3
    rw [show ∀ x : Int, x + ((0 : Nat) : Int) = x by intro x; omega] at h3
    exact ⟨⟨h1, h2, h3⟩, trivial⟩
  | (w2, k2, us) :: r, i, o, h0, h, h1, h2, h3 => by
    simp only [List.length_cons] at h1 h2 h3
    have ei : i + ((r.length + 1 : Nat) : Int) = i + 1 + r.length := by omega
    rw [ei] at h1 h2 h3
    refine ⟨h.1, CluW.snoc r (i + 1) _ (by omega) h.2 h1 h2 fun z => ?_⟩
    obtain ⟨y1, y2⟩ := h3 z
    by_cases e : w2 = 2
    · have e1 : clsL ((w2, k2, us) :: r) = clsL r := by
        show (if w2 = 2 then clsL r else _) = _
        rw [if_pos e]
      rw [e1] at y1 y2
      rw [if_pos e]
      exact ⟨y1, y2⟩
    · have e1 : catC (clsL ((w2, k2, us) :: r)) = us ++ catC (clsL r) := by
        show catC (if w2 = 2 then clsL r else _ :: clsL r) = _
        rw [if_neg e]
        rfl
      rw [e1] at y1 y2
      rw [if_neg e]
      simp only [List.length_append] at y1 y2
      have e2 : 100 * f + (o + (us.length : Int)) + ((catC (clsL r)).length : Int) = 100 * f + o + ((us.length + (catC (clsL r)).length : Nat) : Int) := by omega
      rw [e2]
      exact ⟨y1, y2⟩
section
variable (tx : Int → Int) (N : Int)
def hf (b : Int) : Int → Int := if b = 99 then f11 else if b = 119 then f10 else f12
def hw (b : Int) : Int := if b = 99 then 1 else if b = 119 then 0 else 2
def claH (a : Int) : Rc :=
  if (wrdF tx N (hf (byt tx N a)) 4 0 a).2 = true then (if (numF tx N 2 (-1) (wrdF tx N (hf (byt tx N a)) 4 0 a).1).2 < 0 then ((numF tx N 2 (-1) (wrdF tx N (hf (byt tx N a)) 4 0 a).1).1, none) else if hw (byt tx N a) = 2 then ((numF tx N 2 (-1) (wrdF tx N (hf (byt tx N a)) 4 0 a).1).1, some (2, (numF tx N 2 (-1) (wrdF tx N (hf (byt tx N a)) 4 0 a).1).2, [])) else (if byt tx N (numF tx N 2 (-1) (wrdF tx N (hf (byt tx N a)) 4 0 a).1).1 = 32 then ((pE tx N 4 ((numF tx N 2 (-1) (wrdF tx N (hf (byt tx N a)) 4 0 a).1).1 + 1)).1, ((pE tx N 4 ((numF tx N 2 (-1) (wrdF tx N (hf (byt tx N a)) 4 0 a).1).1 + 1)).2.map fun ts => (hw (byt tx N a), (numF tx N 2 (-1) (wrdF tx N (hf (byt tx N a)) 4 0 a).1).2, ts))) else ((numF tx N 2 (-1) (wrdF tx N (hf (byt tx N a)) 4 0 a).1).1, none))) else ((wrdF tx N (hf (byt tx N a)) 4 0 a).1, none)
theorem wrd_no {g : Int → Int} {a : Int} (h : byt tx N a ≠ g 0) : wrdF tx N g 4 0 a = (a, false) := by
  show (if byt tx N a = g 0 then _ else (a, false)) = _
  rw [if_neg h]
theorem claF_h (a : Int) : claF tx N a = claH tx N a := by
  rw [claF_s]
  unfold claH
  by_cases c1 : byt tx N a = 114
  · have e1 : hf (byt tx N a) = f12 := by unfold hf; rw [if_neg (by omega), if_neg (by omega)]
    have e2 : hw (byt tx N a) = 2 := by unfold hw; rw [if_neg (by omega), if_neg (by omega)]
    rw [if_pos c1, e1, e2]
    rfl
  · rw [if_neg c1]
    by_cases c2 : byt tx N a = 119
    · have e1 : hf (byt tx N a) = f10 := by unfold hf; rw [if_neg (by omega), if_pos c2]
      have e2 : hw (byt tx N a) = 0 := by unfold hw; rw [if_neg (by omega), if_pos c2]
      rw [if_pos c2, if_pos c2, e1, e2]
      rfl
    · rw [if_neg c2, if_neg c2]
      by_cases c3 : byt tx N a = 99
      · have e1 : hf (byt tx N a) = f11 := by unfold hf; rw [if_pos c3]
        have e2 : hw (byt tx N a) = 1 := by unfold hw; rw [if_pos c3]
        rw [e1, e2]
        rfl
      · have e1 : hf (byt tx N a) = f12 := by unfold hf; rw [if_neg c3, if_neg c2]
        rw [e1]
        unfold claG
        rw [wrd_no tx N (g := f11) (show byt tx N a ≠ 99 from c3), wrd_no tx N (g := f12) (show byt tx N a ≠ 114 from c1)]
        rfl
end
section
variable {tx : Int → Int} {N : Int} {f a : Int} {em : List Int} {m : SM} {d : Nat} {c : Int}
def cK : Nat → Prop := fun k => 190 ≤ k ∧ k ≤ 195
def FrC (f c : Int) (m m' : SM) : Prop := FrR cK yI m m' ∧ (∀ k, 190 ≤ k → k ≤ 193 → ∀ i, i ≠ c.toNat → m'.1 k i = m.1 k i) ∧ ∀ i : Nat, (i : Int) < 100 * f → m'.1 194 i = m.1 194 i
theorem FrC.tr {f c : Int} {a b e : SM} (h1 : FrC f c a b) (h2 : FrC f c b e) : FrC f c a e := ⟨h1.1.tr h2.1, fun k h3 h4 i hi => (h2.2.1 k h3 h4 i hi).trans (h1.2.1 k h3 h4 i hi), fun i hi => (h2.2.2 i hi).trans (h1.2.2 i hi)⟩
theorem FrC.ofE {f c : Int} {m m' : SM} (h : FrE f c m m') : FrC f c m m' := ⟨h.1.mono (fun k hk => by unfold eK at hk; unfold cK; omega) (fun _ z => z), fun k h3 h4 i hi => by
  by_cases e : k = 190 ∨ k = 191
  · rw [h.1.1 k (by unfold eK; omega) (by omega)]
  · exact h.2.1 k (by omega) h4 i hi, h.2.2⟩
theorem FrC.ofG {f c : Int} {m m' : SM} (h : FrR nK gI m m') : FrC f c m m' := ⟨h.mono (fun _ z => z.elim) (fun i z => by unfold gI at z; unfold yI; omega), fun k h3 h4 i hi => by rw [h.1 k (fun z => z) (by omega)], fun i _ => by rw [h.1 194 (fun z => z) (by omega)]⟩
theorem FrC.put {f c : Int} {m : SM} {k : Nat} (hk : k = 190 ∨ k = 191) (v : Int32) : FrC f c m (up2 m.1 k c.toNat v, m.2) := ⟨FrR.put (K := cK) (KI := yI) (k := k) (by unfold cK; omega) (by omega) _ _, fun q h3 h4 i hi => by
  show up2 m.1 k c.toNat v q i = _
  by_cases e : q = k
  · rw [e, u2_at, if_neg hi]
  · rw [u2_ne _ _ e], fun i _ => by
  show up2 m.1 k c.toNat v 194 i = _
  rw [u2_ne _ _ (by omega)]⟩
theorem ES.fr {a' : Int} (h : ES tx N f a em m) {m' : SM} {c : Int} (hF : FrC f c m m') (hR : RS tx N a' m') (h27 : m'.1 177 27 = m.1 177 27) (h194 : m'.1 194 = m.1 194) (h2 : a ≤ a') : ES tx N f a' em m' := ⟨hR, ⟨by rw [h27]; exact h.2.1.1, h.2.1.2.fr4 h194 _ _⟩, by have := h.2.2; omega⟩
theorem S_139 (hx : chr tx) (hN : N ≤ 100) (hR : RS tx N a m) (hc : 0 ≤ c ∧ c < 60) : ∃ m', cB Q0 (d + 4) 139 [.ref 177, .int (J c)] m = some (some (.int (bi ((wrdF tx N (hf (byt tx N a)) 4 0 a).2 = true))), m') ∧ RS tx N (wrdF tx N (hf (byt tx N a)) 4 0 a).1 m' ∧ m'.1 190 c.toNat = J (hw (byt tx N a)) ∧ FrC f c m m' ∧ m'.1 177 27 = m.1 177 27 ∧ m'.1 194 = m.1 194 := by
  have hb := byt_in (tx := tx) (N := N) hx a
  have n99 : ∀ {α : Type} (u v : α), bT (Q0.1 0 (J (byt tx N a)) 99) u v = if byt tx N a = 99 then u else v := fun u v => q0_J (b := 99) (by omega) (by omega) (by omega) (by omega) u v
  have n119 : ∀ {α : Type} (u v : α), bT (Q0.1 0 (J (byt tx N a)) 119) u v = if byt tx N a = 119 then u else v := fun u v => q0_J (b := 119) (by omega) (by omega) (by omega) (by omega) u v
  have key : ∀ (w s : Int) (g : Int → Int), chr g → (0 ≤ s ∧ s ≤ 8) → (∀ m : SM, LetN m → ∀ i : Int, 0 ≤ i → i < 4 → m.1 196 (s + i).toNat = J (g i)) → ∃ m', (bT (ok1 Q0 0 (.inr (0, 60)) (J c)) (bX ((up2 m.1 190 (Int32.toNatClampNeg (J c)) (J w), m.2) : SM) fun m3 => bI (cB Q0 (d + 3) 130 [.ref 177, .int (J s), .int (J 4)] m3) fun x5 m4 => bT (Q0.2.2.2.1 1 x5) (some (some (.int x5), m4)) none) none) = some (some (.int (bi ((wrdF tx N g 4 0 a).2 = true))), m') ∧ RS tx N (wrdF tx N g 4 0 a).1 m' ∧ m'.1 190 c.toNat = J w ∧ FrC f c m m' ∧ m'.1 177 27 = m.1 177 27 ∧ m'.1 194 = m.1 194 := by
    intro w s g hg hs hL
    have f1 : FrC f c m (up2 m.1 190 c.toNat (J w), m.2) := FrC.put (Or.inl rfl) _
    have hR1 : RS tx N a (up2 m.1 190 c.toNat (J w), m.2) := hR.mv f1.1 (by show up2 m.1 190 c.toNat (J w) 177 17 = _; rw [u2_ne _ _ (by omega)]; exact hR.2.1) hR.2.2.1 ⟨by unfold cK; omega, by unfold cK; omega⟩ (by unfold yI; omega)
    obtain ⟨m', q1, q2, q3⟩ := S_130 (d := d) hx hN hg hs hL hR1
    rw [c1_J (n := 60) hc.1 (by omega) (by omega), J_clamp hc.1 (by omega), bX_e, q1, bI_e, nr_bi]
    refine ⟨m', rfl, q2, ?_, f1.tr (FrC.ofG (py q3)), ?_, ?_⟩
    · rw [q3.1 190 (fun z => z) (by omega)]
      show up2 m.1 190 c.toNat (J w) 190 c.toNat = _
      rw [u2_at, if_pos rfl]
    · rw [q3.2.1 27 (by unfold atI; omega)]
      show up2 m.1 190 c.toNat (J w) 177 27 = _
      rw [u2_ne _ _ (by omega)]
    · rw [q3.1 194 (fun z => z) (by omega)]
      show up2 m.1 190 c.toNat (J w) 194 = _
      rw [u2_ne _ _ (by omega)]
  rw [cB_eq]
  show ∃ m', rB Q0 139 (cB Q0 (d + 3)) 0 [some (.ref 177), some (.int (J c))] m = _ ∧ _
  rw [T_139_0, show cB Q0 (d + 3) 128 [.ref 177] m = _ from S_128 (d := d + 2) hx hN hR, bI_e, n99]
  unfold hf hw
  by_cases c1 : byt tx N a = 99
  · rw [if_pos c1, if_pos c1, if_pos c1]
    exact key 1 4 f11 chr11 (by omega) (fun m h i h0 h1 => (h i h0 h1).2.1)
  · rw [if_neg c1, if_neg c1, if_neg c1, n119]
    by_cases c2 : byt tx N a = 119
    · rw [if_pos c2, if_pos c2, if_pos c2]
      exact key 0 0 f10 chr10 (by omega) (fun m h i h0 h1 => by rw [Int.zero_add]; exact (h i h0 h1).1)
    · rw [if_neg c2, if_neg c2, if_neg c2]
      exact key 2 8 f12 chr12 (by omega) (fun m h i h0 h1 => (h i h0 h1).2.2)
end
