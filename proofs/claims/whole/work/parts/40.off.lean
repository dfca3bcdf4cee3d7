/-! all shades, how much one is off, the nearest drawer (class) -/
def View (s : Nat) (n : Int) (T : Int × Cls) (A : Shp) (m : SM) : Prop := ShR s A m ∧ Stg n T A m
def kT : Nat → Prop := fun k => k = 137 ∨ k = 138
theorem View.fr {s : Nat} {n : Int} {T : Int × Cls} {A : Shp} {m m' : SM} {K : Nat → Prop} (h : View s n T A m) (hI : ShI A) (hF : Fr K m m') (hK : ∀ k, (s ≤ k ∧ k ≤ s + 40) ∨ k = 0 ∨ (125 ≤ k ∧ k ≤ 128) ∨ (141 ≤ k ∧ k ≤ 164) → ¬ K k) : View s n T A m' :=
  ⟨h.1.fr hI.1.1.2 hF fun k h1 h2 => hK k (Or.inl ⟨h1, h2⟩), h.2.fr hF fun k h1 => hK k (Or.inr h1)⟩
theorem View.frT {s : Nat} {n : Int} {T : Int × Cls} {A : Shp} {m m' : SM} (hs : isS s) (h : View s n T A m) (hI : ShI A) (hF : Fr kT m m') : View s n T A m' :=
  h.fr hI hF fun k hk => by unfold kT; rcases hs with e | e | e <;> omega
def offA (A : Shp) (c : Cls) (p l w : Int) : Int := offH (A.2.1 p) (fun dr => toneA A c p dr l) w
section
variable {s : Nat} {A : Shp} {m : SM} {d : Nat} {n : Int} {T : Int × Cls}
theorem L_94 (hs : isS s) (hI : ShI A) {p l : Int} (hp : 0 ≤ p ∧ p < A.1 0 0) (hl : 0 ≤ l ∧ l ≤ 1) : ∀ (N : Nat) (c : Int) (m : SM), View s n T A m → 0 ≤ c → c + N = 8 → (∀ j : Int, 0 ≤ j → j < c → m.1 138 j.toNat = J (toneA A T.2 p j l)) → ∃ m', rB Q0 94 (cB Q0 (d + 3)) 3 [some (.ref 0), some (.ref s), some (.int (J p)), some (.int (J l)), some (.int (J c))] m = some (none, m') ∧ TonR (fun dr => toneA A T.2 p dr l) m' ∧ Fr kT m m' := by
  intro N
  induction N with
  | zero =>
    intro c m hV h0 h1 hT
    obtain rfl : c = 8 := by omega
    refine ⟨m, ?_, fun j g0 g1 => hT j g0 g1, Fr.rf⟩
    rw [T_94_3]
    simp (disch := omega) only [kk, lits, q0_J, q1_J, q2_J, cI_J, cT_J, cB_J, cZ_J, cS_J, c1_J, cA_J, J_clamp, u2_at, reduceIte]
    rw [if_pos (by omega)]
  | succ N ih =>
    intro c m hV h0 h1 hT
    have hi0 := hI.1.1
    obtain ⟨m1, e1, e2⟩ := S_93 (d := d) (p := p) (dr := c) (l := l) hs hV.1 hI hV.2 hp ⟨h0, by omega⟩ hl
    have e3 : Fr kT m (up2 m1.1 138 c.toNat (J (toneA A T.2 p c l)), m1.2) := (e2.mono fun k hk => Or.inl hk).tr (Fr.put (Or.inr rfl) _ _)
    obtain ⟨m', e4, e5, e6⟩ := ih (c + 1) _ (hV.frT hs hI e3) (by omega) (by omega) (fun j g0 g1 => by
      show up2 m1.1 138 c.toNat _ 138 j.toNat = _
      rw [u2_at]
      by_cases e : j = c
      · subst e; rw [if_pos rfl]
      · rw [if_neg (toNat_ne g0 h0 e), e2.1 138 (by omega)]
        exact hT j g0 (by omega))
    refine ⟨m', ?_, e5, e3.tr e6⟩
    rw [T_94_3]
    simp (disch := omega) only [kk, lits, q0_J, q1_J, q2_J, cI_J, cT_J, cB_J, cZ_J, cS_J, c1_J, cA_J, J_clamp, u2_at, reduceIte, e1]
    rw [if_neg (by omega)]
    exact e4
theorem S_94 (hs : isS s) (hI : ShI A) (hV : View s n T A m) {p l : Int} (hp : 0 ≤ p ∧ p < A.1 0 0) (hl : 0 ≤ l ∧ l ≤ 1) : ∃ m', cB Q0 (d + 4) 94 [.ref 0, .ref s, .int (J p), .int (J l)] m = some (none, m') ∧ TonR (fun dr => toneA A T.2 p dr l) m' ∧ Fr kT m m' := by
  obtain ⟨m', e1, e2, e3⟩ := L_94 (d := d) hs hI hp hl 8 0 m hV (by omega) (by omega) (fun j g0 g1 => by omega)
  refine ⟨m', ?_, e2, e3⟩
  rw [cB_eq]
  show rB Q0 94 (cB Q0 (d + 3)) 0 [some (.ref 0), some (.ref s), some (.int (J p)), some (.int (J l))] m = _
  rw [T_94_0]
  exact e1
theorem toneA_bd8 (hI : ShI A) (hT : ThI T) {p l : Int} (hp : 0 ≤ p ∧ p < A.1 0 0) : ∀ j : Int, 0 ≤ j → j < 8 → -100000 ≤ toneA A T.2 p j l ∧ toneA A T.2 p j l ≤ 100000 := fun j h0 h1 => by
  have := toneA_bd hI hT (l := l) hp (dr := j) ⟨h0, by omega⟩
  omega
theorem S_95 (hs : isS s) (hI : ShI A) (hV : View s n T A m) {p l : Int} (hp : 0 ≤ p ∧ p < A.1 0 0) (hl : 0 ≤ l ∧ l ≤ 1) : ∃ m', cB Q0 (d + 5) 95 [.ref 0, .ref s, .int (J p), .int (J l)] m = some (some (.int (J (offA A T.2 p l (-1)))), m') ∧ Fr kT m m' := by
  have i0 := hI.1.1
  obtain ⟨m1, e1, e2, e3⟩ := S_94 (d := d) hs hI hV hp hl
  have hV1 := hV.frT hs hI e3
  obtain ⟨⟨f1, -, -, -, f4, -⟩, ⟨-, -, -, f8⟩, -⟩ := shF hs
  have hF := hd_F hs hp.1 (by omega)
  have hgp := hd_g hs hp.1 (show p < 6 by omega)
  have e14 := S_14 (d := d + 2) hF (hV1.1.2.2.1 p hp.1 hp.2) (hI.2.2.1 p hp.1 hp.2) e2 (toneA_bd8 hI hV.2.2.2 hp) (w := -1) (by omega)
  refine ⟨m1, ?_, e3⟩
  rw [cB_eq]
  show rB Q0 95 (cB Q0 (d + 4)) 0 [some (.ref 0), some (.ref s), some (.int (J p)), some (.int (J l))] m = _
  rw [T_95_0]
  simp (disch := omega) only [kk, lits, q0_J, q1_J, q2_J, cI_J, cT_J, cB_J, cZ_J, cS_J, c1_J, cA_J, J_clamp, u2_at, reduceIte, e1, f1, f4, f8, hgp, hF.1.1, e14]
  rfl
def nearV (A : Shp) (c : Cls) (p dr : Int) : Int := if ab (toneA A c p dr 0 - A.2.1 p 0 2) < ab (toneA A c p dr 1 - A.2.1 p 0 2) then ab (toneA A c p dr 1 - A.2.1 p 0 2) else ab (toneA A c p dr 0 - A.2.1 p 0 2)
/-- the best drawer from one on, the best before, and how near that was -/
def nearF (f g : Int → Int) : Nat → Int → Int → Int → Int
  | 0, _, b, _ => b
  | n + 1, c, b, w => if g c ≤ 0 then nearF f g n (c + 1) b w else if w ≤ f c then nearF f g n (c + 1) b w else nearF f g n (c + 1) c (f c)
theorem nearF_s (f g : Int → Int) (n : Nat) (c b w : Int) : nearF f g (n + 1) c b w = if g c ≤ 0 then nearF f g n (c + 1) b w else if w ≤ f c then nearF f g n (c + 1) b w else nearF f g n (c + 1) c (f c) := rfl
theorem ab_nn (x : Int) : 0 ≤ ab x := by
  unfold ab
  split <;> omega
theorem ab_bd {x B : Int} (h : -B ≤ x ∧ x ≤ B) : ab x ≤ B := by
  unfold ab
  split <;> omega
theorem L_96 (hI : ShI A) {p : Int} (hp : 0 ≤ p ∧ p < A.1 0 0) : ∀ (N : Nat) (c b w : Int) (m : SM), View 1 n T A m → 0 ≤ c → c + N = 8 → 0 ≤ w → w ≤ 2147483647 → ∃ m', rB Q0 96 (cB Q0 (d + 3)) 23 [some (.ref 0), some (.int (J p)), some (.int (J (A.2.1 p 0 2))), some (.int (J b)), some (.int (J w)), some (.int (J c))] m = some (some (.int (J (nearF (nearV A T.2 p) (A.1 3) N c b w))), m') ∧ Fr kT m m' := by
  have hs : isS 1 := Or.inl rfl
  intro N
  induction N with
  | zero =>
    intro c b w m hV h0 h1 h2 h3
    obtain rfl : c = 8 := by omega
    refine ⟨m, ?_, Fr.rf⟩
    rw [T_96_23]
    simp (disch := omega) only [kk, lits, q0_J, q1_J, q2_J, cI_J, cT_J, cB_J, cZ_J, cS_J, c1_J, cA_J, J_clamp, u2_at, reduceIte]
    rw [if_pos (by omega)]
    rfl
  | succ N ih =>
    intro c b w m hV h0 h1 h2 h3
    obtain ⟨m1, e1, e2⟩ := S_93 (d := d) (p := p) (dr := c) (l := 0) hs hV.1 hI hV.2 hp ⟨h0, by omega⟩ (by omega)
    have hV1 := hV.frT hs hI (e2.mono fun k hk => Or.inl hk)
    obtain ⟨m2, e3, e4⟩ := S_93 (d := d) (p := p) (dr := c) (l := 1) hs hV1.1 hI hV1.2 hp ⟨h0, by omega⟩ (by omega)
    have e5 : Fr kT m m2 := (e2.tr e4).mono fun k hk => Or.inl hk
    have hV2 := hV.frT hs hI e5
    have t0 := toneA_bd hI hV.2.2.2 (l := 0) hp (dr := c) ⟨h0, by omega⟩
    have t1 := toneA_bd hI hV.2.2.2 (l := 1) hp (dr := c) ⟨h0, by omega⟩
    have ih0 := (hI.2.2.1 p hp.1 hp.2).1.2.2.1
    have n0 := ab_nn (toneA A T.2 p c 0 - A.2.1 p 0 2)
    have n1 := ab_nn (toneA A T.2 p c 1 - A.2.1 p 0 2)
    have b0 := ab_bd (x := toneA A T.2 p c 0 - A.2.1 p 0 2) (B := 10000) (by omega)
    have b1 := ab_bd (x := toneA A T.2 p c 1 - A.2.1 p 0 2) (B := 10000) (by omega)
    have hv : 0 ≤ nearV A T.2 p c ∧ nearV A T.2 p c ≤ 10000 := by
      unfold nearV
      split <;> omega
    have hst := hV2.1.2.1 3 (by omega) (by omega) c h0 (by omega)
    have hsi := hI.2.1 3 (by omega) (by omega) c h0 (by omega)
    have hst : m2.1 4 c.toNat = J (A.1 3 c) := hst
    have f4 : SHt 4 = .inr (0, 8) := rfl
    have hmax : (if ab (toneA A T.2 p c 0 - A.2.1 p 0 2) < ab (toneA A T.2 p c 1 - A.2.1 p 0 2) then ab (toneA A T.2 p c 1 - A.2.1 p 0 2) else ab (toneA A T.2 p c 0 - A.2.1 p 0 2)) = nearV A T.2 p c := rfl
    by_cases g0 : A.1 3 c ≤ 0
    · obtain ⟨m', e6, e7⟩ := ih (c + 1) b w m2 hV2 (by omega) (by omega) h2 h3
      refine ⟨m', ?_, e5.tr e7⟩
      rw [T_96_23]
      simp (disch := omega) only [kk, lits, q0_J, q1_J, q2_J, cI_J, cT_J, cB_J, cZ_J, cS_J, c1_J, cA_J, J_clamp, u2_at, reduceIte, e1, e3, S_210, S_211, hmax, hst]
      rw [if_neg (by omega), if_pos g0, e6]
      rw [nearF_s, if_pos g0]
    · by_cases g1 : w ≤ nearV A T.2 p c
      · obtain ⟨m', e6, e7⟩ := ih (c + 1) b w m2 hV2 (by omega) (by omega) h2 h3
        refine ⟨m', ?_, e5.tr e7⟩
        rw [T_96_23]
        simp (disch := omega) only [kk, lits, q0_J, q1_J, q2_J, cI_J, cT_J, cB_J, cZ_J, cS_J, c1_J, cA_J, J_clamp, u2_at, reduceIte, e1, e3, S_210, S_211, hmax, hst]
        rw [if_neg (by omega), if_neg g0, if_pos g1, e6]
        rw [nearF_s, if_neg g0, if_pos g1]
      · obtain ⟨m', e6, e7⟩ := ih (c + 1) c (nearV A T.2 p c) m2 hV2 (by omega) (by omega) (by omega) (by omega)
        refine ⟨m', ?_, e5.tr e7⟩
        rw [T_96_23]
        simp (disch := omega) only [kk, lits, q0_J, q1_J, q2_J, cI_J, cT_J, cB_J, cZ_J, cS_J, c1_J, cA_J, J_clamp, u2_at, reduceIte, e1, e3, S_210, S_211, hmax, hst]
        rw [if_neg (by omega), if_neg g0, if_neg g1, e6]
        rw [nearF_s, if_neg g0, if_neg g1]
def nearA (A : Shp) (c : Cls) (p : Int) : Int := nearF (nearV A c p) (A.1 3) 8 0 (-5) 2147483647
theorem S_96 (hI : ShI A) (hV : View 1 n T A m) {p : Int} (hp : 0 ≤ p ∧ p < A.1 0 0) : ∃ m', cB Q0 (d + 4) 96 [.ref 0, .int (J p)] m = some (some (.int (J (nearA A T.2 p))), m') ∧ Fr kT m m' := by
  have i0 := hI.1.1
  obtain ⟨m', e1, e2⟩ := L_96 (d := d) hI hp 8 0 (-5) 2147483647 m hV (by omega) (by omega) (by omega) (by omega)
  have hF := hd_F (s := 1) (Or.inl rfl) hp.1 (by omega)
  have hgp := hd_g (s := 1) (Or.inl rfl) hp.1 (show p < 6 by omega)
  have hgp : GRt 5 p.toNat = some (hd 1 p) := hgp
  have a2 := (hV.1.2.2.1 p hp.1 hp.2).1.2.2.1
  refine ⟨m', ?_, e2⟩
  rw [cB_eq]
  show rB Q0 96 (cB Q0 (d + 3)) 0 [some (.ref 0), some (.int (J p))] m = _
  rw [T_96_0]
  simp (disch := omega) only [kk, lits, q0_J, q1_J, q2_J, cI_J, cT_J, cB_J, cZ_J, cS_J, c1_J, cA_J, J_clamp, u2_at, reduceIte, hgp, hF.1.1, a2]
  exact e1
end
