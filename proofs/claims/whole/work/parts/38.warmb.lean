/-! steps of a clause, run on a pile of truths -/
def ev1 (lt : Int → Int) (t : Int) (st : List Bool) : List Bool :=
  if t = -1 then (match st with
    | a :: r => (!a) :: r
    | [] => [])
  else if t = -2 then (match st with
    | a :: b :: r => (b && a) :: r
    | _ => [])
  else if t = -3 then (match st with
    | a :: b :: r => (b || a) :: r
    | _ => [])
  else tstB lt t :: st
def evL (lt : Int → Int) : List Int → List Bool → List Bool
  | [], st => st
  | t :: ts, st => evL lt ts (ev1 lt t st)
def enc : List Bool → Int
  | [] => 0
  | b :: r => 2 * enc r + (if b then 1 else 0)
/-- the steps can be run from a pile of this height, and one is left -/
def WfT : List Int → Nat → Prop
  | [], h => h = 1
  | t :: ts, h => if t = -1 then 1 ≤ h ∧ WfT ts h else if t = -2 ∨ t = -3 then 2 ≤ h ∧ WfT ts (h - 1) else (0 ≤ t ∧ t < 1800) ∧ h < 12 ∧ WfT ts (h + 1)
theorem enc_in : ∀ (st : List Bool) (n : Nat), st.length ≤ n → 0 ≤ enc st ∧ enc st < 2 ^ n
  | [], n, _ => ⟨Int.le_refl _, Int.pow_pos (by omega)⟩
  | b :: r, 0, h => by simp at h
  | b :: r, n + 1, h => by
    have := enc_in r n (by simpa using h)
    unfold enc
    rw [Int.pow_succ]
    split <;> omega
theorem enc12 {st : List Bool} (h : st.length ≤ 12) : 0 ≤ enc st ∧ enc st < 4096 := enc_in st 12 h
def hd1 (st : List Bool) : Int := match st with
  | b :: _ => if b then 1 else 0
  | [] => 0
def StepsAt (q : Nat) (m : SM) : Int → List Int → Prop
  | _, [] => True
  | i, t :: ts => m.1 (q + 3) i.toNat = J t ∧ StepsAt q m (i + 1) ts
theorem ev1_len {lt : Int → Int} {t : Int} {ts : List Int} {st : List Bool} (h : WfT (t :: ts) st.length) : WfT ts (ev1 lt t st).length := by
  unfold WfT at h
  unfold ev1
  by_cases h1 : t = -1
  · rw [if_pos h1] at h ⊢
    match st, h with
    | [], h => exact absurd h.1 (by simp)
    | a :: r, h => exact h.2
  · rw [if_neg h1] at h ⊢
    by_cases h2 : t = -2
    · rw [if_pos (Or.inl h2)] at h
      rw [if_pos h2]
      match st, h with
      | [], h => exact absurd h.1 (by simp)
      | [a], h => exact absurd h.1 (by simp)
      | a :: b :: r, h => exact h.2
    · rw [if_neg h2]
      by_cases h3 : t = -3
      · rw [if_pos (Or.inr h3)] at h
        rw [if_pos h3]
        match st, h with
        | [], h => exact absurd h.1 (by simp)
        | [a], h => exact absurd h.1 (by simp)
        | a :: b :: r, h => exact h.2
      · rw [if_neg (fun z => z.elim h2 h3)] at h
        rw [if_neg h3]
        exact h.2.2
theorem enc_and (a b : Bool) (r : List Bool) : andE (enc (a :: b :: r)) = enc ((b && a) :: r) := by
  unfold andE
  cases a <;> cases b <;> simp only [enc, Bool.and_true, Bool.and_false, if_true, Bool.false_eq_true, if_false] <;> (split <;> omega)
theorem enc_or (a b : Bool) (r : List Bool) : orE (enc (a :: b :: r)) = enc ((b || a) :: r) := by
  unfold orE
  cases a <;> cases b <;> simp only [enc, Bool.or_true, Bool.or_false, if_true, Bool.false_eq_true, if_false] <;> (split <;> omega)
theorem enc_not (a : Bool) (r : List Bool) : notE (enc (a :: r)) = enc ((!a) :: r) := by
  unfold notE
  cases a <;> simp only [enc, Bool.not_true, Bool.not_false, if_true, Bool.false_eq_true, if_false] <;> (split <;> omega)
theorem enc_mod (st : List Bool) : enc st % 2 = hd1 st := by
  cases st with
  | nil => rfl
  | cons b r =>
    show (2 * enc r + (if b then 1 else 0)) % 2 = if b then 1 else 0
    cases b <;> simp <;> omega
section
variable {q : Nat} {m : SM} {d : Nat} {lt : Int → Int}
/-- one clause's steps -/
theorem L_47t (hF : ThF q) (hL : LetR lt m) (hb : ∀ j : Int, 0 ≤ j → j < 6 → -1000000 ≤ lt j ∧ lt j ≤ 1000000) {n tot k w E : Int} (h1 : m.1 q 1 = J n) (h2 : m.1 q 2 = J tot) (hk : 0 ≤ k ∧ k < n) (hn : n ≤ 10) (ht : tot ≤ 100) (hE : E ≤ tot) (h3 : m.1 (q + 1) k.toNat = J w) (h4 : m.1 (q + 2) k.toNat = J E) : ∀ (ts : List Int) (st : List Bool) (i sum : Int), ts ≠ [] → 0 ≤ i → i + ts.length = E → WfT ts st.length → st.length ≤ 12 → StepsAt q m i ts → rB Q0 47 (cB Q0 (d + 1)) 10 [some (.ref q), some (.ref 137), some (.int (J sum)), some (.int (J k)), some (.int (J (enc st))), some (.int (J i))] m = rB Q0 47 (cB Q0 (d + 1)) 10 [some (.ref q), some (.ref 137), some (.int (J (sum + hd1 (evL lt ts st) * w))), some (.int (J (k + 1))), some (.int (J 0)), some (.int (J E))] m := by
  obtain ⟨f1, ⟨f2, f3, f4⟩, f5, f6, f7⟩ := hF
  intro ts
  induction ts with
  | nil => intro st i sum h; exact absurd rfl h
  | cons t ts ih =>
    intro st i sum _ h0 hi hW hl hS
    have hi : i + (ts.length + 1) = E := by simpa using hi
    have hs1 := hS.1
    have hs2 := hS.2
    have henc := enc12 hl
    have hW2 := ev1_len (lt := lt) hW
    obtain ⟨bA, bO, bN, bM, b0, b1⟩ := bits_at henc.1 henc.2
    -- what the machine does with the open parts
    have key : ∀ x : Int, 0 ≤ x → x < 4096 → x = enc (ev1 lt t st) → (ev1 lt t st).length ≤ 12 →
        (if i + 1 = E then rB Q0 47 (cB Q0 (d + 1)) 10 [some (.ref q), some (.ref 137), some (.int (J (sum + x % 2 * w))), some (.int (J (k + 1))), some (.int (J 0)), some (.int (J (i + 1)))] m else rB Q0 47 (cB Q0 (d + 1)) 10 [some (.ref q), some (.ref 137), some (.int (J sum)), some (.int (J k)), some (.int (J x)), some (.int (J (i + 1)))] m) = rB Q0 47 (cB Q0 (d + 1)) 10 [some (.ref q), some (.ref 137), some (.int (J (sum + hd1 (evL lt (t :: ts) st) * w))), some (.int (J (k + 1))), some (.int (J 0)), some (.int (J E))] m := by
      intro x g0 g1 g2 g3
      by_cases e : i + 1 = E
      · rw [if_pos e]
        have : ts = [] := List.eq_nil_of_length_eq_zero (by omega)
        subst this
        subst g2
        rw [enc_mod, e]
        rfl
      · rw [if_neg e]
        subst g2
        exact ih _ _ _ (fun z => by subst z; simp at hi; omega) (by omega) (by omega) hW2 g3 hs2
    have hlen : ∀ x, ev1 lt t st = x → x.length ≤ 12 → True := fun _ _ _ => trivial
    rw [T_47_10]
    unfold WfT at hW
    by_cases k1 : t = -1
    · rw [if_pos k1] at hW
      match st, hW, henc, bN, key, hl with
      | [], hW, _, _, _, _ => exact absurd hW.1 (by simp)
      | a :: r, hW, henc, bN, key, hl =>
        have hx : ev1 lt t (a :: r) = (!a) :: r := by unfold ev1; rw [if_pos k1]
        have hl2 : (ev1 lt t (a :: r)).length ≤ 12 := by rw [hx]; simpa using hl
        have hz := enc12 hl2
        have he : notE (enc (a :: r)) = enc (ev1 lt t (a :: r)) := by rw [hx]; exact enc_not a r
        rw [← he] at hz
        have bM2 := (bits_at hz.1 hz.2).2.2.2.1
        have := key _ hz.1 hz.2 he hl2
        simp (disch := omega) only [kk, lits, q0_J, q1_J, q2_J, cI_J, cT_J, cB_J, cZ_J, cS_J, c1_J, cA_J, J_clamp, u2_at, reduceIte, f1, h1, h2, f2, f3, f4, f5, f6, f7, hs1, h3, h4, bN, bM2]
        rw [if_neg (by omega), if_neg (by omega), if_pos k1]
        exact this
    · rw [if_neg k1] at hW
      by_cases k2 : t = -2
      · rw [if_pos (Or.inl k2)] at hW
        match st, hW, henc, bA, key, hl with
        | [], hW, _, _, _, _ => exact absurd hW.1 (by simp)
        | [_], hW, _, _, _, _ => exact absurd hW.1 (by simp)
        | a :: b :: r, hW, henc, bA, key, hl =>
          have hx : ev1 lt t (a :: b :: r) = (b && a) :: r := by unfold ev1; rw [if_neg k1, if_pos k2]
          have hl2 : (ev1 lt t (a :: b :: r)).length ≤ 12 := by rw [hx]; simp at hl ⊢; omega
          have hz := enc12 hl2
          have he : andE (enc (a :: b :: r)) = enc (ev1 lt t (a :: b :: r)) := by rw [hx]; exact enc_and a b r
          rw [← he] at hz
          have bM2 := (bits_at hz.1 hz.2).2.2.2.1
          have := key _ hz.1 hz.2 he hl2
          simp (disch := omega) only [kk, lits, q0_J, q1_J, q2_J, cI_J, cT_J, cB_J, cZ_J, cS_J, c1_J, cA_J, J_clamp, u2_at, reduceIte, f1, h1, h2, f2, f3, f4, f5, f6, f7, hs1, h3, h4, bA, bM2]
          rw [if_neg (by omega), if_neg (by omega), if_neg k1, if_pos k2]
          exact this
      · by_cases k3 : t = -3
        · rw [if_pos (Or.inr k3)] at hW
          match st, hW, henc, bO, key, hl with
          | [], hW, _, _, _, _ => exact absurd hW.1 (by simp)
          | [_], hW, _, _, _, _ => exact absurd hW.1 (by simp)
          | a :: b :: r, hW, henc, bO, key, hl =>
            have hx : ev1 lt t (a :: b :: r) = (b || a) :: r := by unfold ev1; rw [if_neg k1, if_neg k2, if_pos k3]
            have hl2 : (ev1 lt t (a :: b :: r)).length ≤ 12 := by rw [hx]; simp at hl ⊢; omega
            have hz := enc12 hl2
            have he : orE (enc (a :: b :: r)) = enc (ev1 lt t (a :: b :: r)) := by rw [hx]; exact enc_or a b r
            rw [← he] at hz
            have bM2 := (bits_at hz.1 hz.2).2.2.2.1
            have := key _ hz.1 hz.2 he hl2
            simp (disch := omega) only [kk, lits, q0_J, q1_J, q2_J, cI_J, cT_J, cB_J, cZ_J, cS_J, c1_J, cA_J, J_clamp, u2_at, reduceIte, f1, h1, h2, f2, f3, f4, f5, f6, f7, hs1, h3, h4, bO, bM2]
            rw [if_neg (by omega), if_neg (by omega), if_neg k1, if_neg k2, if_pos k3]
            exact this
        · rw [if_neg (fun z => z.elim k2 k3)] at hW
          have hx : ev1 lt t st = tstB lt t :: st := by unfold ev1; rw [if_neg k1, if_neg k2, if_neg k3]
          have hl2 : (ev1 lt t st).length ≤ 12 := by rw [hx]; simp; omega
          have hz := enc12 hl2
          have he : 2 * enc st + (if tstB lt t then 1 else 0) = enc (ev1 lt t st) := by rw [hx]; rfl
          rw [← he] at hz
          have bM2 := (bits_at hz.1 hz.2).2.2.2.1
          have := key _ hz.1 hz.2 he hl2
          have h48 := S_48 (q := q) (d := d) hL hb hW.1.1 hW.1.2
          simp (disch := omega) only [kk, lits, q0_J, q1_J, q2_J, cI_J, cT_J, cB_J, cZ_J, cS_J, c1_J, cA_J, J_clamp, u2_at, reduceIte, f1, h1, h2, f4, f7, hs1]
          rw [if_neg (by omega), if_neg (by omega), if_neg k1, if_neg k2, if_neg k3, h48]
          by_cases kt : tstB lt t = true
          · simp only [kt, if_true] at this bM2
            simp (disch := omega) only [kk, lits, q0_J, q1_J, q2_J, cI_J, cT_J, cB_J, cZ_J, cS_J, c1_J, cA_J, J_clamp, u2_at, reduceIte, kt, f2, f3, f5, f6, h3, h4]
            rw [b1, bM2]
            simp (disch := omega) only [kk, lits, q0_J, q1_J, q2_J, cI_J, cT_J, cB_J, cZ_J, cS_J, c1_J, cA_J, J_clamp, u2_at, reduceIte]
            exact this
          · simp only [kt] at this bM2
            simp only [Bool.false_eq_true, if_false, Int.add_zero] at this bM2
            simp (disch := omega) only [kk, lits, q0_J, q1_J, q2_J, cI_J, cT_J, cB_J, cZ_J, cS_J, c1_J, cA_J, J_clamp, u2_at, reduceIte, kt, f2, f3, f5, f6, h3, h4]
            rw [if_neg (fun z => by cases z), b0, bM2]
            simp (disch := omega) only [kk, lits, q0_J, q1_J, q2_J, cI_J, cT_J, cB_J, cZ_J, cS_J, c1_J, cA_J, J_clamp, u2_at, reduceIte]
            exact this
end
