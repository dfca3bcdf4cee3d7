/-! what the steady machine answers, the machine of cells answers -/
abbrev Em : Type := Nat × Nat × (Nat → Sh) × (Nat → Nat → Option Nat)
def emb (E : Em) (m : SM) : Mem := (E.1, E.2.1, E.2.2.1, m.1, m.2, E.2.2.2)
def EmOK (E : Em) : Prop := (∀ k, SHt k = E.2.2.1 k ∨ SHt k = .inl 99) ∧ ∀ k i q, GRt k i = some q → E.2.2.2 k i = some q
def RR (E : Em) (r : Rs SM) (r' : Rs Mem) : Prop := ∀ o m, r = some (o, m) → r' = some (o, emb E m)
section
variable {E : Em}
theorem RR.nil {r' : Rs Mem} : RR E none r' := fun o m h => by cases h
theorem RR.ret {o : Option Value} {m : SM} : RR E (some (o, m)) (some (o, emb E m)) := fun o m h => by cases h; rfl
theorem RR.ite {c : Bool} {a b : Rs SM} {a' b' : Rs Mem} (h1 : RR E a a') (h2 : RR E b b') : RR E (bT c a b) (bT c a' b') := by
  cases c
  · exact h2
  · exact h1
theorem RR.chk {c c' : Bool} {a : Rs SM} {a' : Rs Mem} (hc : c = true → c' = true) (h1 : RR E a a') : RR E (bT c a none) (bT c' a' none) := by
  cases c
  · exact RR.nil
  · rw [hc rfl]; exact h1
theorem okO_em (hE : EmOK E) {k c : Nat} (hc : c ≠ 99) (h : okO (SHt k) c = true) : okO (E.2.2.1 k) c = true := by
  rcases hE.1 k with e | e
  · rw [← e]; exact h
  · rw [e] at h
    exact absurd (Nat.eq_of_beq_eq_true h).symm hc
theorem okI_em (hE : EmOK E) {Q : Qs} {k : Nat} {i : Int32} (h : okI Q (SHt k) i = true) : okI Q (E.2.2.1 k) i = true := by
  rcases hE.1 k with e | e
  · rw [← e]; exact h
  · rw [e] at h; cases h
theorem okB_em (hE : EmOK E) {Q : Qs} {k : Nat} {i : Int32} (h : okB Q (SHt k) i = true) : okB Q (E.2.2.1 k) i = true := by
  rcases hE.1 k with e | e
  · rw [← e]; exact h
  · rw [e] at h; cases h
theorem okA_em (hE : EmOK E) {Q : Qs} {k : Nat} {i : Int32} (h : okA Q (SHt k) i = true) : okA Q (E.2.2.1 k) i = true := by
  rcases hE.1 k with e | e
  · rw [← e]; exact h
  · rw [e] at h; cases h
theorem ok1_em (hE : EmOK E) {Q : Qs} {t k : Nat} {i : Int32} (h : ok1 Q t (SHt k) i = true) : ok1 Q t (E.2.2.1 k) i = true := by
  rcases hE.1 k with e | e
  · rw [← e]; exact h
  · rw [e] at h; cases h
theorem okC_em (hE : EmOK E) {Q : Qs} {t k j : Nat} {a b c : Int32} (h : okC Q t (SHt k) (SHt j) a b c = true) : okC Q t (E.2.2.1 k) (E.2.2.1 j) a b c = true := by
  rcases hE.1 k with e | e
  · rcases hE.1 j with e2 | e2
    · rw [← e, ← e2]; exact h
    · rw [e2] at h
      unfold okC at h
      split at h
      · cases h
      · cases h
  · rw [e] at h; cases h
theorem RR.bS (hE : EmOK E) {k : Nat} {f : Nat → Rs SM} {f' : Nat → Rs Mem} (h : ∀ n, RR E (f n) (f' n)) : RR E (bS (SHt k) f) (bS (E.2.2.1 k) f') := by
  rcases hE.1 k with e | e
  · rw [← e]
    rcases SHt k with c | ⟨t, n⟩
    · exact RR.nil
    · exact h n
  · rw [e]; exact RR.nil
theorem RR.bO (hE : EmOK E) {k i : Nat} {f : Nat → Rs SM} {f' : Nat → Rs Mem} (h : ∀ n, RR E (f n) (f' n)) : RR E (bO (GRt k i) f) (bO (E.2.2.2 k i) f') := by
  cases e : GRt k i with
  | none => exact RR.nil
  | some q => rw [hE.2 k i q e]; exact h q
theorem RR.callK {q : Nat} {r : Rs SM} {r' : Rs Mem} {f : List Value → SM → Rs SM} {f' : List Value → Mem → Rs Mem} (h1 : RR E r r') (h : ∀ o m, RR E (f o m) (f' o (emb E m))) : RR E (callK q r f) (callK q r' f') := by
  intro o m hx
  obtain ⟨o2, m2, e1, e2⟩ := callK_some hx
  subst e1
  rw [h1 _ _ rfl]
  match q with
  | 0 => cases o2 with
    | none => exact h _ _ _ _ hx
    | some v => cases hx
  | 1 => cases o2 with
    | none => cases hx
    | some v => cases v <;> first | exact h _ _ _ _ hx | cases hx
  | 2 => cases o2 with
    | none => cases hx
    | some v => cases v <;> first | exact h _ _ _ _ hx | cases hx
  | _ + 3 => cases o2 with
    | none => cases hx
    | some v => cases v <;> first | exact h _ _ _ _ hx | cases hx
theorem RR.rcv (hE : EmOK E) {c : Nat} (hc : c ≠ 100) {as : List Value} {m : SM} {k : Rs SM} {k' : Rs Mem} (h : RR E k k') : RR E (rcvK (OB Q0) c as m k) (rcvK (OA Q0) c as (emb E m) k') := by
  match c, hc, as with
  | 0, _, _ => exact h
  | _ + 1, _, [] => exact RR.nil
  | d + 1, hc, .ref r :: _ => exact RR.chk (okO_em hE (by omega)) h
  | _ + 1, _, .int _ :: _ => exact RR.nil
  | _ + 1, _, .long _ :: _ => exact RR.nil
  | _ + 1, _, .float _ :: _ => exact RR.nil
  | _ + 1, _, .double _ :: _ => exact RR.nil
  | _ + 1, _, .null :: _ => exact RR.nil
  | _ + 1, _, .retAddr _ :: _ => exact RR.nil
theorem RR.sw {k : Nat → Rs SM} {k' : Nat → Rs Mem} (h : ∀ t, RR E (k t) (k' t)) (x : Int32) (d : Nat) : ∀ l : List (Int32 × Nat), RR E (swK Q0 l d x k) (swK Q0 l d x k')
  | [] => h d
  | (c, t) :: l => RR.ite (h t) (RR.sw h x d l)
theorem RR.cmp {c : Jvm.ClassFile.Cond} {x y : Int32} {f g : Rs SM} {f' g' : Rs Mem} (hf : RR E f f') (hg : RR E g g') : RR E (cmpK Q0 c x y f g) (cmpK Q0 c x y f' g') := by
  cases c <;> first | exact RR.ite hf hg | exact RR.ite hg hf
/-- rows ask for no object of class 99 -/
noncomputable def n99 (row : Row) : Bool := match row with
  | (i, _, a, b, c, _, _) => match i with
    | .getfield _ | .putfield _ => Nat.ble a 10
    | .aastore => Nat.ble b 10
    | .invokevirtual _ | .invokespecial _ => Nat.ble c 11
    | _ => true
theorem n99_of {mi pc : Nat} {row : Row} (h : vOK mi pc row = true) : n99 row = true := by
  obtain ⟨i, nx, a, b, c, v, sw⟩ := row
  have key : ∀ {x n : Nat}, x ≤ n → Nat.ble x n = true := fun h => Nat.ble_eq_true_of_le h
  cases i with
  | getfield x =>
    simp only [vOK, Bool.and_eq_true, Bool.or_eq_true] at h
    rcases h.2 with h | h
    · exact key (Nat.le_succ_of_le (Nat.le_of_ble_eq_true h.1))
    · exact key (Nat.le_of_eq (Nat.eq_of_beq_eq_true h.1))
  | putfield x =>
    have h : (dk (cM mi) pc (.putfield x) 3 nx && (Nat.ble a 9 && _)) = true := h
    rw [Bool.and_eq_true, Bool.and_eq_true] at h
    exact key (Nat.le_succ_of_le (Nat.le_of_ble_eq_true h.2.1))
  | aastore =>
    have h : (dk (cM mi) pc .aastore 1 nx && ((Nat.beq a 4 && Nat.beq b 1) || ((Nat.beq a 5 && Nat.beq b 7) || (Nat.beq a 6 && Nat.beq b 5)))) = true := h
    simp only [Bool.and_eq_true, Bool.or_eq_true] at h
    rcases h.2 with h | h | h <;> have h := Nat.eq_of_beq_eq_true h.2 <;> exact key (by omega)
  | invokevirtual x =>
    have h : (dk (cM mi) pc (.invokevirtual x) 3 nx && (calOK a b sw && (fnd kMth (oM mi) x a && (has2 kInst a && (has2 kSel a && (Nat.beq (b / 4) (aM a + 1) && (Nat.beq c (oM a + 1) && Nat.ble c 11))))))) = true := h
    simp only [Bool.and_eq_true] at h
    exact h.2.2.2.2.2.2.2
  | invokespecial x =>
    by_cases h0 : c = 0
    · subst h0
      exact rfl
    · obtain ⟨c, rfl⟩ : ∃ z, c = z + 1 := ⟨c - 1, by omega⟩
      have h : (dk (cM mi) pc (.invokespecial x) 3 nx && (calOK a b sw && ((fnd kMth (oM mi) x a || fnd kNst (oM mi) x a) && (has2 kInst a && (decide ((yM a).name = "<init>") && (decide (rM a = none) && (Nat.beq (b / 4) (aM a + 1) && (Nat.beq (c + 1) (oM a + 1) && Nat.ble (c + 1) 10)))))))) = true := h
      simp only [Bool.and_eq_true] at h
      exact key (Nat.le_succ_of_le (Nat.le_of_ble_eq_true h.2.2.2.2.2.2.2.2))
  | _ => rfl
set_option maxHeartbeats 4000000 in
theorem stp_sim (hE : EmOK E) {cf : Nat → List Value → SM → Rs SM} {cf' : Nat → List Value → Mem → Rs Mem} {k : Nat → Lo → List Value → SM → Rs SM} {k' : Nat → Lo → List Value → Mem → Rs Mem} (hcf : ∀ a as m, RR E (cf a as m) (cf' a as (emb E m))) (hk : ∀ pc ls st m, RR E (k pc ls st m) (k' pc ls st (emb E m))) {row : Row} (hv : n99 row = true) (ls : Lo) (st : List Value) (m : SM) : RR E (stpK (OB Q0) cf k row ls st m) (stpK (OA Q0) cf' k' row ls st (emb E m)) := by
  obtain ⟨i, nx, a, b, c, v, sw⟩ := row
  have hg : ∀ {pc ls st m}, RR E (k pc ls st m) (k' pc ls st (emb E m)) := hk _ _ _ _
  have hcall : ∀ {b a : Nat} {as st2 : List Value} {nx : Nat}, RR E (callK b (cf a as m) fun o m' => k nx ls (o ++ st2) m') (callK b (cf' a as (emb E m)) fun o m' => k' nx ls (o ++ st2) m') := RR.callK (hcf _ _ _) fun o m => hg
  generalize hla : ls[a]? = la
  cases i <;> simp only [stpK, hla] <;> first
    | exact RR.nil
    | exact hg
    | (split <;> first | exact RR.nil | exact hg | exact RR.ret | exact RR.ite RR.nil hg | exact RR.ite hg RR.nil | exact RR.cmp hg hg | exact RR.sw (fun t => hg) _ _ _ | exact RR.chk (okI_em hE) hg | exact RR.chk (okB_em hE) hg | exact RR.chk (ok1_em hE) hg | exact RR.chk (okA_em hE) (RR.bO hE fun q => hg) | exact RR.bS hE fun n => hg)
    | skip
  · have hb : b ≤ 10 := Nat.le_of_ble_eq_true hv
    split <;> first | exact RR.nil | exact RR.chk (ok1_em hE) (RR.chk (okO_em hE (by omega)) (fun o m h => by cases h))
  · split <;> first | exact RR.nil | exact RR.ite (fun o m h => by cases h) RR.nil
  · have ha : a ≤ 10 := Nat.le_of_ble_eq_true hv
    split
    · refine RR.chk (okO_em hE (by omega)) ?_
      split <;> first | exact hg | exact RR.bO hE fun q => hg
    · exact RR.nil
  · have hc : c ≤ 11 := Nat.le_of_ble_eq_true hv
    split
    · split <;> first | exact RR.nil | exact RR.ite RR.nil (RR.ite hg RR.nil)
    · exact RR.ite (RR.rcv hE (by omega) hcall) RR.nil
  · split
    · exact RR.ite hcall RR.nil
    · split <;> first | exact RR.nil | refine RR.ite (RR.chk (okC_em hE) ?_) RR.nil
      match a with
      | 0 => exact hg
      | _ + 1 => exact hg
  · have hc : c ≤ 11 := Nat.le_of_ble_eq_true hv
    exact RR.ite (RR.rcv hE (by omega) hcall) RR.nil
  · split
    · split
      · exact RR.ret
      · exact RR.ite RR.ret RR.nil
    · exact RR.nil
  · split <;> first | exact RR.nil | exact RR.ite (fun o m h => by cases h) RR.nil
  · have ha : a ≤ 10 := Nat.le_of_ble_eq_true hv
    split
    · split <;> first | exact RR.nil | exact RR.chk (okO_em hE (by omega)) (fun o m h => by cases h)
    · split <;> first | exact RR.nil | exact RR.chk (okO_em hE (by omega)) hg
    · split <;> first | exact RR.nil | exact RR.chk (okO_em hE (by omega)) (RR.ite hg RR.nil)
theorem blk_sim (hE : EmOK E) {cf : Nat → List Value → SM → Rs SM} {cf' : Nat → List Value → Mem → Rs Mem} (hcf : ∀ a as m, RR E (cf a as m) (cf' a as (emb E m))) {mi : Nat} {rec : RecT SM} {rec' : RecT Mem} (hrec : ∀ pc ls m, RR E (rec pc ls m) (rec' pc ls (emb E m))) : ∀ (g pc : Nat) (ls : Lo) (st : List Value) (m : SM), RR E (blk (OB Q0) cf (prog mi) (heds mi) rec g pc ls st m) (blk (OA Q0) cf' (prog mi) (heds mi) rec' g pc ls st (emb E m)) := by
  intro g
  induction g with
  | zero => intro pc ls st m; exact RR.nil
  | succ g ih =>
    intro pc ls st m
    show RR E (match prog mi pc with
      | none => none
      | some row => stpK (OB Q0) cf (fun pc' ls' st' m' => match heds mi pc' with
        | none => blk (OB Q0) cf (prog mi) (heds mi) rec g pc' ls' st' m'
        | some n => match st' with
          | [] => rec pc' (lmask n ls') m'
          | _ => none) row ls st m) (match prog mi pc with
      | none => none
      | some row => stpK (OA Q0) cf' (fun pc' ls' st' m' => match heds mi pc' with
        | none => blk (OA Q0) cf' (prog mi) (heds mi) rec' g pc' ls' st' m'
        | some n => match st' with
          | [] => rec' pc' (lmask n ls') m'
          | _ => none) row ls st (emb E m))
    cases hf : prog mi pc with
    | none => exact RR.nil
    | some row =>
      refine stp_sim hE hcf (fun pc' ls' st' m' => ?_) (n99_of (vAll hf)) ls st m
      cases heds mi pc' with
      | none => exact ih _ _ _ _
      | some bs =>
        cases st' with
        | nil => exact hrec _ _ _
        | cons w ws => exact RR.nil
theorem run_sim (hE : EmOK E) {cf : Nat → List Value → SM → Rs SM} {cf' : Nat → List Value → Mem → Rs Mem} (hcf : ∀ a as m, RR E (cf a as m) (cf' a as (emb E m))) {mi : Nat} (pc : Nat) (ls : Lo) (m : SM) : RR E (runF (OB Q0) cf (prog mi) (heds mi) pc ls m) (runF (OA Q0) cf' (prog mi) (heds mi) pc ls (emb E m)) := by
  have key : ∀ (n pc : Nat) (ls : Lo) (m : SM), RR E (runN (OB Q0) cf (prog mi) (heds mi) n pc ls m) (runN (OA Q0) cf' (prog mi) (heds mi) n pc ls (emb E m)) := by
    intro n
    induction n with
    | zero => intro pc ls m; exact RR.nil
    | succ n ih =>
      intro pc ls m
      rw [runN_s, runN_s]
      exact blk_sim hE hcf ih _ pc ls [] m
  intro o m2 h
  obtain ⟨n, hn⟩ := (runF_some _ _ _ _).mp h
  exact (runF_some _ _ _ _).mpr ⟨n, key n _ _ _ _ _ hn⟩
theorem call_sim (hE : EmOK E) : ∀ (d mi : Nat) (as : List Value) (m : SM), RR E (cB Q0 d mi as m) (callF (OA Q0) prog heds d mi as (emb E m)) := by
  intro d
  induction d with
  | zero => intro mi as m; exact RR.nil
  | succ d ih => intro mi as m; exact run_sim hE ih 0 (argsL as) m
end
