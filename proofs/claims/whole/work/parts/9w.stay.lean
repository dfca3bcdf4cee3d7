/-! The script stays: no call of the class or of the reference writes to cell 1000. -/
def KS (w : Nat → Int32) (r : Rs SM) : Prop := ∀ o m, r = some (o, m) → m.1 1000 = w
section
variable {w : Nat → Int32} {m : SM}
theorem KS.nil : KS w none := fun o m h => by cases h
theorem KS.ret (h : m.1 1000 = w) {o : Option Value} : KS w (some (o, m)) := fun o m e => by cases e; exact h
theorem KS.ite {c : Bool} {a b : Rs SM} (h1 : KS w a) (h2 : KS w b) : KS w (bT c a b) := by
  cases c
  · exact h2
  · exact h1
theorem KS.chk {c : Bool} {a : Rs SM} (h : c = true → KS w a) : KS w (bT c a none) := by
  cases c
  · exact KS.nil
  · exact h rfl
theorem KS.bO {r : Option Nat} {f : Nat → Rs SM} (h : ∀ n, KS w (f n)) : KS w (bO r f) := by
  cases r with
  | none => exact KS.nil
  | some q => exact h q
theorem KS.bS {r : Sh} {f : Nat → Rs SM} (h : ∀ n, KS w (f n)) : KS w (bS r f) := by
  rcases r with c | ⟨t, n⟩
  · exact KS.nil
  · exact h n
theorem KS.callK {q : Nat} {r : Rs SM} {f : List Value → SM → Rs SM} (h1 : KS w r) (h : ∀ o m, m.1 1000 = w → KS w (f o m)) : KS w (callK q r f) := by
  intro o m hx
  obtain ⟨o2, m2, e1, e2⟩ := callK_some hx
  subst e1
  have h4 := h1 _ _ rfl
  match q with
  | 0 => cases o2 with
    | none => exact h _ _ h4 _ _ hx
    | some v => cases hx
  | 1 => cases o2 with
    | none => cases hx
    | some v => cases v <;> first | exact h _ _ h4 _ _ hx | cases hx
  | 2 => cases o2 with
    | none => cases hx
    | some v => cases v <;> first | exact h _ _ h4 _ _ hx | cases hx
  | _ + 3 => cases o2 with
    | none => cases hx
    | some v => cases v <;> first | exact h _ _ h4 _ _ hx | cases hx
theorem KS.rcv {c : Nat} {as : List Value} {k : Rs SM} (h : KS w k) : KS w (rcvK (OB Q0) c as m k) := by
  match c, as with
  | 0, _ => exact h
  | _ + 1, [] => exact KS.nil
  | d + 1, .ref r :: _ => exact KS.chk fun _ => h
  | _ + 1, .int _ :: _ => exact KS.nil
  | _ + 1, .long _ :: _ => exact KS.nil
  | _ + 1, .float _ :: _ => exact KS.nil
  | _ + 1, .double _ :: _ => exact KS.nil
  | _ + 1, .null :: _ => exact KS.nil
  | _ + 1, .retAddr _ :: _ => exact KS.nil
theorem KS.sw {k : Nat → Rs SM} (h : ∀ t, KS w (k t)) (x : Int32) (d : Nat) : ∀ l : List (Int32 × Nat), KS w (swK Q0 l d x k)
  | [] => h d
  | (c, t) :: l => KS.ite (h t) (KS.sw h x d l)
theorem KS.cmp {c : Jvm.ClassFile.Cond} {x y : Int32} {f g : Rs SM} (hf : KS w f) (hg : KS w g) : KS w (cmpK Q0 c x y f g) := by
  cases c <;> first | exact KS.ite hf hg | exact KS.ite hg hf
end
theorem sh1000 : SHt 1000 = .inl 99 := rfl
theorem n1_1 {t r : Nat} {i : Int32} (h : ok1 Q0 t (SHt r) i = true) : r ≠ 1000 := fun e => by
  rw [e, sh1000] at h
  cases h
theorem n1_O {r c : Nat} (hc : c ≤ 10) (h : okO (SHt r) c = true) : r ≠ 1000 := fun e => by
  rw [e, sh1000] at h
  have := Nat.eq_of_beq_eq_true h
  omega
theorem n1_C {t r q : Nat} {a b c : Int32} (h : okC Q0 t (SHt r) (SHt q) a b c = true) : q ≠ 1000 := fun e => by
  rw [e, sh1000] at h
  generalize SHt r = z at h
  rcases z with c | ⟨u, n⟩ <;> cases h
set_option maxHeartbeats 4000000 in
theorem stp_stay {w : Nat → Int32} {cf : Nat → List Value → SM → Rs SM} {k : Nat → Lo → List Value → SM → Rs SM} (hcf : ∀ a as m, m.1 1000 = w → KS w (cf a as m)) (hk : ∀ pc ls st m, m.1 1000 = w → KS w (k pc ls st m)) {row : Row} (hv : n99 row = true) (ls : Lo) (st : List Value) (m : SM) (hm : m.1 1000 = w) : KS w (stpK (OB Q0) cf k row ls st m) := by
  obtain ⟨i, nx, a, b, c, v, sw⟩ := row
  have hg : ∀ {pc ls st}, KS w (k pc ls st m) := hk _ _ _ _ hm
  have hp : ∀ {pc ls st r i} {x : Int32}, r ≠ 1000 → KS w (k pc ls st (up2 m.1 r i x, m.2)) := fun h => hk _ _ _ _ (by
    show up2 m.1 _ _ _ 1000 = w
    rw [up2_row (Ne.symm h)]
    exact hm)
  have hq : ∀ {pc ls st r i} {x : Int64}, KS w (k pc ls st (m.1, up2 m.2 r i x)) := hk _ _ _ _ hm
  have hu : ∀ {pc ls st r} {f : Nat → Int32}, r ≠ 1000 → KS w (k pc ls st (upR m.1 r f, m.2)) := fun h => hk _ _ _ _ (by
    show upR m.1 _ _ 1000 = w
    rw [upR_ne (Ne.symm h)]
    exact hm)
  have hv2 : ∀ {pc ls st r} {f : Nat → Int64}, KS w (k pc ls st (m.1, upR m.2 r f)) := hk _ _ _ _ hm
  have hcall : ∀ {b a : Nat} {as st2 : List Value} {nx : Nat}, KS w (callK b (cf a as m) fun o m' => k nx ls (o ++ st2) m') := KS.callK (hcf _ _ _ hm) fun o m h => hk _ _ _ _ h
  generalize hla : ls[a]? = la
  cases i <;> simp only [stpK, hla] <;> first
    | exact KS.nil
    | exact hg
    | (split <;> first | exact KS.nil | exact hg | exact KS.ret hm | exact KS.ite KS.nil hg | exact KS.ite hg KS.nil | exact KS.cmp hg hg | exact KS.sw (fun t => hg) _ _ _ | exact KS.chk (fun _ => hg) | exact KS.chk (fun _ => KS.bO fun q => hg) | exact KS.chk (fun z => hp (n1_1 z)) | exact KS.chk (fun _ => hq) | exact KS.bS fun n => hg)
    | skip
  · split <;> first | exact KS.nil | exact KS.chk (fun _ => KS.chk (fun _ => (fun o m h => by cases h)))
  · split <;> first | exact KS.nil | exact KS.ite (fun o m h => by cases h) KS.nil
  · split
    · refine KS.chk (fun _ => ?_)
      split <;> first | exact hg | exact KS.bO fun q => hg
    · exact KS.nil
  · split
    · split <;> first | exact KS.nil | exact KS.ite KS.nil (KS.ite hg KS.nil)
    · exact KS.ite (KS.rcv hcall) KS.nil
  · split
    · exact KS.ite hcall KS.nil
    · split <;> first | exact KS.nil | refine KS.ite (KS.chk (fun z => ?_)) KS.nil
      match a with
      | 0 => exact hu (n1_C z)
      | _ + 1 => exact hv2
  · exact KS.ite (KS.rcv hcall) KS.nil
  · split
    · split
      · exact KS.ret hm
      · exact KS.ite (KS.ret hm) KS.nil
    · exact KS.nil
  · split <;> first | exact KS.nil | exact KS.ite (fun o m h => by cases h) KS.nil
  · have ha : a ≤ 10 := Nat.le_of_ble_eq_true hv
    split
    · split <;> first | exact KS.nil | exact KS.chk (fun _ => (fun o m h => by cases h))
    · split <;> first | exact KS.nil | exact KS.chk (fun z => hp (n1_O ha z))
    · split <;> first | exact KS.nil | exact KS.chk (fun z => KS.ite (hp (n1_O ha z)) KS.nil)
theorem blk_stay {w : Nat → Int32} {cf : Nat → List Value → SM → Rs SM} (hcf : ∀ a as m, m.1 1000 = w → KS w (cf a as m)) {mi : Nat} {rec : RecT SM} (hrec : ∀ pc ls m, m.1 1000 = w → KS w (rec pc ls m)) : ∀ (g pc : Nat) (ls : Lo) (st : List Value) (m : SM), m.1 1000 = w → KS w (blk (OB Q0) cf (prog mi) (heds mi) rec g pc ls st m) := by
  intro g
  induction g with
  | zero => intro pc ls st m _; exact KS.nil
  | succ g ih =>
    intro pc ls st m hm
    show KS w (match prog mi pc with
      | none => none
      | some row => stpK (OB Q0) cf (fun pc' ls' st' m' => match heds mi pc' with
        | none => blk (OB Q0) cf (prog mi) (heds mi) rec g pc' ls' st' m'
        | some n => match st' with
          | [] => rec pc' (lmask n ls') m'
          | _ => none) row ls st m)
    cases hf : prog mi pc with
    | none => exact KS.nil
    | some row =>
      refine stp_stay hcf (fun pc' ls' st' m' h' => ?_) (n99_of (vAll hf)) ls st m hm
      cases heds mi pc' with
      | none => exact ih _ _ _ _ h'
      | some bs =>
        cases st' with
        | nil => exact hrec _ _ _ h'
        | cons w ws => exact KS.nil
theorem run_stay {w : Nat → Int32} {cf : Nat → List Value → SM → Rs SM} (hcf : ∀ a as m, m.1 1000 = w → KS w (cf a as m)) {mi : Nat} (pc : Nat) (ls : Lo) (m : SM) (hm : m.1 1000 = w) : KS w (runF (OB Q0) cf (prog mi) (heds mi) pc ls m) := by
  have key : ∀ (n pc : Nat) (ls : Lo) (m : SM), m.1 1000 = w → KS w (runN (OB Q0) cf (prog mi) (heds mi) n pc ls m) := by
    intro n
    induction n with
    | zero => intro pc ls m _; exact KS.nil
    | succ n ih =>
      intro pc ls m hm
      rw [runN_s]
      exact blk_stay hcf ih _ pc ls [] m hm
  intro o m2 h
  obtain ⟨n, hn⟩ := (runF_some _ _ _ _).mp h
  exact key n _ _ _ hm _ _ hn
theorem call_stay {w : Nat → Int32} : ∀ (d mi : Nat) (as : List Value) (m : SM), m.1 1000 = w → KS w (cB Q0 d mi as m) := by
  intro d
  induction d with
  | zero => intro mi as m _; exact KS.nil
  | succ d ih => intro mi as m hm; exact run_stay ih 0 (argsL as) m hm
