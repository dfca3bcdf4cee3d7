/-! A run over empty given cells is one over any given cells. -/
def Lw (u v : Mem) : Prop := u.1 = v.1 ∧ u.2.1 = v.2.1 ∧ (∀ k, k < 1000 → mH u k = mH v k ∧ mI u k = mI v k ∧ mL u k = mL v k ∧ mR u k = mR v k) ∧ ∀ k, 1000 ≤ k → mH u k = .inl 99
def RLo (r r' : Rs Mem) : Prop := ∀ o m, r = some (o, m) → ∃ m', r' = some (o, m') ∧ Lw m m'
section
variable {u v : Mem}
theorem Lw.hi (h : Lw u v) {r : Nat} (hr : mH u r ≠ .inl 99) : r < 1000 := Nat.lt_of_not_le fun z => hr (h.2.2.2 r z)
theorem Lw.hO (h : Lw u v) {r c : Nat} (hc : c ≠ 99) (hk : okO (mH u r) c = true) : r < 1000 ∧ okO (mH v r) c = true := by
  have h1 := okO_spec hk
  have h2 : r < 1000 := h.hi fun z => hc (by rw [h1] at z; cases z; rfl)
  exact ⟨h2, by rw [← (h.2.2.1 r h2).1]; exact hk⟩
theorem Lw.inr (h : Lw u v) {r t n : Nat} (hk : mH u r = .inr (t, n)) : r < 1000 := h.hi fun z => by rw [hk] at z; cases z
theorem Lw.hI (h : Lw u v) {r : Nat} {i : Int32} (hk : okI Q0 (mH u r) i = true) : r < 1000 ∧ okI Q0 (mH v r) i = true := by
  obtain ⟨t, n, e, -⟩ := okI_spec hk
  have h2 := h.inr e
  exact ⟨h2, by rw [← (h.2.2.1 r h2).1]; exact hk⟩
theorem Lw.hB (h : Lw u v) {r : Nat} {i : Int32} (hk : okB Q0 (mH u r) i = true) : r < 1000 ∧ okB Q0 (mH v r) i = true := by
  obtain ⟨t, n, e, -⟩ := okB_spec hk
  have h2 := h.inr e
  exact ⟨h2, by rw [← (h.2.2.1 r h2).1]; exact hk⟩
theorem Lw.hA (h : Lw u v) {r : Nat} {i : Int32} (hk : okA Q0 (mH u r) i = true) : r < 1000 ∧ okA Q0 (mH v r) i = true := by
  obtain ⟨t, n, e, -⟩ := okA_spec hk
  have h2 := h.inr e
  exact ⟨h2, by rw [← (h.2.2.1 r h2).1]; exact hk⟩
theorem Lw.h1 (h : Lw u v) {t r : Nat} {i : Int32} (hk : ok1 Q0 t (mH u r) i = true) : r < 1000 ∧ ok1 Q0 t (mH v r) i = true := by
  obtain ⟨n, e, -⟩ := ok1_spec hk
  have h2 := h.inr e
  exact ⟨h2, by rw [← (h.2.2.1 r h2).1]; exact hk⟩
theorem Lw.hC (h : Lw u v) {t r q : Nat} {a b c : Int32} (hk : okC Q0 t (mH u r) (mH u q) a b c = true) : r < 1000 ∧ q < 1000 ∧ okC Q0 t (mH v r) (mH v q) a b c = true := by
  obtain ⟨x, y, e1, e2, -⟩ := okC_spec hk
  have h2 := h.inr e1
  have h3 := h.inr e2
  exact ⟨h2, h3, by rw [← (h.2.2.1 r h2).1, ← (h.2.2.1 q h3).1]; exact hk⟩
theorem Lw.putI (h : Lw u v) (r i : Nat) (x : Int32) : Lw (mPutI u r i x) (mPutI v r i x) := by
  refine ⟨h.1, h.2.1, fun k hk => ⟨(h.2.2.1 k hk).1, ?_, (h.2.2.1 k hk).2.2⟩, h.2.2.2⟩
  show up2 (mI u) r i x k = up2 (mI v) r i x k
  by_cases e : k = r
  · subst e
    rw [up2_self, up2_self, (h.2.2.1 k hk).2.1]
  · rw [up2_row e, up2_row e, (h.2.2.1 k hk).2.1]
theorem Lw.putL (h : Lw u v) (r i : Nat) (x : Int64) : Lw (mPutL u r i x) (mPutL v r i x) := by
  refine ⟨h.1, h.2.1, fun k hk => ⟨(h.2.2.1 k hk).1, (h.2.2.1 k hk).2.1, ?_, (h.2.2.1 k hk).2.2.2⟩, h.2.2.2⟩
  show up2 (mL u) r i x k = up2 (mL v) r i x k
  by_cases e : k = r
  · subst e
    rw [up2_self, up2_self, (h.2.2.1 k hk).2.2.1]
  · rw [up2_row e, up2_row e, (h.2.2.1 k hk).2.2.1]
theorem Lw.putR (h : Lw u v) (r i x : Nat) : Lw (mPutR u r i x) (mPutR v r i x) := by
  refine ⟨h.1, h.2.1, fun k hk => ⟨(h.2.2.1 k hk).1, (h.2.2.1 k hk).2.1, (h.2.2.1 k hk).2.2.1, ?_⟩, h.2.2.2⟩
  show up2 (mR u) r i (some x) k = up2 (mR v) r i (some x) k
  by_cases e : k = r
  · subst e
    rw [up2_self, up2_self, (h.2.2.1 k hk).2.2.2]
  · rw [up2_row e, up2_row e, (h.2.2.1 k hk).2.2.2]
theorem Lw.new (h : Lw u v) (hu : u.1 < 1000) (s : Sh) (n : Nat) : Lw (mNew u s n) (mNew v s n) := by
  obtain ⟨h1, h2, h3, h4⟩ := h
  refine ⟨by show u.1 + 1 = v.1 + 1; rw [h1], by show u.2.1 + n = v.2.1 + n; rw [h2], fun k hk => ?_, fun k hk => ?_⟩
  · obtain ⟨a, b, c, d⟩ := h3 k hk
    show upR (mH u) u.1 s k = upR (mH v) v.1 s k ∧ upR (mI u) u.1 (fun _ => 0) k = upR (mI v) v.1 (fun _ => 0) k ∧ upR (mL u) u.1 (fun _ => 0) k = upR (mL v) v.1 (fun _ => 0) k ∧ upR (mR u) u.1 (fun _ => none) k = upR (mR v) v.1 (fun _ => none) k
    rw [← h1]
    by_cases e : k = u.1
    · subst e
      simp only [upR_self]
      exact ⟨trivial, trivial, trivial, trivial⟩
    · simp only [upR_ne e]
      exact ⟨a, b, c, d⟩
  · show upR (mH u) u.1 s k = _
    rw [upR_ne (by omega)]
    exact h4 k hk
theorem Lw.cpy (h : Lw u v) (t : Nat) {r q : Nat} (hr : r < 1000) (hq : q < 1000) (a b c : Nat) : Lw (mCpy u t r a q b c) (mCpy v t r a q b c) := by
  have key : ∀ {α : Type} {f g : Nat → Nat → α}, (∀ k, k < 1000 → f k = g k) → ∀ k, k < 1000 → upR f q (va_cpy (f r) (f q) a b c) k = upR g q (va_cpy (g r) (g q) a b c) k := by
    intro α f g hf k hk
    by_cases e : k = q
    · subst e
      rw [upR_self, upR_self, hf r hr, hf k hk]
    · rw [upR_ne e, upR_ne e, hf k hk]
  unfold mCpy
  split
  · exact ⟨h.1, h.2.1, fun k hk => ⟨(h.2.2.1 k hk).1, key (fun k hk => (h.2.2.1 k hk).2.1) k hk, (h.2.2.1 k hk).2.2⟩, h.2.2.2⟩
  · exact ⟨h.1, h.2.1, fun k hk => ⟨(h.2.2.1 k hk).1, (h.2.2.1 k hk).2.1, key (fun k hk => (h.2.2.1 k hk).2.2.1) k hk, (h.2.2.1 k hk).2.2.2⟩, h.2.2.2⟩
theorem RLo.nil {r' : Rs Mem} : RLo none r' := fun o m h => by cases h
theorem RLo.ret (h : Lw u v) {o : Option Value} : RLo (some (o, u)) (some (o, v)) := fun o m e => by cases e; exact ⟨v, rfl, h⟩
theorem RLo.ite {c : Bool} {a b a' b' : Rs Mem} (h1 : RLo a a') (h2 : RLo b b') : RLo (bT c a b) (bT c a' b') := by
  cases c
  · exact h2
  · exact h1
theorem RLo.chk {c c' : Bool} {a a' : Rs Mem} (hc : c = true → c' = true ∧ RLo a a') : RLo (bT c a none) (bT c' a' none) := by
  cases c
  · exact RLo.nil
  · obtain ⟨h1, h2⟩ := hc rfl
    rw [h1]
    exact h2
theorem RLo.bO {r r' : Option Nat} {f f' : Nat → Rs Mem} (e : r = r') (h : ∀ n, RLo (f n) (f' n)) : RLo (bO r f) (bO r' f') := by
  subst e
  cases r with
  | none => exact RLo.nil
  | some q => exact h q
theorem RLo.callK {q : Nat} {r r' : Rs Mem} {f f' : List Value → Mem → Rs Mem} (h1 : RLo r r') (h : ∀ o u v, Lw u v → RLo (f o u) (f' o v)) : RLo (callK q r f) (callK q r' f') := by
  intro o m hx
  obtain ⟨o2, m2, e1, e2⟩ := callK_some hx
  subst e1
  obtain ⟨m3, e3, e4⟩ := h1 _ _ rfl
  rw [e3]
  match q with
  | 0 => cases o2 with
    | none => exact h _ _ _ e4 _ _ hx
    | some v => cases hx
  | 1 => cases o2 with
    | none => cases hx
    | some v => cases v <;> first | exact h _ _ _ e4 _ _ hx | cases hx
  | 2 => cases o2 with
    | none => cases hx
    | some v => cases v <;> first | exact h _ _ _ e4 _ _ hx | cases hx
  | _ + 3 => cases o2 with
    | none => cases hx
    | some v => cases v <;> first | exact h _ _ _ e4 _ _ hx | cases hx
theorem RLo.rcv {c : Nat} (hc : c ≠ 100) (hL : Lw u v) {as : List Value} {k k' : Rs Mem} (h : RLo k k') : RLo (rcvK (OA Q0) c as u k) (rcvK (OA Q0) c as v k') := by
  match c, hc, as with
  | 0, _, _ => exact h
  | _ + 1, _, [] => exact RLo.nil
  | d + 1, hc, .ref r :: _ => exact RLo.chk fun z => ⟨(hL.hO (by omega) z).2, h⟩
  | _ + 1, _, .int _ :: _ => exact RLo.nil
  | _ + 1, _, .long _ :: _ => exact RLo.nil
  | _ + 1, _, .float _ :: _ => exact RLo.nil
  | _ + 1, _, .double _ :: _ => exact RLo.nil
  | _ + 1, _, .null :: _ => exact RLo.nil
  | _ + 1, _, .retAddr _ :: _ => exact RLo.nil
theorem RLo.sw {k k' : Nat → Rs Mem} (h : ∀ t, RLo (k t) (k' t)) (x : Int32) (d : Nat) : ∀ l : List (Int32 × Nat), RLo (swK Q0 l d x k) (swK Q0 l d x k')
  | [] => h d
  | (c, t) :: l => RLo.ite (h t) (RLo.sw h x d l)
theorem RLo.cmp {c : Jvm.ClassFile.Cond} {x y : Int32} {f g f' g' : Rs Mem} (hf : RLo f f') (hg : RLo g g') : RLo (cmpK Q0 c x y f g) (cmpK Q0 c x y f' g') := by
  cases c <;> first | exact RLo.ite hf hg | exact RLo.ite hg hf
theorem RLo.bN (hL : Lw u v) {s : Sh} {n : Nat} {f f' : Nat → Mem → Rs Mem} (h : ∀ q u v, Lw u v → RLo (f q u) (f' q v)) : RLo (bN (oN (OA Q0) u s n) f) (bN (oN (OA Q0) v s n) f') := by
  intro o m hx
  obtain ⟨q, m1, e1, e2⟩ := bN_some hx
  obtain ⟨g1, rfl, rfl⟩ := oN_some e1
  have e3 : oN (OA Q0) v s n = some (v.1, mNew v s n) := by
    show bT (Nat.ble 1000 v.1) none (some (v.1, mNew v s n)) = _
    rw [bT_f]
    rw [← hL.1]
    cases z : Nat.ble 1000 u.1 with
    | false => rfl
    | true => have := Nat.le_of_ble_eq_true z; omega
  rw [e3]
  rw [← hL.1]
  exact h _ _ _ (hL.new g1 s n) _ _ e2
theorem RLo.pm {r i q : Nat} {f f' : Mem → Rs Mem} (hL : Lw u v) (h : ∀ u v, Lw u v → RLo (f u) (f' v)) : RLo (bM (pR (OA Q0) u r i q) f) (bM (pR (OA Q0) v r i q) f') := by
  show RLo (bM (bT (Nat.beq q 1999) none (some (mPutR u r i q))) f) (bM (bT (Nat.beq q 1999) none (some (mPutR v r i q))) f')
  cases Nat.beq q 1999
  · exact h _ _ (hL.putR r i q)
  · exact RLo.nil
theorem RLo.bS (hL : Lw u v) {r : Nat} {f f' : Nat → Rs Mem} (h : ∀ n, RLo (f n) (f' n)) : RLo (bS (mH u r) f) (bS (mH v r) f') := by
  intro o m hx
  obtain ⟨t, n, e1, e2⟩ := bS_some hx
  have := hL.inr e1
  rw [← (hL.2.2.1 r this).1, e1]
  exact h n o m e2
end
set_option maxHeartbeats 4000000 in
theorem stp_low {cf cf' : Nat → List Value → Mem → Rs Mem} {k k' : Nat → Lo → List Value → Mem → Rs Mem} (hcf : ∀ a as u v, Lw u v → RLo (cf a as u) (cf' a as v)) (hk : ∀ pc ls st u v, Lw u v → RLo (k pc ls st u) (k' pc ls st v)) {row : Row} (hv : n99 row = true) (ls : Lo) (st : List Value) {u v : Mem} (hL : Lw u v) : RLo (stpK (OA Q0) cf k row ls st u) (stpK (OA Q0) cf' k' row ls st v) := by
  obtain ⟨i, nx, a, b, c, w, sw⟩ := row
  have hg : ∀ {pc ls st}, RLo (k pc ls st u) (k' pc ls st v) := hk _ _ _ _ _ hL
  have hG : ∀ {pc ls st u v}, Lw u v → RLo (k pc ls st u) (k' pc ls st v) := hk _ _ _ _ _
  have hcall : ∀ {b a : Nat} {as st2 : List Value} {nx : Nat}, RLo (callK b (cf a as u) fun o m' => k nx ls (o ++ st2) m') (callK b (cf' a as v) fun o m' => k' nx ls (o ++ st2) m') := RLo.callK (hcf _ _ _ _ hL) fun o u v h => hG h
  have hrd : ∀ {r : Nat}, r < 1000 → mI u r = mI v r := fun h => (hL.2.2.1 _ h).2.1
  have hrl : ∀ {r : Nat}, r < 1000 → mL u r = mL v r := fun h => (hL.2.2.1 _ h).2.2.1
  have hrr : ∀ {r : Nat}, r < 1000 → mR u r = mR v r := fun h => (hL.2.2.1 _ h).2.2.2
  have gI : ∀ {r i nx : Nat} {ls : Lo} {st : List Value}, r < 1000 → RLo (bX (mI u r i) fun z => k nx ls (.int z :: st) u) (bX (mI v r i) fun z => k' nx ls (.int z :: st) v) := fun h => by rw [hrd h]; exact hg
  have gL : ∀ {r i nx : Nat} {ls : Lo} {st : List Value}, r < 1000 → RLo (bX (mL u r i) fun z => k nx ls (.long z :: st) u) (bX (mL v r i) fun z => k' nx ls (.long z :: st) v) := fun h => by rw [hrl h]; exact hg
  have gR : ∀ {r i nx : Nat} {ls : Lo} {st : List Value}, r < 1000 → RLo (bO (mR u r i) fun z => k nx ls (.ref z :: st) u) (bO (mR v r i) fun z => k' nx ls (.ref z :: st) v) := fun h => RLo.bO (by rw [hrr h]) fun n => hg
  generalize hla : ls[a]? = la
  cases i <;> simp only [stpK, hla] <;> first
    | exact RLo.nil
    | exact hg
    | (split <;> first | exact RLo.nil | exact hg | exact RLo.ret hL | exact RLo.ite RLo.nil hg | exact RLo.ite hg RLo.nil | exact RLo.cmp hg hg | exact RLo.sw (fun t => hg) _ _ _ | exact RLo.chk (fun z => ⟨(hL.hI z).2, gI (hL.hI z).1⟩) | exact RLo.chk (fun z => ⟨(hL.hB z).2, gI (hL.hB z).1⟩) | exact RLo.chk (fun z => ⟨(hL.h1 z).2, gL (hL.h1 z).1⟩) | exact RLo.chk (fun z => ⟨(hL.hA z).2, gR (hL.hA z).1⟩) | exact RLo.chk (fun z => ⟨(hL.h1 z).2, hG (hL.putI _ _ _)⟩) | exact RLo.chk (fun z => ⟨(hL.h1 z).2, hG (hL.putL _ _ _)⟩) | exact RLo.bS hL fun n => hg)
    | skip
  · have hb : b ≤ 10 := Nat.le_of_ble_eq_true hv
    split <;> first | exact RLo.nil | exact RLo.chk (fun z => ⟨(hL.h1 z).2, RLo.chk (fun z => ⟨(hL.hO (by omega) z).2, RLo.pm hL fun u v h => hG h⟩)⟩)
  · split <;> first | exact RLo.nil | exact RLo.ite (RLo.bN hL fun q u v h => hG h) RLo.nil
  · have ha : a ≤ 10 := Nat.le_of_ble_eq_true hv
    split
    · refine RLo.chk (fun z => ⟨(hL.hO (by omega) z).2, ?_⟩)
      have hr := (hL.hO (by omega) z).1
      split <;> first | exact gI hr | exact gR hr
    · exact RLo.nil
  · have hc : c ≤ 11 := Nat.le_of_ble_eq_true hv
    split
    · split <;> first | exact RLo.nil | exact RLo.ite RLo.nil (RLo.ite hg RLo.nil)
    · exact RLo.ite (RLo.rcv (by omega) hL hcall) RLo.nil
  · split
    · exact RLo.ite hcall RLo.nil
    · split <;> first | exact RLo.nil | refine RLo.ite (RLo.chk (fun z => ⟨(hL.hC z).2.2, hG (hL.cpy _ (hL.hC z).1 (hL.hC z).2.1 _ _ _)⟩)) RLo.nil
  · have hc : c ≤ 11 := Nat.le_of_ble_eq_true hv
    exact RLo.ite (RLo.rcv (by omega) hL hcall) RLo.nil
  · split
    · split
      · exact RLo.ret hL
      · exact RLo.ite (RLo.ret hL) RLo.nil
    · exact RLo.nil
  · exact RLo.bN hL fun q u v h => hG h
  · split <;> first | exact RLo.nil | exact RLo.ite (RLo.bN hL fun q u v h => hG h) RLo.nil
  · have ha : a ≤ 10 := Nat.le_of_ble_eq_true hv
    split
    · split <;> first | exact RLo.nil | exact RLo.chk (fun z => ⟨(hL.hO (by omega) z).2, RLo.pm hL fun u v h => hG h⟩)
    · split <;> first | exact RLo.nil | exact RLo.chk (fun z => ⟨(hL.hO (by omega) z).2, hG (hL.putI _ _ _)⟩)
    · split <;> first | exact RLo.nil | exact RLo.chk (fun z => ⟨(hL.hO (by omega) z).2, RLo.ite (hG (hL.putI _ _ _)) RLo.nil⟩)
noncomputable def callN {M : Type} (O : Ops M) (pr : Nat → Nat → Option Row) (he : Nat → Nat → Option (List Bool)) (n d : Nat) : Nat → List Value → M → Rs M :=
  Nat.rec (motive := fun _ => Nat → List Value → M → Rs M) (fun _ _ _ => none) (fun _ ih mi as m => runN O ih (pr mi) (he mi) n 0 (argsL as) m) d
theorem blk_low {cf cf' : Nat → List Value → Mem → Rs Mem} (hcf : ∀ a as u v, Lw u v → RLo (cf a as u) (cf' a as v)) {mi : Nat} {rec rec' : RecT Mem} (hrec : ∀ pc ls u v, Lw u v → RLo (rec pc ls u) (rec' pc ls v)) : ∀ (g pc : Nat) (ls : Lo) (st : List Value) (u v : Mem), Lw u v → RLo (blk (OA Q0) cf (prog mi) (heds mi) rec g pc ls st u) (blk (OA Q0) cf' (prog mi) (heds mi) rec' g pc ls st v) := by
  intro g
  induction g with
  | zero => intro pc ls st u v _; exact RLo.nil
  | succ g ih =>
    intro pc ls st u v hL
    show RLo (match prog mi pc with
      | none => none
      | some row => stpK (OA Q0) cf (fun pc' ls' st' m' => match heds mi pc' with
        | none => blk (OA Q0) cf (prog mi) (heds mi) rec g pc' ls' st' m'
        | some n => match st' with
          | [] => rec pc' (lmask n ls') m'
          | _ => none) row ls st u) (match prog mi pc with
      | none => none
      | some row => stpK (OA Q0) cf' (fun pc' ls' st' m' => match heds mi pc' with
        | none => blk (OA Q0) cf' (prog mi) (heds mi) rec' g pc' ls' st' m'
        | some n => match st' with
          | [] => rec' pc' (lmask n ls') m'
          | _ => none) row ls st v)
    cases hf : prog mi pc with
    | none => exact RLo.nil
    | some row =>
      refine stp_low hcf (fun pc' ls' st' u' v' h' => ?_) (n99_of (vAll hf)) ls st hL
      cases heds mi pc' with
      | none => exact ih _ _ _ _ _ h'
      | some bs =>
        cases st' with
        | nil => exact hrec _ _ _ _ h'
        | cons w ws => exact RLo.nil
theorem run_low {cf cf' : Nat → List Value → Mem → Rs Mem} (hcf : ∀ a as u v, Lw u v → RLo (cf a as u) (cf' a as v)) {mi : Nat} : ∀ (n pc : Nat) (ls : Lo) (u v : Mem), Lw u v → RLo (runN (OA Q0) cf (prog mi) (heds mi) n pc ls u) (runN (OA Q0) cf' (prog mi) (heds mi) n pc ls v) := by
  intro n
  induction n with
  | zero => intro pc ls u v _; exact RLo.nil
  | succ n ih =>
    intro pc ls u v h
    rw [runN_s, runN_s]
    exact blk_low hcf ih _ pc ls [] u v h
theorem call_low (n : Nat) : ∀ (d mi : Nat) (as : List Value) (u v : Mem), Lw u v → RLo (callN (OA Q0) prog heds n d mi as u) (callF (OA Q0) prog heds d mi as v) := by
  intro d
  induction d with
  | zero => intro mi as u v _; exact RLo.nil
  | succ d ih =>
    intro mi as u v hL o m h
    obtain ⟨m', e1, e2⟩ := run_low ih n 0 (argsL as) u v hL o m h
    exact ⟨m', (runF_some _ _ _ _).mpr ⟨n, e1⟩, e2⟩
