/-! A run over empty given cells is one over any given cells, and these stay as they are. -/
def Lk (w u v : Mem) : Prop := Lw u v ∧ ∀ k, 1000 ≤ k → mH v k = mH w k ∧ mI v k = mI w k ∧ mR v k = mR w k
def RLk (w : Mem) (r r' : Rs Mem) : Prop := ∀ o m, r = some (o, m) → ∃ m', r' = some (o, m') ∧ Lk w m m'
section
variable {w u v : Mem}
theorem Lk.hO (h : Lk w u v) {r c : Nat} (hc : c ≠ 99) (hk : okO (mH u r) c = true) : r < 1000 ∧ okO (mH v r) c = true := h.1.hO hc hk
theorem Lk.inr (h : Lk w u v) {r t n : Nat} (hk : mH u r = .inr (t, n)) : r < 1000 := h.1.inr hk
theorem Lk.hI (h : Lk w u v) {r : Nat} {i : Int32} (hk : okI Q0 (mH u r) i = true) : r < 1000 ∧ okI Q0 (mH v r) i = true := h.1.hI hk
theorem Lk.hB (h : Lk w u v) {r : Nat} {i : Int32} (hk : okB Q0 (mH u r) i = true) : r < 1000 ∧ okB Q0 (mH v r) i = true := h.1.hB hk
theorem Lk.hA (h : Lk w u v) {r : Nat} {i : Int32} (hk : okA Q0 (mH u r) i = true) : r < 1000 ∧ okA Q0 (mH v r) i = true := h.1.hA hk
theorem Lk.h1 (h : Lk w u v) {t r : Nat} {i : Int32} (hk : ok1 Q0 t (mH u r) i = true) : r < 1000 ∧ ok1 Q0 t (mH v r) i = true := h.1.h1 hk
theorem Lk.hC (h : Lk w u v) {t r q : Nat} {a b c : Int32} (hk : okC Q0 t (mH u r) (mH u q) a b c = true) : r < 1000 ∧ q < 1000 ∧ okC Q0 t (mH v r) (mH v q) a b c = true := h.1.hC hk
theorem Lk.putI (h : Lk w u v) {r : Nat} (hr : r < 1000) (i : Nat) (x : Int32) : Lk w (mPutI u r i x) (mPutI v r i x) := ⟨h.1.putI r i x, fun k hk => by
  show mH v k = mH w k ∧ up2 (mI v) r i x k = mI w k ∧ mR v k = mR w k
  rw [up2_row (by omega)]
  exact h.2 k hk⟩
theorem Lk.putL (h : Lk w u v) {r : Nat} (hr : r < 1000) (i : Nat) (x : Int64) : Lk w (mPutL u r i x) (mPutL v r i x) := ⟨h.1.putL r i x, h.2⟩
theorem Lk.putR (h : Lk w u v) {r : Nat} (hr : r < 1000) (i x : Nat) : Lk w (mPutR u r i x) (mPutR v r i x) := ⟨h.1.putR r i x, fun k hk => by
  show mH v k = mH w k ∧ mI v k = mI w k ∧ up2 (mR v) r i (some x) k = mR w k
  rw [up2_row (by omega)]
  exact h.2 k hk⟩
theorem Lk.new (h : Lk w u v) (hu : u.1 < 1000) (s : Sh) (n : Nat) : Lk w (mNew u s n) (mNew v s n) := ⟨h.1.new hu s n, fun k hk => by
  have h1 := h.1.1
  show upR (mH v) v.1 s k = mH w k ∧ upR (mI v) v.1 (fun _ => 0) k = mI w k ∧ upR (mR v) v.1 (fun _ => none) k = mR w k
  rw [upR_ne (by omega), upR_ne (by omega), upR_ne (by omega)]
  exact h.2 k hk⟩
theorem Lk.cpy (h : Lk w u v) (t : Nat) {r q : Nat} (hr : r < 1000) (hq : q < 1000) (a b c : Nat) : Lk w (mCpy u t r a q b c) (mCpy v t r a q b c) := by
  refine ⟨h.1.cpy t hr hq a b c, fun k hk => ?_⟩
  unfold mCpy
  split
  · show mH v k = mH w k ∧ upR (mI v) q _ k = mI w k ∧ mR v k = mR w k
    rw [upR_ne (by omega)]
    exact h.2 k hk
  · exact h.2 k hk
theorem RLk.nil {r' : Rs Mem} : RLk w none r' := fun o m h => by cases h
theorem RLk.ret (h : Lk w u v) {o : Option Value} : RLk w (some (o, u)) (some (o, v)) := fun o m e => by cases e; exact ⟨v, rfl, h⟩
theorem RLk.ite {c : Bool} {a b a' b' : Rs Mem} (h1 : RLk w a a') (h2 : RLk w b b') : RLk w (bT c a b) (bT c a' b') := by
  cases c
  · exact h2
  · exact h1
theorem RLk.chk {c c' : Bool} {a a' : Rs Mem} (hc : c = true → c' = true ∧ RLk w a a') : RLk w (bT c a none) (bT c' a' none) := by
  cases c
  · exact RLk.nil
  · obtain ⟨h1, h2⟩ := hc rfl
    rw [h1]
    exact h2
theorem RLk.bO {r r' : Option Nat} {f f' : Nat → Rs Mem} (e : r = r') (h : ∀ n, RLk w (f n) (f' n)) : RLk w (bO r f) (bO r' f') := by
  subst e
  cases r with
  | none => exact RLk.nil
  | some q => exact h q
theorem RLk.callK {q : Nat} {r r' : Rs Mem} {f f' : List Value → Mem → Rs Mem} (h1 : RLk w r r') (h : ∀ o u v, Lk w u v → RLk w (f o u) (f' o v)) : RLk w (callK q r f) (callK q r' f') := by
  intro o m hx
  obtain ⟨o2, m2, e1, e2⟩ := callK_some hx
  subst e1
  obtain ⟨m3, e3, e4⟩ := h1 _ _ rfl
  rw [e3]
  match q with
  | 0 => cases o2 with
    | none => exact h _ _ _ e4 _ _ hx
    | some v => cases hx
  | 1 => cases o2 with
    | none => cases hx
    | some v => cases v <;> first | exact h _ _ _ e4 _ _ hx | cases hx
  | 2 => cases o2 with
    | none => cases hx
    | some v => cases v <;> first | exact h _ _ _ e4 _ _ hx | cases hx
  | _ + 3 => cases o2 with
    | none => cases hx
    | some v => cases v <;> first | exact h _ _ _ e4 _ _ hx | cases hx
theorem RLk.rcv {c : Nat} (hc : c ≠ 100) (hL : Lk w u v) {as : List Value} {k k' : Rs Mem} (h : RLk w k k') : RLk w (rcvK (OA Q0) c as u k) (rcvK (OA Q0) c as v k') := by
  match c, hc, as with
  | 0, _, _ => exact h
  | _ + 1, _, [] => exact RLk.nil
  | d + 1, hc, .ref r :: _ => exact RLk.chk fun z => ⟨(hL.hO (by omega) z).2, h⟩
  | _ + 1, _, .int _ :: _ => exact RLk.nil
  | _ + 1, _, .long _ :: _ => exact RLk.nil
  | _ + 1, _, .float _ :: _ => exact RLk.nil
  | _ + 1, _, .double _ :: _ => exact RLk.nil
  | _ + 1, _, .null :: _ => exact RLk.nil
  | _ + 1, _, .retAddr _ :: _ => exact RLk.nil
theorem RLk.sw {k k' : Nat → Rs Mem} (h : ∀ t, RLk w (k t) (k' t)) (x : Int32) (d : Nat) : ∀ l : List (Int32 × Nat), RLk w (swK Q0 l d x k) (swK Q0 l d x k')
  | [] => h d
  | (c, t) :: l => RLk.ite (h t) (RLk.sw h x d l)
theorem RLk.cmp {c : Jvm.ClassFile.Cond} {x y : Int32} {f g f' g' : Rs Mem} (hf : RLk w f f') (hg : RLk w g g') : RLk w (cmpK Q0 c x y f g) (cmpK Q0 c x y f' g') := by
  cases c <;> first | exact RLk.ite hf hg | exact RLk.ite hg hf
theorem RLk.bN (hL : Lk w u v) {s : Sh} {n : Nat} {f f' : Nat → Mem → Rs Mem} (h : ∀ q u v, Lk w u v → RLk w (f q u) (f' q v)) : RLk w (bN (oN (OA Q0) u s n) f) (bN (oN (OA Q0) v s n) f') := by
  intro o m hx
  obtain ⟨q, m1, e1, e2⟩ := bN_some hx
  obtain ⟨g1, rfl, rfl⟩ := oN_some e1
  have e3 : oN (OA Q0) v s n = some (v.1, mNew v s n) := by
    show bT (Nat.ble 1000 v.1) none (some (v.1, mNew v s n)) = _
    rw [bT_f]
    rw [← hL.1.1]
    cases z : Nat.ble 1000 u.1 with
    | false => rfl
    | true => have := Nat.le_of_ble_eq_true z; omega
  rw [e3]
  rw [← hL.1.1]
  exact h _ _ _ (hL.new g1 s n) _ _ e2
theorem RLk.pm {r i q : Nat} {f f' : Mem → Rs Mem} (hr : r < 1000) (hL : Lk w u v) (h : ∀ u v, Lk w u v → RLk w (f u) (f' v)) : RLk w (bM (pR (OA Q0) u r i q) f) (bM (pR (OA Q0) v r i q) f') := by
  show RLk w (bM (bT (Nat.beq q 1999) none (some (mPutR u r i q))) f) (bM (bT (Nat.beq q 1999) none (some (mPutR v r i q))) f')
  cases Nat.beq q 1999
  · exact h _ _ (hL.putR hr i q)
  · exact RLk.nil
theorem RLk.bS (hL : Lk w u v) {r : Nat} {f f' : Nat → Rs Mem} (h : ∀ n, RLk w (f n) (f' n)) : RLk w (bS (mH u r) f) (bS (mH v r) f') := by
  intro o m hx
  obtain ⟨t, n, e1, e2⟩ := bS_some hx
  have := hL.inr e1
  rw [← (hL.1.2.2.1 r this).1, e1]
  exact h n o m e2
end
set_option maxHeartbeats 4000000 in
theorem stp_lowk {w : Mem} {cf cf' : Nat → List Value → Mem → Rs Mem} {k k' : Nat → Lo → List Value → Mem → Rs Mem} (hcf : ∀ a as u v, Lk w u v → RLk w (cf a as u) (cf' a as v)) (hk : ∀ pc ls st u v, Lk w u v → RLk w (k pc ls st u) (k' pc ls st v)) {row : Row} (hv : n99 row = true) (ls : Lo) (st : List Value) {u v : Mem} (hL : Lk w u v) : RLk w (stpK (OA Q0) cf k row ls st u) (stpK (OA Q0) cf' k' row ls st v) := by
  obtain ⟨i, nx, a, b, c, ww, sw⟩ := row
  have hg : ∀ {pc ls st}, RLk w (k pc ls st u) (k' pc ls st v) := hk _ _ _ _ _ hL
  have hG : ∀ {pc ls st u v}, Lk w u v → RLk w (k pc ls st u) (k' pc ls st v) := hk _ _ _ _ _
  have hcall : ∀ {b a : Nat} {as st2 : List Value} {nx : Nat}, RLk w (callK b (cf a as u) fun o m' => k nx ls (o ++ st2) m') (callK b (cf' a as v) fun o m' => k' nx ls (o ++ st2) m') := RLk.callK (hcf _ _ _ _ hL) fun o u v h => hG h
  have hrd : ∀ {r : Nat}, r < 1000 → mI u r = mI v r := fun h => (hL.1.2.2.1 _ h).2.1
  have hrl : ∀ {r : Nat}, r < 1000 → mL u r = mL v r := fun h => (hL.1.2.2.1 _ h).2.2.1
  have hrr : ∀ {r : Nat}, r < 1000 → mR u r = mR v r := fun h => (hL.1.2.2.1 _ h).2.2.2
  have gI : ∀ {r i nx : Nat} {ls : Lo} {st : List Value}, r < 1000 → RLk w (bX (mI u r i) fun z => k nx ls (.int z :: st) u) (bX (mI v r i) fun z => k' nx ls (.int z :: st) v) := fun h => by rw [hrd h]; exact hg
  have gL : ∀ {r i nx : Nat} {ls : Lo} {st : List Value}, r < 1000 → RLk w (bX (mL u r i) fun z => k nx ls (.long z :: st) u) (bX (mL v r i) fun z => k' nx ls (.long z :: st) v) := fun h => by rw [hrl h]; exact hg
  have gR : ∀ {r i nx : Nat} {ls : Lo} {st : List Value}, r < 1000 → RLk w (bO (mR u r i) fun z => k nx ls (.ref z :: st) u) (bO (mR v r i) fun z => k' nx ls (.ref z :: st) v) := fun h => RLk.bO (by rw [hrr h]) fun n => hg
  generalize hla : ls[a]? = la
  cases i <;> simp only [stpK, hla] <;> first
    | exact RLk.nil
    | exact hg
    | (split <;> first | exact RLk.nil | exact hg | exact RLk.ret hL | exact RLk.ite RLk.nil hg | exact RLk.ite hg RLk.nil | exact RLk.cmp hg hg | exact RLk.sw (fun t => hg) _ _ _ | exact RLk.chk (fun z => ⟨(hL.hI z).2, gI (hL.hI z).1⟩) | exact RLk.chk (fun z => ⟨(hL.hB z).2, gI (hL.hB z).1⟩) | exact RLk.chk (fun z => ⟨(hL.h1 z).2, gL (hL.h1 z).1⟩) | exact RLk.chk (fun z => ⟨(hL.hA z).2, gR (hL.hA z).1⟩) | exact RLk.chk (fun z => ⟨(hL.h1 z).2, hG (hL.putI (hL.h1 z).1 _ _)⟩) | exact RLk.chk (fun z => ⟨(hL.h1 z).2, hG (hL.putL (hL.h1 z).1 _ _)⟩) | exact RLk.bS hL fun n => hg)
    | skip
  · have hb : b ≤ 10 := Nat.le_of_ble_eq_true hv
    split <;> first | exact RLk.nil | exact RLk.chk (fun z => ⟨(hL.h1 z).2, RLk.chk (fun z2 => ⟨(hL.hO (by omega) z2).2, RLk.pm (hL.h1 z).1 hL fun u v h => hG h⟩)⟩)
  · split <;> first | exact RLk.nil | exact RLk.ite (RLk.bN hL fun q u v h => hG h) RLk.nil
  · have ha : a ≤ 10 := Nat.le_of_ble_eq_true hv
    split
    · refine RLk.chk (fun z => ⟨(hL.hO (by omega) z).2, ?_⟩)
      have hr := (hL.hO (by omega) z).1
      split <;> first | exact gI hr | exact gR hr
    · exact RLk.nil
  · have hc : c ≤ 11 := Nat.le_of_ble_eq_true hv
    split
    · split <;> first | exact RLk.nil | exact RLk.ite RLk.nil (RLk.ite hg RLk.nil)
    · exact RLk.ite (RLk.rcv (by omega) hL hcall) RLk.nil
  · split
    · exact RLk.ite hcall RLk.nil
    · split <;> first | exact RLk.nil | refine RLk.ite (RLk.chk (fun z => ⟨(hL.hC z).2.2, hG (hL.cpy _ (hL.hC z).1 (hL.hC z).2.1 _ _ _)⟩)) RLk.nil
  · have hc : c ≤ 11 := Nat.le_of_ble_eq_true hv
    exact RLk.ite (RLk.rcv (by omega) hL hcall) RLk.nil
  · split
    · split
      · exact RLk.ret hL
      · exact RLk.ite (RLk.ret hL) RLk.nil
    · exact RLk.nil
  · exact RLk.bN hL fun q u v h => hG h
  · split <;> first | exact RLk.nil | exact RLk.ite (RLk.bN hL fun q u v h => hG h) RLk.nil
  · have ha : a ≤ 10 := Nat.le_of_ble_eq_true hv
    split
    · split <;> first | exact RLk.nil | exact RLk.chk (fun z => ⟨(hL.hO (by omega) z).2, RLk.pm (hL.hO (by omega) z).1 hL fun u v h => hG h⟩)
    · split <;> first | exact RLk.nil | exact RLk.chk (fun z => ⟨(hL.hO (by omega) z).2, hG (hL.putI (hL.hO (by omega) z).1 _ _)⟩)
    · split <;> first | exact RLk.nil | exact RLk.chk (fun z => ⟨(hL.hO (by omega) z).2, RLk.ite (hG (hL.putI (hL.hO (by omega) z).1 _ _)) RLk.nil⟩)
theorem blk_lowk {w : Mem} {cf cf' : Nat → List Value → Mem → Rs Mem} (hcf : ∀ a as u v, Lk w u v → RLk w (cf a as u) (cf' a as v)) {mi : Nat} {rec rec' : RecT Mem} (hrec : ∀ pc ls u v, Lk w u v → RLk w (rec pc ls u) (rec' pc ls v)) : ∀ (g pc : Nat) (ls : Lo) (st : List Value) (u v : Mem), Lk w u v → RLk w (blk (OA Q0) cf (prog mi) (heds mi) rec g pc ls st u) (blk (OA Q0) cf' (prog mi) (heds mi) rec' g pc ls st v) := by
  intro g
  induction g with
  | zero => intro pc ls st u v _; exact RLk.nil
  | succ g ih =>
    intro pc ls st u v hL
    show RLk w (match prog mi pc with
      | none => none
      | some row => stpK (OA Q0) cf (fun pc' ls' st' m' => match heds mi pc' with
        | none => blk (OA Q0) cf (prog mi) (heds mi) rec g pc' ls' st' m'
        | some n => match st' with
          | [] => rec pc' (lmask n ls') m'
          | _ => none) row ls st u) (match prog mi pc with
      | none => none
      | some row => stpK (OA Q0) cf' (fun pc' ls' st' m' => match heds mi pc' with
        | none => blk (OA Q0) cf' (prog mi) (heds mi) rec' g pc' ls' st' m'
        | some n => match st' with
          | [] => rec' pc' (lmask n ls') m'
          | _ => none) row ls st v)
    cases hf : prog mi pc with
    | none => exact RLk.nil
    | some row =>
      refine stp_lowk hcf (fun pc' ls' st' u' v' h' => ?_) (n99_of (vAll hf)) ls st hL
      cases heds mi pc' with
      | none => exact ih _ _ _ _ _ h'
      | some bs =>
        cases st' with
        | nil => exact hrec _ _ _ _ h'
        | cons w ws => exact RLk.nil
theorem run_lowk {w : Mem} {cf cf' : Nat → List Value → Mem → Rs Mem} (hcf : ∀ a as u v, Lk w u v → RLk w (cf a as u) (cf' a as v)) {mi : Nat} : ∀ (n pc : Nat) (ls : Lo) (u v : Mem), Lk w u v → RLk w (runN (OA Q0) cf (prog mi) (heds mi) n pc ls u) (runN (OA Q0) cf' (prog mi) (heds mi) n pc ls v) := by
  intro n
  induction n with
  | zero => intro pc ls u v _; exact RLk.nil
  | succ n ih =>
    intro pc ls u v h
    rw [runN_s, runN_s]
    exact blk_lowk hcf ih _ pc ls [] u v h
theorem call_lowk {w : Mem} (n : Nat) : ∀ (d mi : Nat) (as : List Value) (u v : Mem), Lk w u v → RLk w (callN (OA Q0) prog heds n d mi as u) (callF (OA Q0) prog heds d mi as v) := by
  intro d
  induction d with
  | zero => intro mi as u v _; exact RLk.nil
  | succ d ih =>
    intro mi as u v hL o m h
    obtain ⟨m', e1, e2⟩ := run_lowk ih n 0 (argsL as) u v hL o m h
    exact ⟨m', (runF_some _ _ _ _).mpr ⟨n, e1⟩, e2⟩
