/-! STRINGS and THE TEXT of the class -/
def StrF (s n : Nat) : Prop := SHt s = .inl 10 ∧ GRt s 0 = some (s + 10) ∧ SHt (s + 10) = .inr (11, n)
def StrC (s n : Nat) (f : Int → Int) (m : SM) : Prop := m.1 s 1 = J 0 ∧ ∀ i : Int, 0 ≤ i → i < n → m.1 (s + 10) i.toNat = J (f i)
def chr (f : Int → Int) : Prop := ∀ i, 0 ≤ f i ∧ f i ≤ 127
def TxtC (tx : Int → Int) (N : Int) (m : SM) : Prop := m.1 129 1 = J N ∧ ∀ j : Int, 0 ≤ j → j < N → m.1 130 j.toNat = J (tx j)
def byt (tx : Int → Int) (N a : Int) : Int := if a < N then tx a else -1
def putP (m : SM) (a : Int) : SM := (up2 m.1 129 2 (J a), m.2)
theorem putP_self {m : SM} {a : Int} (h : m.1 129 2 = J a) : putP m a = m := by
  unfold putP
  have : up2 m.1 129 2 (J a) = m.1 := by
    funext k i
    by_cases e : k = 129
    · subst e
      rw [u2_at]
      by_cases e2 : i = 2
      · rw [if_pos e2, e2, h]
      · rw [if_neg e2]
    · rw [u2_ne _ _ e]
  rw [this]
theorem putP_at (m : SM) (a : Int) : (putP m a).1 129 2 = J a := by
  show up2 m.1 129 2 (J a) 129 2 = _
  rw [u2_at, if_pos rfl]
theorem putP_putP (m : SM) (a b : Int) : putP (putP m a) b = putP m b := by
  unfold putP
  have : up2 (up2 m.1 129 2 (J a)) 129 2 (J b) = up2 m.1 129 2 (J b) := by
    funext k i
    by_cases e : k = 129
    · subst e
      rw [u2_at, u2_at, u2_at]
      by_cases e2 : i = 2
      · rw [if_pos e2, if_pos e2]
      · rw [if_neg e2, if_neg e2, if_neg e2]
    · rw [u2_ne _ _ e, u2_ne _ _ e, u2_ne _ _ e]
  show ((up2 (up2 m.1 129 2 (J a)) 129 2 (J b), m.2) : SM) = _
  rw [this]
theorem putP_fr (m : SM) (a : Int) : Fr (fun k => k = 129) m (putP m a) := Fr.put (K := fun k => k = 129) rfl _ _
theorem TxtC.put {tx : Int → Int} {N a : Int} {m : SM} (h : TxtC tx N m) : TxtC tx N (putP m a) := by
  refine ⟨?_, fun j g0 g1 => ?_⟩
  · show up2 m.1 129 2 (J a) 129 1 = _
    rw [u2_at, if_neg (by omega)]
    exact h.1
  · show up2 m.1 129 2 (J a) 130 j.toNat = _
    rw [u2_ne _ _ (by omega)]
    exact h.2 j g0 g1
theorem StrC.fr {s n : Nat} {f : Int → Int} {m m' : SM} {K : Nat → Prop} (h : StrC s n f m) (hF : Fr K m m') (h1 : ¬ K s) (h2 : ¬ K (s + 10)) : StrC s n f m' := ⟨by rw [hF.1 s h1]; exact h.1, fun i g0 g1 => by rw [hF.1 (s + 10) h2]; exact h.2 i g0 g1⟩
theorem byte_ok : (List.range 128).all (fun n => eqI ((Int32.toUInt32 (J (n : Int) &&& 255) % 65536).toInt32) (J (n : Int)) && (eqI ((Int32.toUInt32 (J (n : Int)) % 65536).toInt32) (J (n : Int)) && (eqI ((Int32.toInt8 (J (n : Int))).toInt32) (J (n : Int)) && Q0.2.2.2.1 2 (J (n : Int))))) = true := by decide +kernel
theorem byte_at {c : Int} (h0 : 0 ≤ c) (h1 : c ≤ 127) : (Int32.toUInt32 (J c &&& 255) % 65536).toInt32 = J c ∧ (Int32.toUInt32 (J c) % 65536).toInt32 = J c ∧ (Int32.toInt8 (J c)).toInt32 = J c ∧ Q0.2.2.2.1 2 (J c) = true := by
  have h := List.all_eq_true.mp byte_ok c.toNat (List.mem_range.mpr (by omega))
  rw [Int.toNat_of_nonneg h0] at h
  simp only [Bool.and_eq_true] at h
  exact ⟨eqI_spec h.1, eqI_spec h.2.1, eqI_spec h.2.2.1, h.2.2.2⟩
section
variable {m : SM} {d : Nat} {s n : Nat} {f : Int → Int}
theorem S_217 (hF : StrF s n) (hS : StrC s n f m) : cB Q0 (d + 1) 217 [.ref s] m = some (some (.int (J 0)), m) := by
  rw [cB_eq]
  show rB Q0 217 (cB Q0 d) 0 [some (.ref s)] m = _
  rw [T_217_0, show ∀ (x y : Rs SM), bT (Q0.1 0 1 0) x y = y from fun _ _ => rfl, hF.1, cO_J, bX_e, hS.1]
  rfl
theorem S_218 (hF : StrF s n) (hS : StrC s n f m) : cB Q0 (d + 1) 218 [.ref s] m = some (some (.int (J 1)), m) := by
  rw [cB_eq]
  show rB Q0 218 (cB Q0 d) 0 [some (.ref s)] m = _
  rw [T_218_0, show ∀ (x y : Rs SM), bT (Q0.1 0 1 0) x y = y from fun _ _ => rfl, hF.1, cO_J, bX_e, hS.1]
  rfl
theorem S_213 (hF : StrF s n) (hS : StrC s n f m) (hn : n = 3 ∨ n = 4 ∨ n = 6) : cB Q0 (d + 2) 213 [.ref s] m = some (some (.int (J (n : Int))), m) := by
  rw [cB_eq]
  show rB Q0 213 (cB Q0 (d + 1)) 0 [some (.ref s)] m = _
  rw [T_213_0, hF.1, cO_J, hF.2.1, bO_e, hF.2.2, bS_e, cO_J, S_217 hF hS, bI_e]
  rcases hn with rfl | rfl | rfl <;> rfl
theorem S_234 {a b : Int} {q : Nat} (h0 : 0 ≤ a) (h1 : a < b) (h2 : b ≤ 1000) : cB Q0 (d + 1) 234 [.int (J a), .int (J b), .ref q] m = some (some (.int (J a)), m) := by
  have n0 : ∀ {α : Type} (x y : α), bT (Q0.1 1 (J a) 0) x y = if a < 0 then x else y := fun x y => q1_J (b := 0) (by omega) (by omega) (by omega) (by omega) x y
  rw [cB_eq]
  show rB Q0 234 (cB Q0 d) 0 [some (.int (J a)), some (.int (J b)), some (.ref q)] m = _
  rw [T_234_0, n0, if_neg (by omega), q1_J (by omega) (by omega) (by omega) (by omega), if_pos h1]
theorem S_219 {a b : Int} (h0 : 0 ≤ a) (h1 : a < b) (h2 : b ≤ 1000) : cB Q0 (d + 2) 219 [.int (J a), .int (J b)] m = some (none, m) := by
  rw [cB_eq]
  show rB Q0 219 (cB Q0 (d + 1)) 0 [some (.int (J a)), some (.int (J b))] m = _
  rw [T_219_0, S_234 h0 h1 h2, bI_e]
theorem S_214 (hF : StrF s n) (hS : StrC s n f m) (hf : chr f) (hn : n ≤ 6) {i : Int} (h0 : 0 ≤ i) (h1 : i < n) : cB Q0 (d + 4) 214 [.ref s, .int (J i)] m = some (some (.int (J (f i))), m) := by
  have hb := byte_at (hf i).1 (hf i).2
  have e221 : cB Q0 (d + 3) 221 [.ref (s + 10), .int (J i)] m = some (some (.int (J (f i))), m) := by
    rw [cB_eq]
    show rB Q0 221 (cB Q0 (d + 2)) 0 [some (.ref (s + 10)), some (.int (J i))] m = _
    rw [T_221_0, hF.2.2, bS_e, show cB Q0 (d + 2) 219 [.int (J i), .int (Int32.ofNat n)] m = _ from S_219 (b := (n : Int)) h0 h1 (by omega), bV_e, cS_J h0 (by omega) (by omega), bX_e, J_clamp h0 (by omega), hS.2 i h0 h1, hb.1, bT_t hb.2.2.2]
  rw [cB_eq]
  show rB Q0 214 (cB Q0 (d + 3)) 0 [some (.ref s), some (.int (J i))] m = _
  rw [T_214_0, hF.1, cO_J, S_218 hF hS, bI_e, show ∀ (x y : Rs SM), bT (Q0.1 0 (J 1) 0) x y = y from fun _ _ => rfl, cO_J, hF.2.1, bO_e, e221, bI_e, bT_t hb.2.2.2]
def ixF (f : Int → Int) (c : Int) : Nat → Int → Int
  | 0, _ => -1
  | k + 1, i => if f i = c then i else ixF f c k (i + 1)
theorem ixF_in {f : Int → Int} {c : Int} : ∀ (k : Nat) (i : Int), 0 ≤ i → -1 ≤ ixF f c k i ∧ ixF f c k i < i + k
  | 0, i, h => ⟨by unfold ixF; omega, by unfold ixF; omega⟩
  | k + 1, i, h => by
    have := ixF_in (f := f) (c := c) k (i + 1) (by omega)
    unfold ixF
    split <;> omega
theorem L_224 (hF : StrF s n) (hS : StrC s n f m) (hf : chr f) (hn : n ≤ 6) {c : Int} (hc : 0 ≤ c ∧ c ≤ 127) {cf : Nat → List Value → SM → Rs SM} : ∀ (k : Nat) (i : Int), 0 ≤ i → i + k = n → rB Q0 224 cf 7 [some (.ref (s + 10)), none, none, some (.int (J (n : Int))), some (.int (J c)), some (.int (J i))] m = some (some (.int (J (ixF f c k i))), m) := by
  intro k
  induction k with
  | zero =>
    intro i h0 h1
    rw [T_224_7, q2_J (by omega) (by omega) (by omega) (by omega), if_pos (by omega)]
    rfl
  | succ k ih =>
    intro i h0 h1
    have hi := hf i
    have e : ixF f c (k + 1) i = if f i = c then i else ixF f c k (i + 1) := rfl
    rw [e, T_224_7, q2_J (by omega) (by omega) (by omega) (by omega), if_neg (by omega), hF.2.2, cS_J h0 (by omega) (by omega), bX_e, J_clamp h0 (by omega), hS.2 i h0 (by omega), q0_J (by omega) (by omega) (by omega) (by omega)]
    by_cases e2 : f i = c
    · rw [if_pos e2, if_pos e2]
    · rw [if_neg e2, if_neg e2, show J i + 1 = J (i + 1) from J_add i 1]
      exact ih (i + 1) (by omega) (by omega)
theorem S_215 (hF : StrF s n) (hS : StrC s n f m) (hf : chr f) (hn : n = 3 ∨ n = 4 ∨ n = 6) {c : Int} (hc : 0 ≤ c ∧ c ≤ 127) : cB Q0 (d + 4) 215 [.ref s, .int (J c)] m = some (some (.int (J (ixF f c n 0))), m) := by
  have hb := byte_at hc.1 hc.2
  have e222 : cB Q0 (d + 1) 222 [.int (J c)] m = some (some (.int (J 1)), m) := by
    have n0 : ∀ {α : Type} (x y : α), bT (Q0.1 1 (J c) 0) x y = if c < 0 then x else y := fun x y => q1_J (b := 0) (by omega) (by omega) (by omega) (by omega) x y
    have n1 : ∀ {α : Type} (x y : α), bT (Q0.1 1 255 (J c)) x y = if 255 < c then x else y := fun x y => q1_J (a := 255) (by omega) (by omega) (by omega) (by omega) x y
    rw [cB_eq]
    show rB Q0 222 (cB Q0 d) 0 [some (.int (J c))] m = _
    rw [T_222_0, n0, if_neg (by omega), n1, if_neg (by omega)]
    rfl
  have e211 : cB Q0 (d + 1) 211 [.int (J 0), .int (J 0)] m = some (some (.int (J 0)), m) := S_211 (d := d) (x := 0) (y := 0) (by omega) (by omega) (by omega) (by omega)
  have e212 : cB Q0 (d + 1) 212 [.int (J (n : Int)), .int (J (n : Int))] m = some (some (.int (J (n : Int))), m) := by
    have h := S_212 (m := m) (d := d) (x := n) (y := n) (by omega) (by omega) (by omega) (by omega)
    rw [if_neg (by omega)] at h
    exact h
  have e224 : cB Q0 (d + 1) 224 [.ref (s + 10), .int (J c), .int (J 0), .int (J (n : Int))] m = some (some (.int (J (ixF f c n 0))), m) := by
    rw [cB_eq]
    show rB Q0 224 (cB Q0 d) 0 [some (.ref (s + 10)), some (.int (J c)), some (.int (J 0)), some (.int (J (n : Int)))] m = _
    rw [T_224_0, hb.2.2.1]
    exact L_224 hF hS hf (by omega) hc n 0 (by omega) (by omega)
  have e223 : cB Q0 (d + 2) 223 [.ref (s + 10), .int (J c), .int (J 0), .int (J (n : Int))] m = some (some (.int (J (ixF f c n 0))), m) := by
    rw [cB_eq]
    show rB Q0 223 (cB Q0 (d + 1)) 0 [some (.ref (s + 10)), some (.int (J c)), some (.int (J 0)), some (.int (J (n : Int)))] m = _
    rw [T_223_0, e222, bI_e, show ∀ (x y : Rs SM), bT (Q0.1 0 (J 1) 0) x y = y from fun _ _ => rfl, show cB Q0 (d + 1) 211 [.int (J 0), .int 0] m = _ from e211, bI_e, hF.2.2, bS_e, show cB Q0 (d + 1) 212 [.int (J (n : Int)), .int (Int32.ofNat n)] m = _ from e212, bI_e, q1_J (by omega) (by omega) (by omega) (by omega), if_pos (by omega), e224, bI_e]
  have e216 : cB Q0 (d + 3) 216 [.ref s, .int (J c), .int (J 0)] m = some (some (.int (J (ixF f c n 0))), m) := by
    rw [cB_eq]
    show rB Q0 216 (cB Q0 (d + 2)) 0 [some (.ref s), some (.int (J c)), some (.int (J 0))] m = _
    rw [T_216_0, hF.1, cO_J, S_218 hF hS, bI_e, show ∀ (x y : Rs SM), bT (Q0.1 0 (J 1) 0) x y = y from fun _ _ => rfl, cO_J, hF.2.1, bO_e, cO_J, S_213 (d := d) hF hS hn, bI_e, e223, bI_e]
  rw [cB_eq]
  show rB Q0 215 (cB Q0 (d + 3)) 0 [some (.ref s), some (.int (J c))] m = _
  rw [T_215_0, hF.1, cO_J, show cB Q0 (d + 3) 216 [.ref s, .int (J c), .int 0] m = _ from e216, bI_e]
end
