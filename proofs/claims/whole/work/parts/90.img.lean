/-! IMAGE and UNDO of the reference: what is copied -/
theorem L_186_71 {cf : Nat → List Value → SM → Rs SM} : ∀ (n : Nat) (c : Int) (m : SM), 0 ≤ c → c + n = 6 → (∀ i : Int, 0 ≤ i → i < c → m.1 213 i.toNat = m.1 181 i.toNat ∧ m.1 214 i.toNat = m.1 182 i.toNat ∧ m.1 215 i.toNat = m.1 183 i.toNat ∧ m.1 216 i.toNat = m.1 184 i.toNat) → ∃ m', rB Q0 186 cf 71 [some (.ref 177), some (.int (J c))] m = rB Q0 186 cf 133 [some (.ref 177), some (.int (J 0))] m' ∧ (∀ i : Int, 0 ≤ i → i < 6 → m'.1 213 i.toNat = m'.1 181 i.toNat ∧ m'.1 214 i.toNat = m'.1 182 i.toNat ∧ m'.1 215 i.toNat = m'.1 183 i.toNat ∧ m'.1 216 i.toNat = m'.1 184 i.toNat) ∧ FrR (fun k => k = 213 ∨ k = 214 ∨ k = 215 ∨ k = 216) noI m m' := by
  intro n
  induction n with
  | zero =>
    intro c m h0 h1 h
    obtain rfl : c = 6 := by omega
    refine ⟨m, ?_, h, FrR.rf⟩
    rw [T_186_71]
    simp (disch := omega) only [kk, lits, q0_J, q1_J, q2_J, cI_J, cT_J, cB_J, cZ_J, cS_J, c1_J, cA_J, J_clamp, u2_at, reduceIte]
    rw [if_pos (by omega)]
  | succ n ih =>
    intro c m h0 h1 h
    have k1 : FrR (fun k => k = 213 ∨ k = 214 ∨ k = 215 ∨ k = 216) noI m (up2 (up2 (up2 (up2 m.1 213 c.toNat (m.1 181 c.toNat)) 214 c.toNat (m.1 182 c.toNat)) 215 c.toNat (m.1 183 c.toNat)) 216 c.toNat (m.1 184 c.toNat), m.2) := ⟨fun k hk h7 => by simp (disch := omega) only [u2_ne], fun i hi => by simp (disch := omega) only [u2_ne], rfl⟩
    obtain ⟨m', q1, q2, q3⟩ := ih (c + 1) (up2 (up2 (up2 (up2 m.1 213 c.toNat (m.1 181 c.toNat)) 214 c.toNat (m.1 182 c.toNat)) 215 c.toNat (m.1 183 c.toNat)) 216 c.toNat (m.1 184 c.toNat), m.2) (by omega) (by omega) (fun i z0 z1 => by
      show (up2 (up2 (up2 (up2 m.1 213 c.toNat (m.1 181 c.toNat)) 214 c.toNat (m.1 182 c.toNat)) 215 c.toNat (m.1 183 c.toNat)) 216 c.toNat (m.1 184 c.toNat)) 213 i.toNat = (up2 (up2 (up2 (up2 m.1 213 c.toNat (m.1 181 c.toNat)) 214 c.toNat (m.1 182 c.toNat)) 215 c.toNat (m.1 183 c.toNat)) 216 c.toNat (m.1 184 c.toNat)) 181 i.toNat ∧ (up2 (up2 (up2 (up2 m.1 213 c.toNat (m.1 181 c.toNat)) 214 c.toNat (m.1 182 c.toNat)) 215 c.toNat (m.1 183 c.toNat)) 216 c.toNat (m.1 184 c.toNat)) 214 i.toNat = (up2 (up2 (up2 (up2 m.1 213 c.toNat (m.1 181 c.toNat)) 214 c.toNat (m.1 182 c.toNat)) 215 c.toNat (m.1 183 c.toNat)) 216 c.toNat (m.1 184 c.toNat)) 182 i.toNat ∧ (up2 (up2 (up2 (up2 m.1 213 c.toNat (m.1 181 c.toNat)) 214 c.toNat (m.1 182 c.toNat)) 215 c.toNat (m.1 183 c.toNat)) 216 c.toNat (m.1 184 c.toNat)) 215 i.toNat = (up2 (up2 (up2 (up2 m.1 213 c.toNat (m.1 181 c.toNat)) 214 c.toNat (m.1 182 c.toNat)) 215 c.toNat (m.1 183 c.toNat)) 216 c.toNat (m.1 184 c.toNat)) 183 i.toNat ∧ (up2 (up2 (up2 (up2 m.1 213 c.toNat (m.1 181 c.toNat)) 214 c.toNat (m.1 182 c.toNat)) 215 c.toNat (m.1 183 c.toNat)) 216 c.toNat (m.1 184 c.toNat)) 216 i.toNat = (up2 (up2 (up2 (up2 m.1 213 c.toNat (m.1 181 c.toNat)) 214 c.toNat (m.1 182 c.toNat)) 215 c.toNat (m.1 183 c.toNat)) 216 c.toNat (m.1 184 c.toNat)) 184 i.toNat
      simp (disch := omega) only [u2_ne, u2_at]
      by_cases e : i.toNat = c.toNat
      · simp [e]
      · simp only [if_neg e]
        exact h i z0 (by omega))
    refine ⟨m', ?_, q2, k1.tr q3⟩
    rw [T_186_71]
    simp (disch := omega) only [kk, lits, q0_J, q1_J, q2_J, cI_J, cT_J, cB_J, cZ_J, cS_J, c1_J, cA_J, J_clamp, u2_at, reduceIte, u2_ne]
    rw [if_neg (by omega)]
    exact q1
theorem L_186_133 {cf : Nat → List Value → SM → Rs SM} : ∀ (n : Nat) (c : Int) (m : SM), 0 ≤ c → c + n = 24 → (∀ i : Int, 0 ≤ i → i < c → m.1 217 i.toNat = m.1 185 i.toNat) → ∃ m', rB Q0 186 cf 133 [some (.ref 177), some (.int (J c))] m = rB Q0 186 cf 159 [some (.ref 177), some (.int (J 0))] m' ∧ (∀ i : Int, 0 ≤ i → i < 24 → m'.1 217 i.toNat = m'.1 185 i.toNat) ∧ FrR (fun k => k = 217) noI m m' := by
  intro n
  induction n with
  | zero =>
    intro c m h0 h1 h
    obtain rfl : c = 24 := by omega
    refine ⟨m, ?_, h, FrR.rf⟩
    rw [T_186_133]
    simp (disch := omega) only [kk, lits, q0_J, q1_J, q2_J, cI_J, cT_J, cB_J, cZ_J, cS_J, c1_J, cA_J, J_clamp, u2_at, reduceIte]
    rw [if_pos (by omega)]
  | succ n ih =>
    intro c m h0 h1 h
    have k1 : FrR (fun k => k = 217) noI m (up2 m.1 217 c.toNat (m.1 185 c.toNat), m.2) := ⟨fun k hk h7 => by simp (disch := omega) only [u2_ne], fun i hi => by simp (disch := omega) only [u2_ne], rfl⟩
    obtain ⟨m', q1, q2, q3⟩ := ih (c + 1) (up2 m.1 217 c.toNat (m.1 185 c.toNat), m.2) (by omega) (by omega) (fun i z0 z1 => by
      show (up2 m.1 217 c.toNat (m.1 185 c.toNat)) 217 i.toNat = (up2 m.1 217 c.toNat (m.1 185 c.toNat)) 185 i.toNat
      simp (disch := omega) only [u2_ne, u2_at]
      by_cases e : i.toNat = c.toNat
      · simp [e]
      · simp only [if_neg e]
        exact h i z0 (by omega))
    refine ⟨m', ?_, q2, k1.tr q3⟩
    rw [T_186_133]
    simp (disch := omega) only [kk, lits, q0_J, q1_J, q2_J, cI_J, cT_J, cB_J, cZ_J, cS_J, c1_J, cA_J, J_clamp, u2_at, reduceIte, u2_ne]
    rw [if_neg (by omega)]
    exact q1
theorem L_186_159 {cf : Nat → List Value → SM → Rs SM} : ∀ (n : Nat) (c : Int) (m : SM), 0 ≤ c → c + n = 48 → (∀ i : Int, 0 ≤ i → i < c → m.1 218 i.toNat = m.1 186 i.toNat ∧ m.1 219 i.toNat = m.1 187 i.toNat) → ∃ m', rB Q0 186 cf 159 [some (.ref 177), some (.int (J c))] m = rB Q0 186 cf 197 [some (.ref 177), some (.int (J 0))] m' ∧ (∀ i : Int, 0 ≤ i → i < 48 → m'.1 218 i.toNat = m'.1 186 i.toNat ∧ m'.1 219 i.toNat = m'.1 187 i.toNat) ∧ FrR (fun k => k = 218 ∨ k = 219) noI m m' := by
  intro n
  induction n with
  | zero =>
    intro c m h0 h1 h
    obtain rfl : c = 48 := by omega
    refine ⟨m, ?_, h, FrR.rf⟩
    rw [T_186_159]
    simp (disch := omega) only [kk, lits, q0_J, q1_J, q2_J, cI_J, cT_J, cB_J, cZ_J, cS_J, c1_J, cA_J, J_clamp, u2_at, reduceIte]
    rw [if_pos (by omega)]
  | succ n ih =>
    intro c m h0 h1 h
    have k1 : FrR (fun k => k = 218 ∨ k = 219) noI m (up2 (up2 m.1 218 c.toNat (m.1 186 c.toNat)) 219 c.toNat (m.1 187 c.toNat), m.2) := ⟨fun k hk h7 => by simp (disch := omega) only [u2_ne], fun i hi => by simp (disch := omega) only [u2_ne], rfl⟩
    obtain ⟨m', q1, q2, q3⟩ := ih (c + 1) (up2 (up2 m.1 218 c.toNat (m.1 186 c.toNat)) 219 c.toNat (m.1 187 c.toNat), m.2) (by omega) (by omega) (fun i z0 z1 => by
      show (up2 (up2 m.1 218 c.toNat (m.1 186 c.toNat)) 219 c.toNat (m.1 187 c.toNat)) 218 i.toNat = (up2 (up2 m.1 218 c.toNat (m.1 186 c.toNat)) 219 c.toNat (m.1 187 c.toNat)) 186 i.toNat ∧ (up2 (up2 m.1 218 c.toNat (m.1 186 c.toNat)) 219 c.toNat (m.1 187 c.toNat)) 219 i.toNat = (up2 (up2 m.1 218 c.toNat (m.1 186 c.toNat)) 219 c.toNat (m.1 187 c.toNat)) 187 i.toNat
      simp (disch := omega) only [u2_ne, u2_at]
      by_cases e : i.toNat = c.toNat
      · simp [e]
      · simp only [if_neg e]
        exact h i z0 (by omega))
    refine ⟨m', ?_, q2, k1.tr q3⟩
    rw [T_186_159]
    simp (disch := omega) only [kk, lits, q0_J, q1_J, q2_J, cI_J, cT_J, cB_J, cZ_J, cS_J, c1_J, cA_J, J_clamp, u2_at, reduceIte, u2_ne]
    rw [if_neg (by omega)]
    exact q1
theorem L_186_197 {cf : Nat → List Value → SM → Rs SM} : ∀ (n : Nat) (c : Int) (m : SM), 0 ≤ c → c + n = 5 → (∀ i : Int, 0 ≤ i → i < c → m.1 220 i.toNat = m.1 203 i.toNat ∧ m.1 221 i.toNat = m.1 204 i.toNat ∧ m.1 222 i.toNat = m.1 205 i.toNat) → ∃ m', rB Q0 186 cf 197 [some (.ref 177), some (.int (J c))] m = rB Q0 186 cf 246 [some (.ref 177), some (.int (J 0))] m' ∧ (∀ i : Int, 0 ≤ i → i < 5 → m'.1 220 i.toNat = m'.1 203 i.toNat ∧ m'.1 221 i.toNat = m'.1 204 i.toNat ∧ m'.1 222 i.toNat = m'.1 205 i.toNat) ∧ FrR (fun k => k = 220 ∨ k = 221 ∨ k = 222) noI m m' := by
  intro n
  induction n with
  | zero =>
    intro c m h0 h1 h
    obtain rfl : c = 5 := by omega
    refine ⟨m, ?_, h, FrR.rf⟩
    rw [T_186_197]
    simp (disch := omega) only [kk, lits, q0_J, q1_J, q2_J, cI_J, cT_J, cB_J, cZ_J, cS_J, c1_J, cA_J, J_clamp, u2_at, reduceIte]
    rw [if_pos (by omega)]
  | succ n ih =>
    intro c m h0 h1 h
    have k1 : FrR (fun k => k = 220 ∨ k = 221 ∨ k = 222) noI m (up2 (up2 (up2 m.1 220 c.toNat (m.1 203 c.toNat)) 221 c.toNat (m.1 204 c.toNat)) 222 c.toNat (m.1 205 c.toNat), m.2) := ⟨fun k hk h7 => by simp (disch := omega) only [u2_ne], fun i hi => by simp (disch := omega) only [u2_ne], rfl⟩
    obtain ⟨m', q1, q2, q3⟩ := ih (c + 1) (up2 (up2 (up2 m.1 220 c.toNat (m.1 203 c.toNat)) 221 c.toNat (m.1 204 c.toNat)) 222 c.toNat (m.1 205 c.toNat), m.2) (by omega) (by omega) (fun i z0 z1 => by
      show (up2 (up2 (up2 m.1 220 c.toNat (m.1 203 c.toNat)) 221 c.toNat (m.1 204 c.toNat)) 222 c.toNat (m.1 205 c.toNat)) 220 i.toNat = (up2 (up2 (up2 m.1 220 c.toNat (m.1 203 c.toNat)) 221 c.toNat (m.1 204 c.toNat)) 222 c.toNat (m.1 205 c.toNat)) 203 i.toNat ∧ (up2 (up2 (up2 m.1 220 c.toNat (m.1 203 c.toNat)) 221 c.toNat (m.1 204 c.toNat)) 222 c.toNat (m.1 205 c.toNat)) 221 i.toNat = (up2 (up2 (up2 m.1 220 c.toNat (m.1 203 c.toNat)) 221 c.toNat (m.1 204 c.toNat)) 222 c.toNat (m.1 205 c.toNat)) 204 i.toNat ∧ (up2 (up2 (up2 m.1 220 c.toNat (m.1 203 c.toNat)) 221 c.toNat (m.1 204 c.toNat)) 222 c.toNat (m.1 205 c.toNat)) 222 i.toNat = (up2 (up2 (up2 m.1 220 c.toNat (m.1 203 c.toNat)) 221 c.toNat (m.1 204 c.toNat)) 222 c.toNat (m.1 205 c.toNat)) 205 i.toNat
      simp (disch := omega) only [u2_ne, u2_at]
      by_cases e : i.toNat = c.toNat
      · simp [e]
      · simp only [if_neg e]
        exact h i z0 (by omega))
    refine ⟨m', ?_, q2, k1.tr q3⟩
    rw [T_186_197]
    simp (disch := omega) only [kk, lits, q0_J, q1_J, q2_J, cI_J, cT_J, cB_J, cZ_J, cS_J, c1_J, cA_J, J_clamp, u2_at, reduceIte, u2_ne]
    rw [if_neg (by omega)]
    exact q1
theorem L_186_246 {cf : Nat → List Value → SM → Rs SM} : ∀ (n : Nat) (c : Int) (m : SM), 0 ≤ c → c + n = 10 → (∀ i : Int, 0 ≤ i → i < c → m.1 223 i.toNat = m.1 206 i.toNat ∧ m.1 224 i.toNat = m.1 207 i.toNat) → ∃ m', rB Q0 186 cf 246 [some (.ref 177), some (.int (J c))] m = rB Q0 186 cf 284 [some (.ref 177), some (.int (J 0))] m' ∧ (∀ i : Int, 0 ≤ i → i < 10 → m'.1 223 i.toNat = m'.1 206 i.toNat ∧ m'.1 224 i.toNat = m'.1 207 i.toNat) ∧ FrR (fun k => k = 223 ∨ k = 224) noI m m' := by
  intro n
  induction n with
  | zero =>
    intro c m h0 h1 h
    obtain rfl : c = 10 := by omega
    refine ⟨m, ?_, h, FrR.rf⟩
    rw [T_186_246]
    simp (disch := omega) only [kk, lits, q0_J, q1_J, q2_J, cI_J, cT_J, cB_J, cZ_J, cS_J, c1_J, cA_J, J_clamp, u2_at, reduceIte]
    rw [if_pos (by omega)]
  | succ n ih =>
    intro c m h0 h1 h
    have k1 : FrR (fun k => k = 223 ∨ k = 224) noI m (up2 (up2 m.1 223 c.toNat (m.1 206 c.toNat)) 224 c.toNat (m.1 207 c.toNat), m.2) := ⟨fun k hk h7 => by simp (disch := omega) only [u2_ne], fun i hi => by simp (disch := omega) only [u2_ne], rfl⟩
    obtain ⟨m', q1, q2, q3⟩ := ih (c + 1) (up2 (up2 m.1 223 c.toNat (m.1 206 c.toNat)) 224 c.toNat (m.1 207 c.toNat), m.2) (by omega) (by omega) (fun i z0 z1 => by
      show (up2 (up2 m.1 223 c.toNat (m.1 206 c.toNat)) 224 c.toNat (m.1 207 c.toNat)) 223 i.toNat = (up2 (up2 m.1 223 c.toNat (m.1 206 c.toNat)) 224 c.toNat (m.1 207 c.toNat)) 206 i.toNat ∧ (up2 (up2 m.1 223 c.toNat (m.1 206 c.toNat)) 224 c.toNat (m.1 207 c.toNat)) 224 i.toNat = (up2 (up2 m.1 223 c.toNat (m.1 206 c.toNat)) 224 c.toNat (m.1 207 c.toNat)) 207 i.toNat
      simp (disch := omega) only [u2_ne, u2_at]
      by_cases e : i.toNat = c.toNat
      · simp [e]
      · simp only [if_neg e]
        exact h i z0 (by omega))
    refine ⟨m', ?_, q2, k1.tr q3⟩
    rw [T_186_246]
    simp (disch := omega) only [kk, lits, q0_J, q1_J, q2_J, cI_J, cT_J, cB_J, cZ_J, cS_J, c1_J, cA_J, J_clamp, u2_at, reduceIte, u2_ne]
    rw [if_neg (by omega)]
    exact q1
theorem L_186_284 {cf : Nat → List Value → SM → Rs SM} : ∀ (n : Nat) (c : Int) (m : SM), 0 ≤ c → c + n = 8 → (∀ i : Int, 0 ≤ i → i < c → m.1 210 i.toNat = m.1 178 i.toNat ∧ m.1 211 i.toNat = m.1 179 i.toNat ∧ m.1 212 i.toNat = m.1 180 i.toNat ∧ m.1 225 i.toNat = m.1 208 i.toNat ∧ m.1 226 i.toNat = m.1 209 i.toNat) → ∃ m', rB Q0 186 cf 284 [some (.ref 177), some (.int (J c))] m = some (some (.int (m'.1 177 0)), m') ∧ (∀ i : Int, 0 ≤ i → i < 8 → m'.1 210 i.toNat = m'.1 178 i.toNat ∧ m'.1 211 i.toNat = m'.1 179 i.toNat ∧ m'.1 212 i.toNat = m'.1 180 i.toNat ∧ m'.1 225 i.toNat = m'.1 208 i.toNat ∧ m'.1 226 i.toNat = m'.1 209 i.toNat) ∧ FrR (fun k => k = 210 ∨ k = 211 ∨ k = 212 ∨ k = 225 ∨ k = 226) noI m m' := by
  intro n
  induction n with
  | zero =>
    intro c m h0 h1 h
    obtain rfl : c = 8 := by omega
    refine ⟨m, ?_, h, FrR.rf⟩
    rw [T_186_284]
    simp (disch := omega) only [kk, lits, q0_J, q1_J, q2_J, cI_J, cT_J, cB_J, cZ_J, cS_J, c1_J, cA_J, J_clamp, u2_at, reduceIte]
    rw [if_pos (by omega)]
  | succ n ih =>
    intro c m h0 h1 h
    have k1 : FrR (fun k => k = 210 ∨ k = 211 ∨ k = 212 ∨ k = 225 ∨ k = 226) noI m (up2 (up2 (up2 (up2 (up2 m.1 210 c.toNat (m.1 178 c.toNat)) 211 c.toNat (m.1 179 c.toNat)) 212 c.toNat (m.1 180 c.toNat)) 225 c.toNat (m.1 208 c.toNat)) 226 c.toNat (m.1 209 c.toNat), m.2) := ⟨fun k hk h7 => by simp (disch := omega) only [u2_ne], fun i hi => by simp (disch := omega) only [u2_ne], rfl⟩
    obtain ⟨m', q1, q2, q3⟩ := ih (c + 1) (up2 (up2 (up2 (up2 (up2 m.1 210 c.toNat (m.1 178 c.toNat)) 211 c.toNat (m.1 179 c.toNat)) 212 c.toNat (m.1 180 c.toNat)) 225 c.toNat (m.1 208 c.toNat)) 226 c.toNat (m.1 209 c.toNat), m.2) (by omega) (by omega) (fun i z0 z1 => by
      show (up2 (up2 (up2 (up2 (up2 m.1 210 c.toNat (m.1 178 c.toNat)) 211 c.toNat (m.1 179 c.toNat)) 212 c.toNat (m.1 180 c.toNat)) 225 c.toNat (m.1 208 c.toNat)) 226 c.toNat (m.1 209 c.toNat)) 210 i.toNat = (up2 (up2 (up2 (up2 (up2 m.1 210 c.toNat (m.1 178 c.toNat)) 211 c.toNat (m.1 179 c.toNat)) 212 c.toNat (m.1 180 c.toNat)) 225 c.toNat (m.1 208 c.toNat)) 226 c.toNat (m.1 209 c.toNat)) 178 i.toNat ∧ (up2 (up2 (up2 (up2 (up2 m.1 210 c.toNat (m.1 178 c.toNat)) 211 c.toNat (m.1 179 c.toNat)) 212 c.toNat (m.1 180 c.toNat)) 225 c.toNat (m.1 208 c.toNat)) 226 c.toNat (m.1 209 c.toNat)) 211 i.toNat = (up2 (up2 (up2 (up2 (up2 m.1 210 c.toNat (m.1 178 c.toNat)) 211 c.toNat (m.1 179 c.toNat)) 212 c.toNat (m.1 180 c.toNat)) 225 c.toNat (m.1 208 c.toNat)) 226 c.toNat (m.1 209 c.toNat)) 179 i.toNat ∧ (up2 (up2 (up2 (up2 (up2 m.1 210 c.toNat (m.1 178 c.toNat)) 211 c.toNat (m.1 179 c.toNat)) 212 c.toNat (m.1 180 c.toNat)) 225 c.toNat (m.1 208 c.toNat)) 226 c.toNat (m.1 209 c.toNat)) 212 i.toNat = (up2 (up2 (up2 (up2 (up2 m.1 210 c.toNat (m.1 178 c.toNat)) 211 c.toNat (m.1 179 c.toNat)) 212 c.toNat (m.1 180 c.toNat)) 225 c.toNat (m.1 208 c.toNat)) 226 c.toNat (m.1 209 c.toNat)) 180 i.toNat ∧ (up2 (up2 (up2 (up2 (up2 m.1 210 c.toNat (m.1 178 c.toNat)) 211 c.toNat (m.1 179 c.toNat)) 212 c.toNat (m.1 180 c.toNat)) 225 c.toNat (m.1 208 c.toNat)) 226 c.toNat (m.1 209 c.toNat)) 225 i.toNat = (up2 (up2 (up2 (up2 (up2 m.1 210 c.toNat (m.1 178 c.toNat)) 211 c.toNat (m.1 179 c.toNat)) 212 c.toNat (m.1 180 c.toNat)) 225 c.toNat (m.1 208 c.toNat)) 226 c.toNat (m.1 209 c.toNat)) 208 i.toNat ∧ (up2 (up2 (up2 (up2 (up2 m.1 210 c.toNat (m.1 178 c.toNat)) 211 c.toNat (m.1 179 c.toNat)) 212 c.toNat (m.1 180 c.toNat)) 225 c.toNat (m.1 208 c.toNat)) 226 c.toNat (m.1 209 c.toNat)) 226 i.toNat = (up2 (up2 (up2 (up2 (up2 m.1 210 c.toNat (m.1 178 c.toNat)) 211 c.toNat (m.1 179 c.toNat)) 212 c.toNat (m.1 180 c.toNat)) 225 c.toNat (m.1 208 c.toNat)) 226 c.toNat (m.1 209 c.toNat)) 209 i.toNat
      simp (disch := omega) only [u2_ne, u2_at]
      by_cases e : i.toNat = c.toNat
      · simp [e]
      · simp only [if_neg e]
        exact h i z0 (by omega))
    refine ⟨m', ?_, q2, k1.tr q3⟩
    rw [T_186_284]
    simp (disch := omega) only [kk, lits, q0_J, q1_J, q2_J, cI_J, cT_J, cB_J, cZ_J, cS_J, c1_J, cA_J, J_clamp, u2_at, reduceIte, u2_ne]
    rw [if_neg (by omega)]
    exact q1
theorem L_187_76 {cf : Nat → List Value → SM → Rs SM} : ∀ (n : Nat) (c : Int) (m : SM), 0 ≤ c → c + n = 6 → (∀ i : Int, 0 ≤ i → i < c → m.1 181 i.toNat = m.1 213 i.toNat ∧ m.1 182 i.toNat = m.1 214 i.toNat ∧ m.1 183 i.toNat = m.1 215 i.toNat ∧ m.1 184 i.toNat = m.1 216 i.toNat) → ∃ m', rB Q0 187 cf 76 [some (.ref 177), some (.int (J c))] m = rB Q0 187 cf 138 [some (.ref 177), some (.int (J 0))] m' ∧ (∀ i : Int, 0 ≤ i → i < 6 → m'.1 181 i.toNat = m'.1 213 i.toNat ∧ m'.1 182 i.toNat = m'.1 214 i.toNat ∧ m'.1 183 i.toNat = m'.1 215 i.toNat ∧ m'.1 184 i.toNat = m'.1 216 i.toNat) ∧ FrR (fun k => k = 181 ∨ k = 182 ∨ k = 183 ∨ k = 184) noI m m' := by
  intro n
  induction n with
  | zero =>
    intro c m h0 h1 h
    obtain rfl : c = 6 := by omega
    refine ⟨m, ?_, h, FrR.rf⟩
    rw [T_187_76]
    simp (disch := omega) only [kk, lits, q0_J, q1_J, q2_J, cI_J, cT_J, cB_J, cZ_J, cS_J, c1_J, cA_J, J_clamp, u2_at, reduceIte]
    rw [if_pos (by omega)]
  | succ n ih =>
    intro c m h0 h1 h
    have k1 : FrR (fun k => k = 181 ∨ k = 182 ∨ k = 183 ∨ k = 184) noI m (up2 (up2 (up2 (up2 m.1 181 c.toNat (m.1 213 c.toNat)) 182 c.toNat (m.1 214 c.toNat)) 183 c.toNat (m.1 215 c.toNat)) 184 c.toNat (m.1 216 c.toNat), m.2) := ⟨fun k hk h7 => by simp (disch := omega) only [u2_ne], fun i hi => by simp (disch := omega) only [u2_ne], rfl⟩
    obtain ⟨m', q1, q2, q3⟩ := ih (c + 1) (up2 (up2 (up2 (up2 m.1 181 c.toNat (m.1 213 c.toNat)) 182 c.toNat (m.1 214 c.toNat)) 183 c.toNat (m.1 215 c.toNat)) 184 c.toNat (m.1 216 c.toNat), m.2) (by omega) (by omega) (fun i z0 z1 => by
      show (up2 (up2 (up2 (up2 m.1 181 c.toNat (m.1 213 c.toNat)) 182 c.toNat (m.1 214 c.toNat)) 183 c.toNat (m.1 215 c.toNat)) 184 c.toNat (m.1 216 c.toNat)) 181 i.toNat = (up2 (up2 (up2 (up2 m.1 181 c.toNat (m.1 213 c.toNat)) 182 c.toNat (m.1 214 c.toNat)) 183 c.toNat (m.1 215 c.toNat)) 184 c.toNat (m.1 216 c.toNat)) 213 i.toNat ∧ (up2 (up2 (up2 (up2 m.1 181 c.toNat (m.1 213 c.toNat)) 182 c.toNat (m.1 214 c.toNat)) 183 c.toNat (m.1 215 c.toNat)) 184 c.toNat (m.1 216 c.toNat)) 182 i.toNat = (up2 (up2 (up2 (up2 m.1 181 c.toNat (m.1 213 c.toNat)) 182 c.toNat (m.1 214 c.toNat)) 183 c.toNat (m.1 215 c.toNat)) 184 c.toNat (m.1 216 c.toNat)) 214 i.toNat ∧ (up2 (up2 (up2 (up2 m.1 181 c.toNat (m.1 213 c.toNat)) 182 c.toNat (m.1 214 c.toNat)) 183 c.toNat (m.1 215 c.toNat)) 184 c.toNat (m.1 216 c.toNat)) 183 i.toNat = (up2 (up2 (up2 (up2 m.1 181 c.toNat (m.1 213 c.toNat)) 182 c.toNat (m.1 214 c.toNat)) 183 c.toNat (m.1 215 c.toNat)) 184 c.toNat (m.1 216 c.toNat)) 215 i.toNat ∧ (up2 (up2 (up2 (up2 m.1 181 c.toNat (m.1 213 c.toNat)) 182 c.toNat (m.1 214 c.toNat)) 183 c.toNat (m.1 215 c.toNat)) 184 c.toNat (m.1 216 c.toNat)) 184 i.toNat = (up2 (up2 (up2 (up2 m.1 181 c.toNat (m.1 213 c.toNat)) 182 c.toNat (m.1 214 c.toNat)) 183 c.toNat (m.1 215 c.toNat)) 184 c.toNat (m.1 216 c.toNat)) 216 i.toNat
      simp (disch := omega) only [u2_ne, u2_at]
      by_cases e : i.toNat = c.toNat
      · simp [e]
      · simp only [if_neg e]
        exact h i z0 (by omega))
    refine ⟨m', ?_, q2, k1.tr q3⟩
    rw [T_187_76]
    simp (disch := omega) only [kk, lits, q0_J, q1_J, q2_J, cI_J, cT_J, cB_J, cZ_J, cS_J, c1_J, cA_J, J_clamp, u2_at, reduceIte, u2_ne]
    rw [if_neg (by omega)]
    exact q1
theorem L_187_138 {cf : Nat → List Value → SM → Rs SM} : ∀ (n : Nat) (c : Int) (m : SM), 0 ≤ c → c + n = 24 → (∀ i : Int, 0 ≤ i → i < c → m.1 185 i.toNat = m.1 217 i.toNat) → ∃ m', rB Q0 187 cf 138 [some (.ref 177), some (.int (J c))] m = rB Q0 187 cf 164 [some (.ref 177), some (.int (J 0))] m' ∧ (∀ i : Int, 0 ≤ i → i < 24 → m'.1 185 i.toNat = m'.1 217 i.toNat) ∧ FrR (fun k => k = 185) noI m m' := by
  intro n
  induction n with
  | zero =>
    intro c m h0 h1 h
    obtain rfl : c = 24 := by omega
    refine ⟨m, ?_, h, FrR.rf⟩
    rw [T_187_138]
    simp (disch := omega) only [kk, lits, q0_J, q1_J, q2_J, cI_J, cT_J, cB_J, cZ_J, cS_J, c1_J, cA_J, J_clamp, u2_at, reduceIte]
    rw [if_pos (by omega)]
  | succ n ih =>
    intro c m h0 h1 h
    have k1 : FrR (fun k => k = 185) noI m (up2 m.1 185 c.toNat (m.1 217 c.toNat), m.2) := ⟨fun k hk h7 => by simp (disch := omega) only [u2_ne], fun i hi => by simp (disch := omega) only [u2_ne], rfl⟩
    obtain ⟨m', q1, q2, q3⟩ := ih (c + 1) (up2 m.1 185 c.toNat (m.1 217 c.toNat), m.2) (by omega) (by omega) (fun i z0 z1 => by
      show (up2 m.1 185 c.toNat (m.1 217 c.toNat)) 185 i.toNat = (up2 m.1 185 c.toNat (m.1 217 c.toNat)) 217 i.toNat
      simp (disch := omega) only [u2_ne, u2_at]
      by_cases e : i.toNat = c.toNat
      · simp [e]
      · simp only [if_neg e]
        exact h i z0 (by omega))
    refine ⟨m', ?_, q2, k1.tr q3⟩
    rw [T_187_138]
    simp (disch := omega) only [kk, lits, q0_J, q1_J, q2_J, cI_J, cT_J, cB_J, cZ_J, cS_J, c1_J, cA_J, J_clamp, u2_at, reduceIte, u2_ne]
    rw [if_neg (by omega)]
    exact q1
theorem L_187_164 {cf : Nat → List Value → SM → Rs SM} : ∀ (n : Nat) (c : Int) (m : SM), 0 ≤ c → c + n = 48 → (∀ i : Int, 0 ≤ i → i < c → m.1 186 i.toNat = m.1 218 i.toNat ∧ m.1 187 i.toNat = m.1 219 i.toNat) → ∃ m', rB Q0 187 cf 164 [some (.ref 177), some (.int (J c))] m = rB Q0 187 cf 202 [some (.ref 177), some (.int (J 0))] m' ∧ (∀ i : Int, 0 ≤ i → i < 48 → m'.1 186 i.toNat = m'.1 218 i.toNat ∧ m'.1 187 i.toNat = m'.1 219 i.toNat) ∧ FrR (fun k => k = 186 ∨ k = 187) noI m m' := by
  intro n
  induction n with
  | zero =>
    intro c m h0 h1 h
    obtain rfl : c = 48 := by omega
    refine ⟨m, ?_, h, FrR.rf⟩
    rw [T_187_164]
    simp (disch := omega) only [kk, lits, q0_J, q1_J, q2_J, cI_J, cT_J, cB_J, cZ_J, cS_J, c1_J, cA_J, J_clamp, u2_at, reduceIte]
    rw [if_pos (by omega)]
  | succ n ih =>
    intro c m h0 h1 h
    have k1 : FrR (fun k => k = 186 ∨ k = 187) noI m (up2 (up2 m.1 186 c.toNat (m.1 218 c.toNat)) 187 c.toNat (m.1 219 c.toNat), m.2) := ⟨fun k hk h7 => by simp (disch := omega) only [u2_ne], fun i hi => by simp (disch := omega) only [u2_ne], rfl⟩
    obtain ⟨m', q1, q2, q3⟩ := ih (c + 1) (up2 (up2 m.1 186 c.toNat (m.1 218 c.toNat)) 187 c.toNat (m.1 219 c.toNat), m.2) (by omega) (by omega) (fun i z0 z1 => by
      show (up2 (up2 m.1 186 c.toNat (m.1 218 c.toNat)) 187 c.toNat (m.1 219 c.toNat)) 186 i.toNat = (up2 (up2 m.1 186 c.toNat (m.1 218 c.toNat)) 187 c.toNat (m.1 219 c.toNat)) 218 i.toNat ∧ (up2 (up2 m.1 186 c.toNat (m.1 218 c.toNat)) 187 c.toNat (m.1 219 c.toNat)) 187 i.toNat = (up2 (up2 m.1 186 c.toNat (m.1 218 c.toNat)) 187 c.toNat (m.1 219 c.toNat)) 219 i.toNat
      simp (disch := omega) only [u2_ne, u2_at]
      by_cases e : i.toNat = c.toNat
      · simp [e]
      · simp only [if_neg e]
        exact h i z0 (by omega))
    refine ⟨m', ?_, q2, k1.tr q3⟩
    rw [T_187_164]
    simp (disch := omega) only [kk, lits, q0_J, q1_J, q2_J, cI_J, cT_J, cB_J, cZ_J, cS_J, c1_J, cA_J, J_clamp, u2_at, reduceIte, u2_ne]
    rw [if_neg (by omega)]
    exact q1
theorem L_187_202 {cf : Nat → List Value → SM → Rs SM} : ∀ (n : Nat) (c : Int) (m : SM), 0 ≤ c → c + n = 5 → (∀ i : Int, 0 ≤ i → i < c → m.1 203 i.toNat = m.1 220 i.toNat ∧ m.1 204 i.toNat = m.1 221 i.toNat ∧ m.1 205 i.toNat = m.1 222 i.toNat) → ∃ m', rB Q0 187 cf 202 [some (.ref 177), some (.int (J c))] m = rB Q0 187 cf 251 [some (.ref 177), some (.int (J 0))] m' ∧ (∀ i : Int, 0 ≤ i → i < 5 → m'.1 203 i.toNat = m'.1 220 i.toNat ∧ m'.1 204 i.toNat = m'.1 221 i.toNat ∧ m'.1 205 i.toNat = m'.1 222 i.toNat) ∧ FrR (fun k => k = 203 ∨ k = 204 ∨ k = 205) noI m m' := by
  intro n
  induction n with
  | zero =>
    intro c m h0 h1 h
    obtain rfl : c = 5 := by omega
    refine ⟨m, ?_, h, FrR.rf⟩
    rw [T_187_202]
    simp (disch := omega) only [kk, lits, q0_J, q1_J, q2_J, cI_J, cT_J, cB_J, cZ_J, cS_J, c1_J, cA_J, J_clamp, u2_at, reduceIte]
    rw [if_pos (by omega)]
  | succ n ih =>
    intro c m h0 h1 h
    have k1 : FrR (fun k => k = 203 ∨ k = 204 ∨ k = 205) noI m (up2 (up2 (up2 m.1 203 c.toNat (m.1 220 c.toNat)) 204 c.toNat (m.1 221 c.toNat)) 205 c.toNat (m.1 222 c.toNat), m.2) := ⟨fun k hk h7 => by simp (disch := omega) only [u2_ne], fun i hi => by simp (disch := omega) only [u2_ne], rfl⟩
    obtain ⟨m', q1, q2, q3⟩ := ih (c + 1) (up2 (up2 (up2 m.1 203 c.toNat (m.1 220 c.toNat)) 204 c.toNat (m.1 221 c.toNat)) 205 c.toNat (m.1 222 c.toNat), m.2) (by omega) (by omega) (fun i z0 z1 => by
      show (up2 (up2 (up2 m.1 203 c.toNat (m.1 220 c.toNat)) 204 c.toNat (m.1 221 c.toNat)) 205 c.toNat (m.1 222 c.toNat)) 203 i.toNat = (up2 (up2 (up2 m.1 203 c.toNat (m.1 220 c.toNat)) 204 c.toNat (m.1 221 c.toNat)) 205 c.toNat (m.1 222 c.toNat)) 220 i.toNat ∧ (up2 (up2 (up2 m.1 203 c.toNat (m.1 220 c.toNat)) 204 c.toNat (m.1 221 c.toNat)) 205 c.toNat (m.1 222 c.toNat)) 204 i.toNat = (up2 (up2 (up2 m.1 203 c.toNat (m.1 220 c.toNat)) 204 c.toNat (m.1 221 c.toNat)) 205 c.toNat (m.1 222 c.toNat)) 221 i.toNat ∧ (up2 (up2 (up2 m.1 203 c.toNat (m.1 220 c.toNat)) 204 c.toNat (m.1 221 c.toNat)) 205 c.toNat (m.1 222 c.toNat)) 205 i.toNat = (up2 (up2 (up2 m.1 203 c.toNat (m.1 220 c.toNat)) 204 c.toNat (m.1 221 c.toNat)) 205 c.toNat (m.1 222 c.toNat)) 222 i.toNat
      simp (disch := omega) only [u2_ne, u2_at]
      by_cases e : i.toNat = c.toNat
      · simp [e]
      · simp only [if_neg e]
        exact h i z0 (by omega))
    refine ⟨m', ?_, q2, k1.tr q3⟩
    rw [T_187_202]
    simp (disch := omega) only [kk, lits, q0_J, q1_J, q2_J, cI_J, cT_J, cB_J, cZ_J, cS_J, c1_J, cA_J, J_clamp, u2_at, reduceIte, u2_ne]
    rw [if_neg (by omega)]
    exact q1
theorem L_187_251 {cf : Nat → List Value → SM → Rs SM} : ∀ (n : Nat) (c : Int) (m : SM), 0 ≤ c → c + n = 10 → (∀ i : Int, 0 ≤ i → i < c → m.1 206 i.toNat = m.1 223 i.toNat ∧ m.1 207 i.toNat = m.1 224 i.toNat) → ∃ m', rB Q0 187 cf 251 [some (.ref 177), some (.int (J c))] m = rB Q0 187 cf 289 [some (.ref 177), some (.int (J 0))] m' ∧ (∀ i : Int, 0 ≤ i → i < 10 → m'.1 206 i.toNat = m'.1 223 i.toNat ∧ m'.1 207 i.toNat = m'.1 224 i.toNat) ∧ FrR (fun k => k = 206 ∨ k = 207) noI m m' := by
  intro n
  induction n with
  | zero =>
    intro c m h0 h1 h
    obtain rfl : c = 10 := by omega
    refine ⟨m, ?_, h, FrR.rf⟩
    rw [T_187_251]
    simp (disch := omega) only [kk, lits, q0_J, q1_J, q2_J, cI_J, cT_J, cB_J, cZ_J, cS_J, c1_J, cA_J, J_clamp, u2_at, reduceIte]
    rw [if_pos (by omega)]
  | succ n ih =>
    intro c m h0 h1 h
    have k1 : FrR (fun k => k = 206 ∨ k = 207) noI m (up2 (up2 m.1 206 c.toNat (m.1 223 c.toNat)) 207 c.toNat (m.1 224 c.toNat), m.2) := ⟨fun k hk h7 => by simp (disch := omega) only [u2_ne], fun i hi => by simp (disch := omega) only [u2_ne], rfl⟩
    obtain ⟨m', q1, q2, q3⟩ := ih (c + 1) (up2 (up2 m.1 206 c.toNat (m.1 223 c.toNat)) 207 c.toNat (m.1 224 c.toNat), m.2) (by omega) (by omega) (fun i z0 z1 => by
      show (up2 (up2 m.1 206 c.toNat (m.1 223 c.toNat)) 207 c.toNat (m.1 224 c.toNat)) 206 i.toNat = (up2 (up2 m.1 206 c.toNat (m.1 223 c.toNat)) 207 c.toNat (m.1 224 c.toNat)) 223 i.toNat ∧ (up2 (up2 m.1 206 c.toNat (m.1 223 c.toNat)) 207 c.toNat (m.1 224 c.toNat)) 207 i.toNat = (up2 (up2 m.1 206 c.toNat (m.1 223 c.toNat)) 207 c.toNat (m.1 224 c.toNat)) 224 i.toNat
      simp (disch := omega) only [u2_ne, u2_at]
      by_cases e : i.toNat = c.toNat
      · simp [e]
      · simp only [if_neg e]
        exact h i z0 (by omega))
    refine ⟨m', ?_, q2, k1.tr q3⟩
    rw [T_187_251]
    simp (disch := omega) only [kk, lits, q0_J, q1_J, q2_J, cI_J, cT_J, cB_J, cZ_J, cS_J, c1_J, cA_J, J_clamp, u2_at, reduceIte, u2_ne]
    rw [if_neg (by omega)]
    exact q1
theorem L_187_289 {cf : Nat → List Value → SM → Rs SM} : ∀ (n : Nat) (c : Int) (m : SM), 0 ≤ c → c + n = 8 → (∀ i : Int, 0 ≤ i → i < c → m.1 178 i.toNat = m.1 210 i.toNat ∧ m.1 179 i.toNat = m.1 211 i.toNat ∧ m.1 180 i.toNat = m.1 212 i.toNat ∧ m.1 208 i.toNat = m.1 225 i.toNat ∧ m.1 209 i.toNat = m.1 226 i.toNat) → ∃ m', rB Q0 187 cf 289 [some (.ref 177), some (.int (J c))] m = some (some (.int (m'.1 177 0)), m') ∧ (∀ i : Int, 0 ≤ i → i < 8 → m'.1 178 i.toNat = m'.1 210 i.toNat ∧ m'.1 179 i.toNat = m'.1 211 i.toNat ∧ m'.1 180 i.toNat = m'.1 212 i.toNat ∧ m'.1 208 i.toNat = m'.1 225 i.toNat ∧ m'.1 209 i.toNat = m'.1 226 i.toNat) ∧ FrR (fun k => k = 178 ∨ k = 179 ∨ k = 180 ∨ k = 208 ∨ k = 209) noI m m' := by
  intro n
  induction n with
  | zero =>
    intro c m h0 h1 h
    obtain rfl : c = 8 := by omega
    refine ⟨m, ?_, h, FrR.rf⟩
    rw [T_187_289]
    simp (disch := omega) only [kk, lits, q0_J, q1_J, q2_J, cI_J, cT_J, cB_J, cZ_J, cS_J, c1_J, cA_J, J_clamp, u2_at, reduceIte]
    rw [if_pos (by omega)]
  | succ n ih =>
    intro c m h0 h1 h
    have k1 : FrR (fun k => k = 178 ∨ k = 179 ∨ k = 180 ∨ k = 208 ∨ k = 209) noI m (up2 (up2 (up2 (up2 (up2 m.1 178 c.toNat (m.1 210 c.toNat)) 179 c.toNat (m.1 211 c.toNat)) 180 c.toNat (m.1 212 c.toNat)) 208 c.toNat (m.1 225 c.toNat)) 209 c.toNat (m.1 226 c.toNat), m.2) := ⟨fun k hk h7 => by simp (disch := omega) only [u2_ne], fun i hi => by simp (disch := omega) only [u2_ne], rfl⟩
    obtain ⟨m', q1, q2, q3⟩ := ih (c + 1) (up2 (up2 (up2 (up2 (up2 m.1 178 c.toNat (m.1 210 c.toNat)) 179 c.toNat (m.1 211 c.toNat)) 180 c.toNat (m.1 212 c.toNat)) 208 c.toNat (m.1 225 c.toNat)) 209 c.toNat (m.1 226 c.toNat), m.2) (by omega) (by omega) (fun i z0 z1 => by
      show (up2 (up2 (up2 (up2 (up2 m.1 178 c.toNat (m.1 210 c.toNat)) 179 c.toNat (m.1 211 c.toNat)) 180 c.toNat (m.1 212 c.toNat)) 208 c.toNat (m.1 225 c.toNat)) 209 c.toNat (m.1 226 c.toNat)) 178 i.toNat = (up2 (up2 (up2 (up2 (up2 m.1 178 c.toNat (m.1 210 c.toNat)) 179 c.toNat (m.1 211 c.toNat)) 180 c.toNat (m.1 212 c.toNat)) 208 c.toNat (m.1 225 c.toNat)) 209 c.toNat (m.1 226 c.toNat)) 210 i.toNat ∧ (up2 (up2 (up2 (up2 (up2 m.1 178 c.toNat (m.1 210 c.toNat)) 179 c.toNat (m.1 211 c.toNat)) 180 c.toNat (m.1 212 c.toNat)) 208 c.toNat (m.1 225 c.toNat)) 209 c.toNat (m.1 226 c.toNat)) 179 i.toNat = (up2 (up2 (up2 (up2 (up2 m.1 178 c.toNat (m.1 210 c.toNat)) 179 c.toNat (m.1 211 c.toNat)) 180 c.toNat (m.1 212 c.toNat)) 208 c.toNat (m.1 225 c.toNat)) 209 c.toNat (m.1 226 c.toNat)) 211 i.toNat ∧ (up2 (up2 (up2 (up2 (up2 m.1 178 c.toNat (m.1 210 c.toNat)) 179 c.toNat (m.1 211 c.toNat)) 180 c.toNat (m.1 212 c.toNat)) 208 c.toNat (m.1 225 c.toNat)) 209 c.toNat (m.1 226 c.toNat)) 180 i.toNat = (up2 (up2 (up2 (up2 (up2 m.1 178 c.toNat (m.1 210 c.toNat)) 179 c.toNat (m.1 211 c.toNat)) 180 c.toNat (m.1 212 c.toNat)) 208 c.toNat (m.1 225 c.toNat)) 209 c.toNat (m.1 226 c.toNat)) 212 i.toNat ∧ (up2 (up2 (up2 (up2 (up2 m.1 178 c.toNat (m.1 210 c.toNat)) 179 c.toNat (m.1 211 c.toNat)) 180 c.toNat (m.1 212 c.toNat)) 208 c.toNat (m.1 225 c.toNat)) 209 c.toNat (m.1 226 c.toNat)) 208 i.toNat = (up2 (up2 (up2 (up2 (up2 m.1 178 c.toNat (m.1 210 c.toNat)) 179 c.toNat (m.1 211 c.toNat)) 180 c.toNat (m.1 212 c.toNat)) 208 c.toNat (m.1 225 c.toNat)) 209 c.toNat (m.1 226 c.toNat)) 225 i.toNat ∧ (up2 (up2 (up2 (up2 (up2 m.1 178 c.toNat (m.1 210 c.toNat)) 179 c.toNat (m.1 211 c.toNat)) 180 c.toNat (m.1 212 c.toNat)) 208 c.toNat (m.1 225 c.toNat)) 209 c.toNat (m.1 226 c.toNat)) 209 i.toNat = (up2 (up2 (up2 (up2 (up2 m.1 178 c.toNat (m.1 210 c.toNat)) 179 c.toNat (m.1 211 c.toNat)) 180 c.toNat (m.1 212 c.toNat)) 208 c.toNat (m.1 225 c.toNat)) 209 c.toNat (m.1 226 c.toNat)) 226 i.toNat
      simp (disch := omega) only [u2_ne, u2_at]
      by_cases e : i.toNat = c.toNat
      · simp [e]
      · simp only [if_neg e]
        exact h i z0 (by omega))
    refine ⟨m', ?_, q2, k1.tr q3⟩
    rw [T_187_289]
    simp (disch := omega) only [kk, lits, q0_J, q1_J, q2_J, cI_J, cT_J, cB_J, cZ_J, cS_J, c1_J, cA_J, J_clamp, u2_at, reduceIte, u2_ne]
    rw [if_neg (by omega)]
    exact q1
