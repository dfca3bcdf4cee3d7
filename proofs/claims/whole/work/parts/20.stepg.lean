/-! steps: fields written -/
theorem tyF_ok : ∀ {c : Nat}, c < 10 → ∀ k, k < nF c → parseFieldDescriptor (tF c k).2.2.1 = some (tyF c k)
  | 0, _ => tyX0_ok
  | 1, _ => tyX1_ok
  | 2, _ => tyX2_ok
  | 3, _ => tyX3_ok
  | 4, _ => tyX4_ok
  | 5, _ => tyX5_ok
  | 6, _ => tyX6_ok
  | 7, _ => tyX7_ok
  | 8, _ => tyX8_ok
  | 9, _ => tyX9_ok
  | n + 10, h => absurd h (by omega)
theorem tF_nm : ∀ {c : Nat}, c < 10 → ∀ a, a < nF c → ∀ b, b < nF c → a ≠ b → (tF c a).2.1 ≠ (tF c b).2.1
  | 0, _ => by decide +kernel
  | 1, _ => by decide +kernel
  | 2, _ => by decide +kernel
  | 3, _ => by decide +kernel
  | 4, _ => by decide +kernel
  | 5, _ => by decide +kernel
  | 6, _ => by decide +kernel
  | 7, _ => by decide +kernel
  | 8, _ => by decide +kernel
  | 9, _ => by decide +kernel
  | n + 10, h => absurd h (by omega)
