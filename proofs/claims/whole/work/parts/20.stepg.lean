/-! steps: fields written -/
theorem tyF_ok : ∀ {c : Nat}, c < 10 → ∀ k, k < nF c → parseFieldDescriptor (tF c k).2.2.1 = some (tyF c k)
  | 0, _ => tyX0_ok
  | 1, _ => tyX1_ok
  | 2, _ => tyX2_ok
  | 3, _ => tyX3_ok
  | 4, _ => tyX4_ok
  | 5, _ => tyX5_ok
  | 6, _ => tyX6_ok
  | 7, _ => tyX7_ok
  | 8, _ => tyX8_ok
  | 9, _ => tyX9_ok
  | n + 10, h => absurd h (by omega)
