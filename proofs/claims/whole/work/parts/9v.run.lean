/-! the constructors, run by the kernel at depth 26 -/
set_option maxRecDepth 100000 in
theorem start_ok2 : chkR (startN 300 26) = true := by decide +kernel
set_option maxRecDepth 100000 in
theorem start_ok3 : chkS (startN 300 26) = true := by decide +kernel
theorem start_H (G : Wd) : ∃ m2 u : Mem, callF (OA Q0) prog heds 26 49 [.ref 0] (mNew (u0 G) (.inl 8) 15) = some (none, m2) ∧ m2.1 = 177 ∧ callF (OA Q0) prog heds 26 108 [.ref 177] (mNew m2 (.inl 9) 83) = some (none, u) ∧ Ini u ∧ Ini2 u ∧ ∀ k, 1000 ≤ k → mH u k = mH (u0 G) k ∧ mI u k = mI (u0 G) k ∧ mR u k = mR (u0 G) k := start_gen2 G start_ok2 start_ok3
