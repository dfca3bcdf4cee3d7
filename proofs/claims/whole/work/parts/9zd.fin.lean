/-! The law's run, from its entry to its end. -/
theorem wf0 (G : Wd) : WF G (u0 G) := by
  refine ⟨⟨Nat.zero_le _, fun k hk => absurd (show k < 0 from hk) (Nat.not_lt_zero k), fun k i q h e => ?_⟩, fun k h0 h1 => ?_, fun k hk => ?_⟩
  · subst e
    have h : bT (Nat.ble 1000 k) (bT (Nat.beq i 0) (bT (Nat.ble 1010 k && Nat.ble k 1014) (some (k + 10)) none) none) none = some 1999 := h
    cases e1 : Nat.ble 1000 k
    · rw [e1] at h; cases h
    · cases e2 : Nat.beq i 0
      · rw [e1, e2] at h; cases h
      · cases e3 : (Nat.ble 1010 k && Nat.ble k 1014)
        · rw [e1, e2, e3] at h; cases h
        · rw [e1, e2, e3] at h
          rw [Bool.and_eq_true] at e3
          have h4 := Nat.le_of_ble_eq_true e3.2
          have h5 : k + 10 = 1999 := Option.some.inj h
          omega
  · show bT (Nat.ble 1000 k) (roH G k) (.inl 99) = .inl 99
    cases e : Nat.ble 1000 k
    · rfl
    · have := Nat.le_of_ble_eq_true e
      omega
  · have e := Nat.ble_eq_true_of_le hk
    refine ⟨?_, fun j => ?_, ?_⟩
    · show bT (Nat.ble 1000 k) (roH G k) (.inl 99) = roH G k
      rw [e]; rfl
    · show bT (Nat.ble 1000 k) (roI G k j) 0 = roI G k j
      rw [e]; rfl
    · show bT (Nat.ble 1000 k) (bT (Nat.beq 0 0) (roR k) none) none = roR k
      rw [e]; rfl
theorem hr0 {G : Wd} {s : State} (hB : wB G = s.heap.size) : HR G (u0 G) s.heap := by
  refine ⟨by rw [hB]; rfl, wf0 G, fun k q hk => ?_⟩
  have hk : ([] : va_W)[k]? = some q := hk
  simp at hk
theorem run0 (G : Wd) (hL : wL G ≤ 3072) : ∃ rr : Option Value × Mem, rr.1 = some (.int 1) ∧ rr.2.1 = 232 ∧ rr.2.2.1 ≤ 100000 ∧ runF (OA Q0) (callF (OA Q0) prog heds 26) (prog 236) (heds 236) 0 [some (.ref 1000)] (u0 G) = some rr := by
  obtain ⟨m2, u, f2, e2, f4, hI, h2, hg⟩ := start_H G
  have hE := emOK0 (G := G) hI hg
  have h0 : mH u 1000 = .inr (10, wL G) := by
    rw [(hg 1000 (by omega)).1]
    rfl
  have hA : okO (mH u 0) 8 = true := by
    rw [hI.2.2.1 0 (by omega)]
    rfl
  have hB : okO (mH u 177) 9 = true := by
    rw [hI.2.2.1 177 (by omega)]
    rfl
  obtain ⟨mf, hf⟩ := loop (E := (u.1, u.2.1, mH u, mR u)) (L := wL G) (X := mI u 1000) hE h0 hA hB hL 512 0 S0 (mI u, mL u) (by omega) (by omega) (by omega) ⟨relP0, relC0 hI h2 hg, relN0 hI h2⟩ rfl
  refine ⟨(some (.int 1), emb (u.1, u.2.1, mH u, mR u) mf), rfl, hI.1, hI.2.1, ?_⟩
  rw [TL_0]
  have g1 : oN (OA Q0) (u0 G) (.inl 8) 15 = some (0, mNew (u0 G) (.inl 8) 15) := rfl
  have g2 : oN (OA Q0) m2 (.inl 9) 83 = some (177, mNew m2 (.inl 9) 83) := by
    show bT (Nat.ble 1000 m2.1) none (some (m2.1, mNew m2 (.inl 9) 83)) = _
    rw [e2]
    rfl
  have g3 : okO (mH (mNew (u0 G) (.inl 8) 15) 0) 8 = true := rfl
  have g4 : okO (mH (mNew m2 (.inl 9) 83) 177) 9 = true := by
    show okO (upR (mH m2) m2.1 (.inl 9) 177) 9 = true
    rw [e2]
    rfl
  rw [g1]
  show bT (okO (mH (mNew (u0 G) (.inl 8) 15) 0) 8) _ none = _
  rw [bT_t g3, f2]
  show bN (oN (OA Q0) m2 (.inl 9) 83) _ = _
  rw [g2]
  show bT (okO (mH (mNew m2 (.inl 9) 83) 177) 9) _ none = _
  rw [bT_t g4, f4]
  exact hf
