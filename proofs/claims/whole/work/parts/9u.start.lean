/-! the constructors' runs once more: what else stands when they are through -/
def eqZ (a b : Int64) : Bool := Nat.beq a.toUInt64.toNat b.toUInt64.toNat
theorem eqZ_spec {a b : Int64} (h : eqZ a b = true) : a = b := by
  have h := Nat.eq_of_beq_eq_true h
  have h2 : a.toUInt64 = b.toUInt64 := UInt64.toNat_inj.mp h
  cases a
  cases b
  exact congrArg Int64.ofUInt64 h2
noncomputable def chk2 (u : Mem) : Bool := (List.range 6).all (fun t => eqI 0 (mI u 229 t)) && ((List.range 6).all (fun t => (List.range 60).all fun i => eqZ 0 (mL u (166 + 2 * t) i)) && (List.range 360).all fun i => eqZ 0 (mL u 230 i))
noncomputable def chkS (r : Rs Mem) : Bool := match r with
  | some (_, u) => chk2 u
  | _ => false
def Ini2 (u : Mem) : Prop := (∀ t, t < 6 → mI u 229 t = 0) ∧ (∀ t i, t < 6 → i < 60 → mL u (166 + 2 * t) i = 0) ∧ ∀ i, i < 360 → mL u 230 i = 0
theorem lk0 (G : Wd) : Lk (u0 G) uC (u0 G) := ⟨lw0 G, fun _ _ => ⟨rfl, rfl, rfl⟩⟩
theorem start_gen2 (G : Wd) {n d : Nat} (h : chkR (startN n d) = true) (h' : chkS (startN n d) = true) : ∃ m2 u : Mem, callF (OA Q0) prog heds d 49 [.ref 0] (mNew (u0 G) (.inl 8) 15) = some (none, m2) ∧ m2.1 = 177 ∧ callF (OA Q0) prog heds d 108 [.ref 177] (mNew m2 (.inl 9) 83) = some (none, u) ∧ Ini u ∧ Ini2 u ∧ ∀ k, 1000 ≤ k → mH u k = mH (u0 G) k ∧ mI u k = mI (u0 G) k ∧ mR u k = mR (u0 G) k := by
  obtain ⟨uc, e, h⟩ := chkR_spec h
  rw [e] at h'
  have h2 : chk2 uc = true := h'
  unfold startN at e
  obtain ⟨q1, m1, e1, e⟩ := bN_some e
  obtain ⟨g1, rfl, rfl⟩ := oN_some e1
  obtain ⟨m2, e2, e⟩ := bV_some e
  obtain ⟨q2, m3, e3, e⟩ := bN_some e
  obtain ⟨g2, rfl, rfl⟩ := oN_some e3
  obtain ⟨m4, e4, e⟩ := bV_some e
  have e5 : m2.1 = 177 ∧ m4 = uc := by
    injection e with e
    injection e with e6 e7
    injection e6 with e6
    injection e6 with e6
    exact ⟨e6, e7⟩
  obtain ⟨e5, rfl⟩ := e5
  have L1 : Lk (u0 G) (mNew uC (.inl 8) 15) (mNew (u0 G) (.inl 8) 15) := (lk0 G).new (by show 0 < 1000; omega) _ _
  obtain ⟨n2, f2, L2⟩ := call_lowk n d 49 [.ref 0] _ _ L1 _ _ e2
  obtain ⟨n4, f4, L4⟩ := call_lowk n d 108 [.ref m2.1] _ _ (L2.new g2 (.inl 9) 83) _ _ e4
  rw [e5] at f4
  obtain ⟨L4, L5⟩ := L4
  refine ⟨n2, n4, f2, by rw [← L2.1.1]; exact e5, f4, ?_, ?_, L5⟩
  · unfold chkM at h
    simp only [Bool.and_eq_true] at h
    obtain ⟨h1, h2, h3, h4, h5⟩ := h
    refine ⟨by rw [← L4.1]; exact Nat.eq_of_beq_eq_true h1, by rw [← L4.2.1]; exact Nat.le_of_ble_eq_true h2, fun k hk => ?_, fun k i q hk hi hg => ?_, fun q hq => ?_⟩
    · rw [← (L4.2.2.1 k (by omega)).1]
      exact (eqS_spec (List.all_eq_true.mp h3 k (List.mem_range.mpr hk))).symm
    · rw [← (L4.2.2.1 k (by omega)).2.2.2]
      exact eqR_spec (List.all_eq_true.mp (List.all_eq_true.mp h4 k (List.mem_range.mpr hk)) i (List.mem_range.mpr hi)) hg
    · have hk : q.1 < 1000 := by
        have hb : iniL.all (fun q => Nat.blt q.1 1000) = true := by decide +kernel
        exact Nat.le_of_ble_eq_true (List.all_eq_true.mp hb q hq)
      rw [← (L4.2.2.1 q.1 hk).2.1]
      exact (eqI_spec (List.all_eq_true.mp h5 q hq)).symm
  · unfold chk2 at h2
    simp only [Bool.and_eq_true] at h2
    obtain ⟨h1, h3, h4⟩ := h2
    refine ⟨fun t ht => ?_, fun t i ht hi => ?_, fun i hi => ?_⟩
    · rw [← (L4.2.2.1 229 (by omega)).2.1]
      exact (eqI_spec (List.all_eq_true.mp h1 t (List.mem_range.mpr ht))).symm
    · rw [← (L4.2.2.1 (166 + 2 * t) (by omega)).2.2.1]
      exact (eqZ_spec (List.all_eq_true.mp (List.all_eq_true.mp h3 t (List.mem_range.mpr ht)) i (List.mem_range.mpr hi))).symm
    · rw [← (L4.2.2.1 230 (by omega)).2.2.1]
      exact (eqZ_spec (List.all_eq_true.mp h4 i (List.mem_range.mpr hi))).symm
