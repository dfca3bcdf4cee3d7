/-! the constructors, run by the kernel -/
def uC : Mem := (0, 0, fun _ => .inl 99, fun _ _ => 0, fun _ _ => 0, fun _ _ => none)
def u0 (G : Wd) : Mem := (0, 0, fun k => bT (Nat.ble 1000 k) (roH G k) (.inl 99), fun k i => bT (Nat.ble 1000 k) (roI G k i) 0, fun _ _ => 0, fun k i => bT (Nat.ble 1000 k) (bT (Nat.beq i 0) (roR k) none) none)
noncomputable def startN (n d : Nat) : Rs Mem := bN (oN (OA Q0) uC (.inl 8) 15) fun q1 m1 => bV (callN (OA Q0) prog heds n d 49 [.ref q1] m1) fun m2 => bN (oN (OA Q0) m2 (.inl 9) 83) fun q2 m3 => bV (callN (OA Q0) prog heds n d 108 [.ref q2] m3) fun m4 => some (some (.ref q2), m4)
def eqS (a b : Sh) : Bool := match a, b with
  | .inl x, .inl y => Nat.beq x y
  | .inr (x, y), .inr (z, w) => Nat.beq x z && Nat.beq y w
  | _, _ => false
def eqR (a b : Option Nat) : Bool := match a with
  | none => true
  | some q => match b with
    | some r => Nat.beq q r
    | none => false
def eqI (a b : Int32) : Bool := Nat.beq a.toUInt32.toNat b.toUInt32.toNat
def iniL : List (Nat × Nat × Int32) := [(0, 3, 0), (0, 6, 0), (1, 4, 0), (1, 5, 0), (1, 6, 0), (1, 7, (-1)), (2, 0, 0), (2, 1, 10), (2, 2, 20), (2, 3, 30), (2, 4, 40), (2, 5, 50), (2, 6, 60), (2, 7, 70), (3, 0, 0), (3, 1, 10), (3, 2, 20), (3, 3, 30), (3, 4, 40), (3, 5, 50), (3, 6, 60), (3, 7, 70), (4, 0, 10), (4, 1, 10), (4, 2, 10), (4, 3, 10), (4, 4, 10), (4, 5, 10), (4, 6, 10), (4, 7, 10), (6, 0, 0), (10, 0, 0), (14, 0, 0), (18, 0, 0), (18, 1, 0), (18, 2, 0), (18, 3, 0), (18, 4, 0), (22, 0, 0), (22, 1, 0), (22, 2, 0), (22, 3, 0), (22, 4, 0), (26, 0, 0), (26, 1, 0), (26, 2, 0), (26, 3, 0), (26, 4, 0), (30, 0, 0), (30, 1, 0), (30, 2, 0), (30, 3, 0), (30, 4, 0), (34, 0, 0), (34, 1, 0), (34, 2, 0), (34, 3, 0), (34, 4, 0), (38, 0, 0), (38, 1, 0), (38, 2, 0), (38, 3, 0), (38, 4, 0), (42, 4, 0), (42, 5, 0), (42, 6, 0), (42, 7, (-1)), (43, 0, 0), (43, 1, 10), (43, 2, 20), (43, 3, 30), (43, 4, 40), (43, 5, 50), (43, 6, 60), (43, 7, 70), (44, 0, 0), (44, 1, 10), (44, 2, 20), (44, 3, 30), (44, 4, 40), (44, 5, 50), (44, 6, 60), (44, 7, 70), (45, 0, 10), (45, 1, 10), (45, 2, 10), (45, 3, 10), (45, 4, 10), (45, 5, 10), (45, 6, 10), (45, 7, 10), (47, 0, 0), (51, 0, 0), (55, 0, 0), (59, 0, 0), (59, 1, 0), (59, 2, 0), (59, 3, 0), (59, 4, 0), (63, 0, 0), (63, 1, 0), (63, 2, 0), (63, 3, 0), (63, 4, 0), (67, 0, 0), (67, 1, 0), (67, 2, 0), (67, 3, 0), (67, 4, 0), (71, 0, 0), (71, 1, 0), (71, 2, 0), (71, 3, 0), (71, 4, 0), (75, 0, 0), (75, 1, 0), (75, 2, 0), (75, 3, 0), (75, 4, 0), (79, 0, 0), (79, 1, 0), (79, 2, 0), (79, 3, 0), (79, 4, 0), (83, 4, 0), (83, 5, 0), (83, 6, 0), (83, 7, (-1)), (84, 0, 0), (84, 1, 10), (84, 2, 20), (84, 3, 30), (84, 4, 40), (84, 5, 50), (84, 6, 60), (84, 7, 70), (85, 0, 0), (85, 1, 10), (85, 2, 20), (85, 3, 30), (85, 4, 40), (85, 5, 50), (85, 6, 60), (85, 7, 70), (86, 0, 10), (86, 1, 10), (86, 2, 10), (86, 3, 10), (86, 4, 10), (86, 5, 10), (86, 6, 10), (86, 7, 10), (88, 0, 0), (92, 0, 0), (96, 0, 0), (100, 0, 0), (100, 1, 0), (100, 2, 0), (100, 3, 0), (100, 4, 0), (104, 0, 0), (104, 1, 0), (104, 2, 0), (104, 3, 0), (104, 4, 0), (108, 0, 0), (108, 1, 0), (108, 2, 0), (108, 3, 0), (108, 4, 0), (112, 0, 0), (112, 1, 0), (112, 2, 0), (112, 3, 0), (112, 4, 0), (116, 0, 0), (116, 1, 0), (116, 2, 0), (116, 3, 0), (116, 4, 0), (120, 0, 0), (120, 1, 0), (120, 2, 0), (120, 3, 0), (120, 4, 0), (125, 0, 0), (125, 1, 0), (125, 2, 0), (129, 1, 0), (129, 2, 0), (132, 1, 0), (132, 2, 0), (132, 3, 0), (132, 4, 0), (134, 2, 0), (134, 3, 0), (141, 0, 0), (141, 1, 0), (141, 2, 0), (145, 0, 0), (145, 1, 0), (145, 2, 0), (149, 0, 0), (149, 1, 0), (149, 2, 0), (153, 0, 0), (153, 1, 0), (153, 2, 0), (157, 0, 0), (157, 1, 0), (157, 2, 0), (161, 0, 0), (161, 1, 0), (161, 2, 0), (165, 0, (-1)), (165, 1, 0), (167, 0, (-1)), (167, 1, 0), (169, 0, (-1)), (169, 1, 0), (171, 0, (-1)), (171, 1, 0), (173, 0, (-1)), (173, 1, 0), (175, 0, (-1)), (175, 1, 0), (177, 0, 0), (177, 1, 0), (177, 2, 0), (177, 3, 0), (177, 14, 0), (177, 15, (-1)), (177, 16, 0), (177, 17, 0), (177, 18, 0), (177, 27, 0), (177, 28, 0), (177, 29, 0), (177, 32, 9999), (177, 33, 0), (177, 34, 0), (177, 35, 0), (177, 41, 0), (177, 45, 0), (177, 46, 0), (177, 51, 0), (177, 52, (-1)), (177, 53, 0), (177, 54, 0), (177, 55, 0), (177, 56, 0), (177, 57, 0), (177, 58, 0), (177, 59, 0), (177, 77, 0), (178, 0, 0), (178, 1, 10), (178, 2, 20), (178, 3, 30), (178, 4, 40), (178, 5, 50), (178, 6, 60), (178, 7, 70), (179, 0, 0), (179, 1, 10), (179, 2, 20), (179, 3, 30), (179, 4, 40), (179, 5, 50), (179, 6, 60), (179, 7, 70), (180, 0, 10), (180, 1, 10), (180, 2, 10), (180, 3, 10), (180, 4, 10), (180, 5, 10), (180, 6, 10), (180, 7, 10), (196, 0, 119), (196, 1, 97), (196, 2, 114), (196, 3, 109), (196, 4, 99), (196, 5, 111), (196, 6, 111), (196, 7, 108), (196, 8, 114), (196, 9, 97), (196, 10, 105), (196, 11, 110), (228, 0, (-1)), (228, 1, (-1)), (228, 2, (-1)), (228, 3, (-1)), (228, 4, (-1)), (228, 5, (-1))]
noncomputable def chkM (u : Mem) : Bool := Nat.beq u.1 232 && (Nat.ble u.2.1 100000 && ((List.range 232).all (fun k => eqS (SHt k) (mH u k)) && ((List.range 232).all (fun k => (List.range 100).all fun i => eqR (GRt k i) (mR u k i)) && iniL.all (fun q => eqI q.2.2 (mI u q.1 q.2.1)))))
noncomputable def chkR (r : Rs Mem) : Bool := match r with
  | some (some (.ref q), u) => Nat.beq q 177 && chkM u
  | _ => false
theorem bV_some {M : Type} {r : Rs M} {f : M → Rs M} {x : Option Value × M} (h : bV r f = some x) : ∃ m, r = some (none, m) ∧ f m = some x := by
  rcases r with _ | ⟨o, m⟩
  · cases h
  · cases o with
    | none => exact ⟨m, rfl, h⟩
    | some v => cases h
theorem eqI_spec {a b : Int32} (h : eqI a b = true) : a = b := by
  have h := Nat.eq_of_beq_eq_true h
  have h2 : a.toUInt32 = b.toUInt32 := UInt32.toNat_inj.mp h
  cases a
  cases b
  exact congrArg Int32.ofUInt32 h2
theorem eqS_spec {a b : Sh} (h : eqS a b = true) : a = b := by
  unfold eqS at h
  split at h
  · rw [Nat.eq_of_beq_eq_true h]
  · rw [Bool.and_eq_true] at h
    rw [Nat.eq_of_beq_eq_true h.1, Nat.eq_of_beq_eq_true h.2]
  · cases h
theorem eqR_spec {a b : Option Nat} {q : Nat} (h : eqR a b = true) (ha : a = some q) : b = some q := by
  subst ha
  unfold eqR at h
  split at h
  · rename_i e; cases e
  · rename_i q2 e
    cases e
    split at h
    · rw [Nat.eq_of_beq_eq_true h]
    · cases h
theorem lw0 (G : Wd) : Lw uC (u0 G) := by
  refine ⟨rfl, rfl, fun k hk => ?_, fun k _ => rfl⟩
  have e : Nat.ble 1000 k = false := by
    cases z : Nat.ble 1000 k with
    | false => rfl
    | true => have := Nat.le_of_ble_eq_true z; omega
  refine ⟨?_, ?_, rfl, ?_⟩
  · show _ = bT (Nat.ble 1000 k) (roH G k) (.inl 99)
    rw [e]; rfl
  · funext i
    show _ = bT (Nat.ble 1000 k) (roI G k i) 0
    rw [e]; rfl
  · funext i
    show _ = bT (Nat.ble 1000 k) (bT (Nat.beq i 0) (roR k) none) none
    rw [e]; rfl
/-- the cells when the constructors are through -/
def Ini (u : Mem) : Prop := u.1 = 232 ∧ u.2.1 ≤ 100000 ∧ (∀ k, k < 232 → mH u k = SHt k) ∧ (∀ k i q, k < 232 → i < 100 → GRt k i = some q → mR u k i = some q) ∧ ∀ q ∈ iniL, mI u q.1 q.2.1 = q.2.2
theorem chkR_spec {r : Rs Mem} (h : chkR r = true) : ∃ u, r = some (some (.ref 177), u) ∧ chkM u = true := by
  unfold chkR at h
  split at h
  · rename_i q uc
    rw [Bool.and_eq_true] at h
    have hq := Nat.eq_of_beq_eq_true h.1
    subst hq
    exact ⟨uc, rfl, h.2⟩
  · cases h
theorem start_gen (G : Wd) {n d : Nat} (h : chkR (startN n d) = true) : ∃ m2 u : Mem, callF (OA Q0) prog heds d 49 [.ref 0] (mNew (u0 G) (.inl 8) 15) = some (none, m2) ∧ m2.1 = 177 ∧ callF (OA Q0) prog heds d 108 [.ref 177] (mNew m2 (.inl 9) 83) = some (none, u) ∧ Ini u := by
  obtain ⟨uc, e, h⟩ := chkR_spec h
  · skip
    unfold startN at e
    obtain ⟨q1, m1, e1, e⟩ := bN_some e
    obtain ⟨g1, rfl, rfl⟩ := oN_some e1
    obtain ⟨m2, e2, e⟩ := bV_some e
    obtain ⟨q2, m3, e3, e⟩ := bN_some e
    obtain ⟨g2, rfl, rfl⟩ := oN_some e3
    obtain ⟨m4, e4, e⟩ := bV_some e
    have e5 : m2.1 = 177 ∧ m4 = uc := by
      injection e with e
      injection e with e6 e7
      injection e6 with e6
      injection e6 with e6
      exact ⟨e6, e7⟩
    obtain ⟨e5, rfl⟩ := e5
    have L1 : Lw (mNew uC (.inl 8) 15) (mNew (u0 G) (.inl 8) 15) := (lw0 G).new (by show 0 < 1000; omega) _ _
    obtain ⟨n2, f2, L2⟩ := call_low n d 49 [.ref 0] _ _ L1 _ _ e2
    obtain ⟨n4, f4, L4⟩ := call_low n d 108 [.ref m2.1] _ _ (L2.new g2 (.inl 9) 83) _ _ e4
    rw [e5] at f4
    refine ⟨n2, n4, f2, by rw [← L2.1]; exact e5, f4, ?_⟩
    unfold chkM at h
    simp only [Bool.and_eq_true] at h
    obtain ⟨h1, h2, h3, h4, h5⟩ := h
    refine ⟨by rw [← L4.1]; exact Nat.eq_of_beq_eq_true h1, by rw [← L4.2.1]; exact Nat.le_of_ble_eq_true h2, fun k hk => ?_, fun k i q hk hi hg => ?_, fun q hq => ?_⟩
    · rw [← (L4.2.2.1 k (by omega)).1]
      exact (eqS_spec (List.all_eq_true.mp h3 k (List.mem_range.mpr hk))).symm
    · rw [← (L4.2.2.1 k (by omega)).2.2.2]
      exact eqR_spec (List.all_eq_true.mp (List.all_eq_true.mp h4 k (List.mem_range.mpr hk)) i (List.mem_range.mpr hi)) hg
    · have hk : q.1 < 1000 := by
        have hb : iniL.all (fun q => Nat.blt q.1 1000) = true := by decide +kernel
        exact Nat.le_of_ble_eq_true (List.all_eq_true.mp hb q hq)
      rw [← (L4.2.2.1 q.1 hk).2.1]
      exact (eqI_spec (List.all_eq_true.mp h5 q hq)).symm
set_option maxRecDepth 100000 in
theorem start_ok : chkR (startN 300 10) = true := by decide +kernel
theorem start_G (G : Wd) : ∃ m2 u : Mem, callF (OA Q0) prog heds 10 49 [.ref 0] (mNew (u0 G) (.inl 8) 15) = some (none, m2) ∧ m2.1 = 177 ∧ callF (OA Q0) prog heds 10 108 [.ref 177] (mNew m2 (.inl 9) 83) = some (none, u) ∧ Ini u := start_gen G start_ok
