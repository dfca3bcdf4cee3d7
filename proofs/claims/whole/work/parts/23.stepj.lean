/-! calls: static ones, constructors, Math; and the ends -/
section
variable {G : Wd} {p : Program} {l : Launch} {e : Env} {R : Room} {s : State} {mth : MethodId} {args : Array Value} {below : List Frame} {meth : Method} {c : Code} {Q : State → Prop} {n0 s0 mi pc d : Nat} {k : Nat → Lo → List Value → Mem → Rs Mem} {ls : Lo} {st : List Value} {u : Mem} {rr : Option Value × Mem} {nx a b cc0 : Nat} {v : Int32} {sw : List (Int32 × Nat)}
theorem mA_0 (cf : Nat → List Value → Mem → Rs Mem) (x : Int32) (m : Mem) : runF (OA Q0) cf (prog 210) (heds 210) 0 [some (.int x)] m = bT (Q0.1 2 0 x) (some (some (.int x), m)) (some (some (.int (-x)), m)) := (runF_eq _ _ _ _ _ _ _).trans rfl
theorem mA_1 (cf : Nat → List Value → Mem → Rs Mem) (x y : Int32) (m : Mem) : runF (OA Q0) cf (prog 211) (heds 211) 0 [some (.int x), some (.int y)] m = bT (Q0.1 1 x y) (some (some (.int y), m)) (some (some (.int x), m)) := (runF_eq _ _ _ _ _ _ _).trans rfl
theorem mA_2 (cf : Nat → List Value → Mem → Rs Mem) (x y : Int32) (m : Mem) : runF (OA Q0) cf (prog 212) (heds 212) 0 [some (.int x), some (.int y)] m = bT (Q0.1 1 y x) (some (some (.int y), m)) (some (some (.int x), m)) := (runF_eq _ _ _ _ _ _ _).trans rfl
theorem yM210 : yM 210 = Lib.Math.abs.name ∧ yM 211 = Lib.Math.max.name ∧ yM 212 = Lib.Math.min.name := by decide +kernel
theorem cM210 : (cM 210 = Lib.Math.abs.code ∧ xM 210 = 1 ∧ rM 210 = some .int) ∧ (cM 211 = Lib.Math.max.code ∧ xM 211 = 2 ∧ rM 211 = some .int) ∧ (cM 212 = Lib.Math.min.code ∧ xM 212 = 2 ∧ rM 212 = some .int) := by decide +kernel
theorem kMa : has2 kCode 210 = true ∧ has2 kCode 211 = true ∧ has2 kCode 212 = true ∧ has2 kStat 210 = true ∧ has2 kStat 211 = true ∧ has2 kStat 212 = true ∧ has2 kIni 210 = true ∧ has2 kIni 211 = true ∧ has2 kIni 212 = true := by decide +kernel
theorem mB_0 {cf : Nat → List Value → Mem → Rs Mem} {L : Lo} {m : Mem} {r : Option Value × Mem} (h : runF (OA Q0) cf (prog 210) (heds 210) 0 L m = some r) : ∃ x, L[0]? = some (some (.int x)) := by
  rw [runF_eq] at h
  have h : (match (L[0]? : Option (Option Value)) with
    | some (some (.int x)) => blk (OA Q0) cf (prog 210) (heds 210) (runF (OA Q0) cf (prog 210) (heds 210)) 699 1 L [.int x] m
    | _ => none) = some r := h
  split at h
  · rename_i x hx
    exact ⟨x, hx⟩
  · cases h
theorem mB_1 {cf : Nat → List Value → Mem → Rs Mem} {L : Lo} {m : Mem} {r : Option Value × Mem} (h : runF (OA Q0) cf (prog 211) (heds 211) 0 L m = some r) : ∃ x y, L[0]? = some (some (.int x)) ∧ L[1]? = some (some (.int y)) := by
  rw [runF_eq] at h
  have h : (match (L[0]? : Option (Option Value)) with
    | some (some (.int x)) => blk (OA Q0) cf (prog 211) (heds 211) (runF (OA Q0) cf (prog 211) (heds 211)) 699 1 L [.int x] m
    | _ => none) = some r := h
  split at h
  · rename_i x hx
    have h : (match (L[1]? : Option (Option Value)) with
      | some (some (.int y)) => blk (OA Q0) cf (prog 211) (heds 211) (runF (OA Q0) cf (prog 211) (heds 211)) 698 2 L [.int y, .int x] m
      | _ => none) = some r := h
    split at h
    · rename_i y hy
      exact ⟨x, y, hx, hy⟩
    · cases h
  · cases h
theorem mB_2 {cf : Nat → List Value → Mem → Rs Mem} {L : Lo} {m : Mem} {r : Option Value × Mem} (h : runF (OA Q0) cf (prog 212) (heds 212) 0 L m = some r) : ∃ x y, L[0]? = some (some (.int x)) ∧ L[1]? = some (some (.int y)) := by
  rw [runF_eq] at h
  have h : (match (L[0]? : Option (Option Value)) with
    | some (some (.int x)) => blk (OA Q0) cf (prog 212) (heds 212) (runF (OA Q0) cf (prog 212) (heds 212)) 699 1 L [.int x] m
    | _ => none) = some r := h
  split at h
  · rename_i x hx
    have h : (match (L[1]? : Option (Option Value)) with
      | some (some (.int y)) => blk (OA Q0) cf (prog 212) (heds 212) (runF (OA Q0) cf (prog 212) (heds 212)) 698 2 L [.int y, .int x] m
      | _ => none) = some r := h
    split at h
    · rename_i y hy
      exact ⟨x, y, hx, hy⟩
    · cases h
  · cases h
theorem argsL_0 (w : Value) (r : List Value) : (argsL (w :: r))[0]? = some (some w) := by cases w <;> rfl
theorem argsL_1 (x : Int32) (w : Value) (r : List Value) : (argsL (.int x :: w :: r))[1]? = some (some w) := by cases w <;> rfl
theorem so_math {xi : Nat} (hfr : 1 ≤ R.frames) (hlo : 60 ≤ R.locals) (hd0 : (Nat.ble 210 a && Nat.ble a 212) = true) (hmt : fnd kMth (oM mi) xi a = true) (hb4 : b = 4 * (bT (Nat.beq a 210) 1 2) + 1) (hdec : decode (cM mi) pc = .ok (.invokestatic xi, 3)) (F : FX G p s mth args c (cM mi) (xM mi) (clsN (oM mi))) (hk : ∀ pc' ls' st' u', k pc' ls' st' u' = some rr → Wst G p l e R s mth args below meth c Q (xM mi) n0 s0 pc' ls' st' u') (hm : ∀ pc' ls' st' u', k pc' ls' st' u' = some rr → u'.1 ≤ rr.2.1 ∧ u'.2.1 ≤ rr.2.2.1) (hRc : rr.2.1 - n0 ≤ R.cells ∧ rr.2.2.1 - s0 ≤ R.slots) (h9 : room9 (b / 4) (swx sw) st = true) (hs : callK (b % 4) (callF (OA Q0) prog heds d a ((st.take (b / 4)).reverse) u) (fun o m' => k (pc + 3) ls (o ++ st.drop (b / 4)) m') = some rr) : Wst G p l e R s mth args below meth c Q (xM mi) n0 s0 pc ls st u := by
  obtain ⟨hx2, hb, hml, hown, hts, hE⟩ := F
  obtain ⟨h9a, h9b, h9c⟩ := room9_spec h9
  obtain ⟨o, u2, hcf, h2⟩ := callK_some hs
  obtain ⟨d, rfl⟩ : ∃ z, d = z + 1 := by
    cases d with
    | zero => cases hcf
    | succ z => exact ⟨z, rfl⟩
  have hcf : runF (OA Q0) (callF (OA Q0) prog heds d) (prog a) (heds a) 0 (argsL ((st.take (b / 4)).reverse)) u = some (o, u2) := hcf
  have hlk := hts _ (mth_at hmt)
  obtain ⟨k1, k2, k3, k4, k5, k6, k7, k8, k9⟩ := kMa
  obtain ⟨q1, q2, q3⟩ := cM210
  rw [Bool.and_eq_true] at hd0
  have g1 := Nat.le_of_ble_eq_true hd0.1
  have g2 := Nat.le_of_ble_eq_true hd0.2
  have hroom := room8_spec (G := G) hE.cat h9c
  rcases (show a = 210 ∨ a = 211 ∨ a = 212 by omega) with rfl | rfl | rfl
  · have hb1 : b / 4 = 1 := by rw [hb4]; rfl
    rw [hb1] at hcf h9a h2 hroom
    have hstat := hts _ (stat_at k4)
    have hini := hts _ (ini_at k7)
    have hcd := hts _ (code_in k1)
    rw [yM210.1] at hlk hstat hini hcd
    rw [q1.1, q1.2.1, q1.2.2] at hcd
    match st, h9a, hcf, h2, hroom with
    | [], h, _, _, _ => cases h
    | w :: st2, _, hcf, h2, hroom =>
      have hcf : runF (OA Q0) (callF (OA Q0) prog heds d) (prog 210) (heds 210) 0 (argsL [w]) u = some (o, u2) := hcf
      obtain ⟨x, hx⟩ := mB_0 hcf
      rw [argsL_0] at hx
      cases hx
      have hcf : runF (OA Q0) (callF (OA Q0) prog heds d) (prog 210) (heds 210) 0 [some (.int x)] u = some (o, u2) := hcf
      rw [mA_0] at hcf
      have e1 : o = some (.int (if 0 ≤ x then x else 0 - x)) ∧ u2 = u := by
        by_cases hx0 : 0 ≤ x
        · rw [bT_t (show Q0.1 2 0 x = true from decide_eq_true hx0)] at hcf
          cases hcf
          rw [if_pos hx0]
          exact ⟨rfl, rfl⟩
        · rw [bT_f (show Q0.1 2 0 x = false from decide_eq_false hx0)] at hcf
          cases hcf
          rw [if_neg hx0, Int32.zero_sub]
          exact ⟨rfl, rfl⟩
      obtain ⟨rfl, rfl⟩ := e1
      intro H locs lsA hR hS hL h0 h3
      obtain ⟨m1, m2⟩ := hm _ _ _ _ h2
      have K : W p l e R s mth args below meth c H locs (u2.1 - n0) (u2.2.1 - s0) Q (F0 mth (pc + 3) lsA (.int (if 0 ≤ x then x else 0 - x) :: st2.map (cvv G))) := hk _ _ _ _ h2 H locs lsA hR hS hL h0 h3
      exact va_mabs hx2 hb (by rw [hml]; exact hL.1.symm) hown hlk hstat hini hcd hfr (by have : 2 * 0 + ((st2.map (cvv G)).map fun v => v.category).sum ≤ 8 := hroom; omega) (by omega) (by omega) hdec K
  · have hb1 : b / 4 = 2 := by rw [hb4]; rfl
    rw [hb1] at hcf h9a h2 hroom
    have hstat := hts _ (stat_at k5)
    have hini := hts _ (ini_at k8)
    have hcd := hts _ (code_in k2)
    rw [yM210.2.1] at hlk hstat hini hcd
    rw [q2.1, q2.2.1, q2.2.2] at hcd
    match st, h9a, hcf, h2, hroom with
    | [], h, _, _, _ => cases h
    | [_], h, _, _, _ => exact absurd (show 2 ≤ 1 from h) (by decide)
    | w1 :: w :: st2, _, hcf, h2, hroom =>
      have hcf : runF (OA Q0) (callF (OA Q0) prog heds d) (prog 211) (heds 211) 0 (argsL [w, w1]) u = some (o, u2) := hcf
      obtain ⟨x, y, hx, hy⟩ := mB_1 hcf
      rw [argsL_0] at hx
      cases hx
      rw [argsL_1] at hy
      cases hy
      have hcf : runF (OA Q0) (callF (OA Q0) prog heds d) (prog 211) (heds 211) 0 [some (.int x), some (.int y)] u = some (o, u2) := hcf
      rw [mA_1] at hcf
      have e1 : o = some (.int (if x < y then y else x)) ∧ u2 = u := by
        by_cases hx0 : x < y
        · rw [bT_t (show Q0.1 1 x y = true from decide_eq_true hx0)] at hcf
          cases hcf
          rw [if_pos hx0]
          exact ⟨rfl, rfl⟩
        · rw [bT_f (show Q0.1 1 x y = false from decide_eq_false hx0)] at hcf
          cases hcf
          rw [if_neg hx0]
          exact ⟨rfl, rfl⟩
      obtain ⟨rfl, rfl⟩ := e1
      intro H locs lsA hR hS hL h0 h3
      obtain ⟨m1, m2⟩ := hm _ _ _ _ h2
      have K : W p l e R s mth args below meth c H locs (u2.1 - n0) (u2.2.1 - s0) Q (F0 mth (pc + 3) lsA (.int (if x < y then y else x) :: st2.map (cvv G))) := hk _ _ _ _ h2 H locs lsA hR hS hL h0 h3
      exact va_mmax hx2 hb (by rw [hml]; exact hL.1.symm) hown hlk hstat hini hcd hfr (by have : 2 * 0 + ((st2.map (cvv G)).map fun v => v.category).sum ≤ 8 := hroom; omega) (by omega) (by omega) hdec K
  · have hb1 : b / 4 = 2 := by rw [hb4]; rfl
    rw [hb1] at hcf h9a h2 hroom
    have hstat := hts _ (stat_at k6)
    have hini := hts _ (ini_at k9)
    have hcd := hts _ (code_in k3)
    rw [yM210.2.2] at hlk hstat hini hcd
    rw [q3.1, q3.2.1, q3.2.2] at hcd
    match st, h9a, hcf, h2, hroom with
    | [], h, _, _, _ => cases h
    | [_], h, _, _, _ => exact absurd (show 2 ≤ 1 from h) (by decide)
    | w1 :: w :: st2, _, hcf, h2, hroom =>
      have hcf : runF (OA Q0) (callF (OA Q0) prog heds d) (prog 212) (heds 212) 0 (argsL [w, w1]) u = some (o, u2) := hcf
      obtain ⟨x, y, hx, hy⟩ := mB_2 hcf
      rw [argsL_0] at hx
      cases hx
      rw [argsL_1] at hy
      cases hy
      have hcf : runF (OA Q0) (callF (OA Q0) prog heds d) (prog 212) (heds 212) 0 [some (.int x), some (.int y)] u = some (o, u2) := hcf
      rw [mA_2] at hcf
      have e1 : o = some (.int (if y < x then y else x)) ∧ u2 = u := by
        by_cases hx0 : y < x
        · rw [bT_t (show Q0.1 1 y x = true from decide_eq_true hx0)] at hcf
          cases hcf
          rw [if_pos hx0]
          exact ⟨rfl, rfl⟩
        · rw [bT_f (show Q0.1 1 y x = false from decide_eq_false hx0)] at hcf
          cases hcf
          rw [if_neg hx0]
          exact ⟨rfl, rfl⟩
      obtain ⟨rfl, rfl⟩ := e1
      intro H locs lsA hR hS hL h0 h3
      obtain ⟨m1, m2⟩ := hm _ _ _ _ h2
      have K : W p l e R s mth args below meth c H locs (u2.1 - n0) (u2.2.1 - s0) Q (F0 mth (pc + 3) lsA (.int (if y < x then y else x) :: st2.map (cvv G))) := hk _ _ _ _ h2 H locs lsA hR hS hL h0 h3
      exact va_mmin hx2 hb (by rw [hml]; exact hL.1.symm) hown hlk hstat hini hcd hfr (by have : 2 * 0 + ((st2.map (cvv G)).map fun v => v.category).sum ≤ 8 := hroom; omega) (by omega) (by omega) hdec K
theorem so_invokestatic {xi : Nat} (hsn : Snd l G d) (hfr : d + 1 ≤ R.frames) (hlo : 60 * d + 60 ≤ R.locals) (F : FX G p s mth args c (cM mi) (xM mi) (clsN (oM mi))) (hk : ∀ pc' ls' st' u', k pc' ls' st' u' = some rr → Wst G p l e R s mth args below meth c Q (xM mi) n0 s0 pc' ls' st' u') (hm : ∀ pc' ls' st' u', k pc' ls' st' u' = some rr → u'.1 ≤ rr.2.1 ∧ u'.2.1 ≤ rr.2.2.1) (hRc : rr.2.1 - n0 ≤ R.cells ∧ rr.2.2.1 - s0 ≤ R.slots) (hv : vOK mi pc (.invokestatic xi, nx, a, b, 0, v, sw) = true) (hs : stpK (OA Q0) (callF (OA Q0) prog heds d) k (.invokestatic xi, nx, a, b, 0, v, sw) ls st u = some rr) : Wst G p l e R s mth args below meth c Q (xM mi) n0 s0 pc ls st u := by
  have hv : (dk (cM mi) pc (.invokestatic xi) 3 nx && ((calOK a b sw && ((fnd kMth (oM mi) xi a || fnd kNst (oM mi) xi a) && (has2 kStat a && Nat.beq (b / 4) (aM a)))) || (Nat.ble 210 a && (Nat.ble a 212 && (fnd kMth (oM mi) xi a && (Nat.beq (b % 4) 1 && Nat.beq (b / 4) (bT (Nat.beq a 210) 1 2))))))) = true := hv
  simp only [Bool.and_eq_true, Bool.or_eq_true] at hv
  obtain ⟨hd, hv9⟩ := hv
  obtain ⟨hdec, rfl⟩ := dk_spec hd
  simp only [stpK] at hs
  obtain ⟨h9, hs⟩ := bT_some hs
  rcases hv9 with ⟨hcal, hmt, hstat, hb4⟩ | ⟨g1, g2, hmt, g3, g4⟩
  · obtain ⟨hx, hb, hml, hown, hts, hE⟩ := F
    obtain ⟨hcode, hini, hkd, hsx, hnm⟩ := calOK_spec hcal
    have hb4 := Nat.eq_of_beq_eq_true hb4
    obtain ⟨h9a, h9b, h9c⟩ := room9_spec h9
    rw [hsx] at h9b
    generalize has : (st.take (b / 4)).reverse = as at hs h9b
    have hlen : as.length = aM a := by rw [← has, List.length_reverse, List.length_take, hb4]; omega
    obtain ⟨o, u2, hcf, h2⟩ := callK_some hs
    have hM := hsn a _ u (o, u2) hcode hnm h9b hcf
    have hle := callF_le hcf
    obtain ⟨m1, m2⟩ := hm _ _ _ _ h2
    intro H locs lsA hR hS hL h0 h3
    obtain ⟨hy1, hy2⟩ := nm_at hcode
    have hst : st.map (cvv G) = ((as.map (cvv G)).reverse ++ (st.drop (b / 4)).map (cvv G)) := by
      rw [← has, List.map_reverse, List.reverse_reverse, ← List.map_append, List.take_append_drop]
    rw [hst]
    have hf : u.1 - n0 + (u2.1 - u.1) ≤ R.cells ∧ u.2.1 - s0 + (u2.2.1 - u.2.1) ≤ R.slots := by
      have e1 : u.1 ≤ u2.1 := hle.1
      have e2 : u.2.1 ≤ u2.2.1 := hle.2
      omega
    have hrm : 8 + (xM a + 11) + 60 * d ≤ R.locals := by
      have := xM_le hcode
      omega
    have hp : PreS s H (va_Pc (as.map (cvv G)) (fun U => HR G u U.heap ∧ GL G U)) (as.map (cvv G)) := ⟨blind_M, fun U hU hW => ⟨rfl, by rw [hU]; exact hR, hE.next hU hW hS⟩⟩
    have hln : (as.map (cvv G)).length = aM a := by rw [List.length_map, hlen]
    rcases hmt with hmt | hmt
    · exact call_go hk hle h2 hS hL h0 h3 (va_runS (As := as.map (cvv G)) (rest := (st.drop (b / 4)).map (cvv G)) ⟨hx, hb, hml, hown, hts⟩ hM ⟨callB_of (aM a) hts (wsM_good hcode) rfl rfl rfl (hts _ (ini_at hini)) (hts _ (mth_at hmt)) hy2 ⟨hfr, hrm⟩, hts _ (stat_at hstat)⟩ hp rfl hln hL.1 rfl (room8_spec hE.cat h9c) hdec hf)
    · exact call_go hk hle h2 hS hL h0 h3 (va_runSN (As := as.map (cvv G)) (rest := (st.drop (b / 4)).map (cvv G)) ⟨hx, hb, hml, hown, hts⟩ hM ⟨va_cnB (aM a) hts (wsM_good hcode) rfl rfl rfl (nst_at hmt hE) (hts _ (ini_at hini)) hy2 ⟨hfr, hrm⟩, hts _ (stat_at hstat), trivial⟩ hp rfl hln hL.1 rfl (room8_spec hE.cat h9c) hdec hf)
  · have e1 := Nat.eq_of_beq_eq_true g3
    have e2 := Nat.eq_of_beq_eq_true g4
    exact so_math (by omega) (by omega) (by rw [g1, g2]; rfl) hmt (by omega) hdec F hk hm hRc h9 hs
theorem so_invokespecial {xi c1 : Nat} (hc1 : c1 ≠ 0) (hsn : Snd l G d) (hfr : d + 1 ≤ R.frames) (hlo : 60 * d + 60 ≤ R.locals) (F : FX G p s mth args c (cM mi) (xM mi) (clsN (oM mi))) (hk : ∀ pc' ls' st' u', k pc' ls' st' u' = some rr → Wst G p l e R s mth args below meth c Q (xM mi) n0 s0 pc' ls' st' u') (hm : ∀ pc' ls' st' u', k pc' ls' st' u' = some rr → u'.1 ≤ rr.2.1 ∧ u'.2.1 ≤ rr.2.2.1) (hRc : rr.2.1 - n0 ≤ R.cells ∧ rr.2.2.1 - s0 ≤ R.slots) (hv : vOK mi pc (.invokespecial xi, nx, a, b, c1, v, sw) = true) (hs : stpK (OA Q0) (callF (OA Q0) prog heds d) k (.invokespecial xi, nx, a, b, c1, v, sw) ls st u = some rr) : Wst G p l e R s mth args below meth c Q (xM mi) n0 s0 pc ls st u := by
  obtain ⟨c1, rfl⟩ : ∃ z, c1 = z + 1 := ⟨c1 - 1, by omega⟩
  obtain ⟨hx, hb, hml, hown, hts, hE⟩ := F
  have hKw := hE.2.2.2.2.2.2.2.2.2.2
  have hv : (dk (cM mi) pc (.invokespecial xi) 3 nx && (calOK a b sw && ((fnd kMth (oM mi) xi a || fnd kNst (oM mi) xi a) && (has2 kInst a && (decide ((yM a).name = "<init>") && (decide (rM a = none) && (Nat.beq (b / 4) (aM a + 1) && (Nat.beq (c1 + 1) (oM a + 1) && Nat.ble (c1 + 1) 10)))))))) = true := hv
  simp only [Bool.and_eq_true, Bool.or_eq_true, decide_eq_true_eq] at hv
  obtain ⟨hd, hcal, hmt, hin, hini1, hrn, hb4, hcc, hc11⟩ := hv
  obtain ⟨hdec, rfl⟩ := dk_spec hd
  obtain ⟨hcode, hini, hkd, hsx, hnm⟩ := calOK_spec hcal
  have hb4 := Nat.eq_of_beq_eq_true hb4
  have hcc := Nat.eq_of_beq_eq_true hcc
  have hc11 := Nat.le_of_ble_eq_true hc11
  have hcc : c1 = oM a := by omega
  subst hcc
  simp only [stpK] at hs
  obtain ⟨h9, hs⟩ := bT_some hs
  obtain ⟨h9a, h9b, h9c⟩ := room9_spec h9
  rw [hsx] at h9b
  generalize has : (st.take (b / 4)).reverse = as at hs h9b
  have hlen : as.length = aM a + 1 := by rw [← has, List.length_reverse, List.length_take, hb4]; omega
  cases as with
  | nil => cases hlen
  | cons x As =>
    cases x with
    | ref r =>
      obtain ⟨r, rfl⟩ : ∃ z : Nat, z = r := ⟨r, rfl⟩
      obtain ⟨hok, hs⟩ := bT_some (show bT (okO (mH u r) (oM a)) _ none = some rr from hs)
      have hsh := okO_spec hok
      obtain ⟨o, u2, hcf, h2⟩ := callK_some hs
      have hM := hsn a _ u (o, u2) hcode hnm h9b hcf
      have hle := callF_le hcf
      obtain ⟨m1, m2⟩ := hm _ _ _ _ h2
      intro H locs lsA hR hS hL h0 h3
      obtain ⟨hy1, hy2⟩ := nm_at hcode
      have hr := hR.2.1.own hsh (by omega)
      have hb2 := cvv_own hR.2.1 hr
      have hst : st.map (cvv G) = ((As.map (cvv G)).reverse ++ .ref (wB G + r) :: (st.drop (b / 4)).map (cvv G)) := by
        have e0 : st = (Value.ref r :: As).reverse ++ st.drop (b / 4) := by rw [← has, List.reverse_reverse, List.take_append_drop]
        generalize st.drop (b / 4) = D at e0
        rw [e0, List.map_append, List.map_reverse, List.map_cons, List.reverse_cons, List.append_assoc, hb2]
        rfl
      rw [hst]
      have hf : u.1 - n0 + (u2.1 - u.1) ≤ R.cells ∧ u.2.1 - s0 + (u2.2.1 - u.2.1) ≤ R.slots := by
        have e1 : u.1 ≤ u2.1 := hle.1
        have e2 : u.2.1 ≤ u2.2.1 := hle.2
        omega
      have hrm : 8 + (xM a + 11) + 60 * d ≤ R.locals := by
        have := xM_le hcode
        omega
      have hp : PreS s H (va_Pc ((Value.ref r :: As).map (cvv G)) (fun U => HR G u U.heap ∧ GL G U)) (.ref (wB G + r) :: As.map (cvv G)) := ⟨blind_M, fun U hU hW => ⟨by rw [← hb2]; rfl, by rw [hU]; exact hR, hE.next hU hW hS⟩⟩
      have hln : (As.map (cvv G)).length = aM a := by
        rw [List.length_map]
        have : As.length + 1 = aM a + 1 := hlen
        omega
      unfold cMet wsM at hM
      rw [hrn] at hM
      have hcd := code_in hcode
      rw [hrn] at hcd
      have hgood : GoodIn wG (Cond.code (yM a) (cM a) (xM a) none :: wG) := by
        have h9 := wsM_good hcode
        unfold wsM at h9
        rw [hrn] at h9
        exact h9
      rcases hmt with hmt | hmt
      · exact call_go hk hle h2 hS hL h0 h3 (va_runI (As := As.map (cvv G)) (rest := (st.drop (b / 4)).map (cvv G)) ⟨hx, hb, hml, hown, hts⟩ hM ⟨callB_of (aM a) hts hgood rfl rfl rfl (hts _ (ini_at hini)) (hts _ (mth_at hmt)) hy2 ⟨hfr, hrm⟩, hini1, hts _ (inst_at hin)⟩ hp rfl hln hL.1 rfl (room8_spec hE.cat h9c) hdec hf)
      · exact call_go hk hle h2 hS hL h0 h3 (va_runIN (As := As.map (cvv G)) (rest := (st.drop (b / 4)).map (cvv G)) ⟨hx, hb, hml, hown, hts⟩ hM ⟨va_cnB (aM a) hts hgood rfl rfl rfl (nst_at hmt hE) (hts _ (ini_at hini)) hy2 ⟨hfr, hrm⟩, hini1, hts _ (inst_at hin)⟩ hp rfl hln hL.1 rfl (room8_spec hE.cat h9c) hdec hf)
    | _ => cases hs
end
