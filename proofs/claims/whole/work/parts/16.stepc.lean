/-! steps: reads of the memory -/
theorem cvv_own {G : Wd} {u : Mem} (h : WF G u) {r : Nat} (hr : r < u.1) : cvv G (.ref r) = .ref (wB G + r) := by
  have h1 := h.1.1
  have z1 : Nat.beq r 1999 = false := by
    cases z : Nat.beq r 1999 with
    | false => rfl
    | true => have := Nat.eq_of_beq_eq_true z; omega
  have z2 : Nat.ble 1000 r = false := by
    cases z : Nat.ble 1000 r with
    | false => rfl
    | true => have := Nat.le_of_ble_eq_true z; omega
  show bT (Nat.beq r 1999) (wZ G) (.ref (adr G r)) = _
  rw [z1]
  show Value.ref (bT (Nat.ble 1000 r) (wO G (r - 1000)) (wB G + r)) = _
  rw [z2]
  rfl
theorem cvv_ne {G : Wd} {r : Nat} (h : r ≠ 1999) : cvv G (.ref r) = .ref (adr G r) := by
  have z1 : Nat.beq r 1999 = false := by
    cases z : Nat.beq r 1999 with
    | false => rfl
    | true => exact absurd (Nat.eq_of_beq_eq_true z) h
  show bT (Nat.beq r 1999) (wZ G) (.ref (adr G r)) = _
  rw [z1]
  rfl
theorem cvv_ro {G : Wd} {r : Nat} (h : 1000 ≤ r) (h2 : r < 1999) : cvv G (.ref r) = .ref (wO G (r - 1000)) := by
  rw [cvv_ne (by omega)]
  show Value.ref (bT (Nat.ble 1000 r) (wO G (r - 1000)) (wB G + r)) = _
  rw [Nat.ble_eq_true_of_le h]
  rfl
theorem cel_arr {G : Wd} {u : Mem} {r t n : Nat} (h : mH u r = .inr (t, n)) : cel G u r = .inl (wA G t, n, cont G u t r) := by unfold cel; rw [h]
theorem cel_obj {G : Wd} {u : Mem} {r c : Nat} (h : mH u r = .inl c) : cel G u r = .inr (c, (List.range (nF c)).map (fvl G u c r)) := by unfold cel; rw [h]
theorem tysW_get {G : Wd} {t : Nat} (h : t < 7) : (tysW G)[t]? = some (wA G t, tyA t) := by simp [tysW, h]
theorem vwCl_get : ∀ c, c < 10 → vwCl[c]? = some (clsN c, tF c, nF c)
  | 0, _ => rfl
  | 1, _ => rfl
  | 2, _ => rfl
  | 3, _ => rfl
  | 4, _ => rfl
  | 5, _ => rfl
  | 6, _ => rfl
  | 7, _ => rfl
  | 8, _ => rfl
  | 9, _ => rfl
  | n + 10, h => absurd h (by omega)
theorem lay_in {c : Nat} (h : c < 10) : ∀ w ∈ u_ws (clsN c) (tF c) (nF c), w ∈ wG := by
  intro w hw
  have h1 := List.all_eq_true.mp (List.all_eq_true.mp kLay_ok c (List.mem_range.mpr h)) w hw
  rw [Bool.and_eq_true, decide_eq_true_eq] at h1
  exact wG_mem h1.1 h1.2
theorem okO_spec {s : Sh} {c : Nat} (h : okO s c = true) : s = .inl c := by
  cases s with
  | inl d => rw [Nat.eq_of_beq_eq_true h]
  | inr _ => cases h
theorem rng_spec {i : Int32} {n : Nat} (h : Q0.2.1 i n = true) : vp_in i n := by
  have h : (decide (0 ≤ i) && decide (i.toNatClampNeg < n)) = true := h
  rw [Bool.and_eq_true, decide_eq_true_eq, decide_eq_true_eq] at h
  rintro (q | q)
  · exact absurd q (Int32.not_lt.mpr h.1)
  · omega
theorem ok1_spec {t : Nat} {s : Sh} {i : Int32} (h : ok1 Q0 t s i = true) : ∃ n, s = .inr (t, n) ∧ vp_in i n := by
  rcases s with d | ⟨w, n⟩
  · cases h
  · have h : bT (Nat.beq w t) (Q0.2.1 i n) false = true := h
    cases e : Nat.beq w t <;> rw [e] at h
    · cases h
    · exact ⟨n, by rw [Nat.eq_of_beq_eq_true e], rng_spec h⟩
theorem okI_spec {s : Sh} {i : Int32} (h : okI Q0 s i = true) : ∃ t n, s = .inr (t, n) ∧ (t = 0 ∨ t = 10) ∧ vp_in i n := by
  rcases s with d | ⟨w, n⟩
  · cases h
  · have h : bT (Nat.beq w 0) (Q0.2.1 i n) (bT (Nat.beq w 10) (Q0.2.1 i n) false) = true := h
    cases e : Nat.beq w 0 <;> rw [e] at h
    · have h : bT (Nat.beq w 10) (Q0.2.1 i n) false = true := h
      cases e2 : Nat.beq w 10 <;> rw [e2] at h
      · cases h
      · exact ⟨w, n, rfl, Or.inr (Nat.eq_of_beq_eq_true e2), rng_spec h⟩
    · exact ⟨w, n, rfl, Or.inl (Nat.eq_of_beq_eq_true e), rng_spec h⟩
theorem okB_spec {s : Sh} {i : Int32} (h : okB Q0 s i = true) : ∃ t n, s = .inr (t, n) ∧ (t = 1 ∨ t = 3 ∨ t = 11) ∧ vp_in i n := by
  rcases s with d | ⟨w, n⟩
  · cases h
  · have h : bT (Nat.beq w 1) (Q0.2.1 i n) (bT (Nat.beq w 3) (Q0.2.1 i n) (bT (Nat.beq w 11) (Q0.2.1 i n) false)) = true := h
    cases e : Nat.beq w 1 <;> rw [e] at h
    · have h : bT (Nat.beq w 3) (Q0.2.1 i n) (bT (Nat.beq w 11) (Q0.2.1 i n) false) = true := h
      cases e2 : Nat.beq w 3 <;> rw [e2] at h
      · have h : bT (Nat.beq w 11) (Q0.2.1 i n) false = true := h
        cases e3 : Nat.beq w 11 <;> rw [e3] at h
        · cases h
        · exact ⟨w, n, rfl, Or.inr (Or.inr (Nat.eq_of_beq_eq_true e3)), rng_spec h⟩
      · exact ⟨w, n, rfl, Or.inr (Or.inl (Nat.eq_of_beq_eq_true e2)), rng_spec h⟩
    · exact ⟨w, n, rfl, Or.inl (Nat.eq_of_beq_eq_true e), rng_spec h⟩
theorem okA_spec {s : Sh} {i : Int32} (h : okA Q0 s i = true) : ∃ t n, s = .inr (t, n) ∧ (t = 4 ∨ t = 5 ∨ t = 6) ∧ vp_in i n := by
  rcases s with d | ⟨w, n⟩
  · cases h
  · have h : bT (Nat.beq w 4) (Q0.2.1 i n) (bT (Nat.beq w 5) (Q0.2.1 i n) (bT (Nat.beq w 6) (Q0.2.1 i n) false)) = true := h
    cases e : Nat.beq w 4 <;> rw [e] at h
    · have h : bT (Nat.beq w 5) (Q0.2.1 i n) (bT (Nat.beq w 6) (Q0.2.1 i n) false) = true := h
      cases e2 : Nat.beq w 5 <;> rw [e2] at h
      · have h : bT (Nat.beq w 6) (Q0.2.1 i n) false = true := h
        cases e3 : Nat.beq w 6 <;> rw [e3] at h
        · cases h
        · exact ⟨w, n, rfl, Or.inr (Or.inr (Nat.eq_of_beq_eq_true e3)), rng_spec h⟩
      · exact ⟨w, n, rfl, Or.inr (Or.inl (Nat.eq_of_beq_eq_true e2)), rng_spec h⟩
    · exact ⟨w, n, rfl, Or.inl (Nat.eq_of_beq_eq_true e), rng_spec h⟩
theorem bO_some {M : Type} {r : Option Nat} {f : Nat → Rs M} {x : Option Value × M} (h : bO r f = some x) : ∃ q, r = some q ∧ f q = some x := by
  cases r with
  | none => cases h
  | some q => exact ⟨q, rfl, h⟩
section
variable {G : Wd} {p : Program} {l : Launch} {e : Env} {R : Room} {s : State} {mth : MethodId} {args : Array Value} {below : List Frame} {meth : Method} {c : Code} {Q : State → Prop} {n0 s0 mi pc : Nat} {cf : Nat → List Value → Mem → Rs Mem} {k : Nat → Lo → List Value → Mem → Rs Mem} {ls : Lo} {st : List Value} {u : Mem} {rr : Option Value × Mem} {nx a b cc0 : Nat} {v : Int32} {sw : List (Int32 × Nat)}

theorem so_iaload (F : FX G p s mth args c (cM mi) (xM mi) (clsN (oM mi))) (hk : ∀ pc' ls' st' u', k pc' ls' st' u' = some rr → Wst G p l e R s mth args below meth c Q (xM mi) n0 s0 pc' ls' st' u')  (hv : vOK mi pc (.iaload, nx, a, b, cc0, v, sw) = true) (hs : stpK (OA Q0) cf k (.iaload, nx, a, b, cc0, v, sw) ls st u = some rr) : Wst G p l e R s mth args below meth c Q (xM mi) n0 s0 pc ls st u := by
  obtain ⟨hx, hb, hml, hown, hts, hE⟩ := F
  obtain ⟨hdec, rfl⟩ := dk_spec hv
  simp only [stpK] at hs
  split at hs
  · rename_i x r st2
    obtain ⟨r, rfl⟩ : ∃ z : Nat, z = r := ⟨r, rfl⟩
    obtain ⟨h1, h2⟩ := bT_some hs
    obtain ⟨t, n, hsh, ht, hin⟩ := okI_spec h1
    have hsh : mH u r = .inr (t, n) := hsh
    intro H locs lsA hR hS hL h0 h3
    have K : W p l e R s mth args below meth c H locs (u.1 - n0) (u.2.1 - s0) Q (F0 mth (pc + 1) lsA (.int (mI u r x.toNatClampNeg) :: st2.map (cvv G))) := hk _ _ _ _ h2 H locs lsA hR hS hL h0 h3
    show W p l e R s mth args below meth c H locs (u.1 - n0) (u.2.1 - s0) Q (F0 mth pc lsA (.int x :: cvv G (.ref r) :: st2.map (cvv G)))
    have hKw := hE.2.2.2.2.2.2.2.2.2.2
    by_cases hr : r < u.1
    · have ht0 : t = 0 := by
        rcases ht with q | q
        · exact q
        · have := hR.2.1.1.2.1 r hr
          rw [hsh, q] at this
          exact absurd this (by show ¬ (10 < 7); omega)
      subst ht0
      rw [cvv_own hR.2.1 hr]
      exact va_iald hx hb hKw hR.2.2 r 0 (by rw [pw_get hr, cel_arr hsh]; rfl) (tysW_get (by omega)) hin hdec K
    · have ht0 : t = 10 := by
        rcases ht with q | q
        · exact absurd (hR.2.1.ownA hsh (by omega)) hr
        · exact q
      subst ht0
      rcases hR.2.1.ro10 hsh (by omega) with ⟨e1, e2⟩ | ⟨e1, e2, e3⟩
      · subst e1
        subst e2
        rw [cvv_ro (by omega) (by omega)]
        have hbA : ¬ inA G (wO G (1000 - 1000)) := fun q => by
          have q : wB G ≤ wO G 0 := q
          have := hE.1.2.1
          omega
        rw [((hR.2.1.2.2 1000 (by omega)).2.1 x.toNatClampNeg)] at K
        exact va_sld hx hb hE.2.2.2.2.2.2.2.2.2.1 (Nat.lt_of_lt_of_le hE.1.2.1 hE.1.2.2) hbA hS hin hdec K
      · subst e3
        rw [cvv_ro (by omega) (by omega)]
        obtain ⟨-, hT⟩ := hE.2.1 (r - 1001) (by omega)
        rw [show r - 1001 + 1 = r - 1000 by omega] at hT
        rw [((hR.2.1.2.2 r (by omega)).2.1 x.toNatClampNeg)] at K
        refine va_ti hx hb hT hS hin ?_ hdec K
        have z1 : Nat.beq r 1000 = false := by
          cases z : Nat.beq r 1000 with
          | false => rfl
          | true => have := Nat.eq_of_beq_eq_true z; omega
        show Value.int _ = Value.int (bT (Nat.beq r 1000) _ (bT (Nat.ble r 1004) _ _))
        rw [z1, Nat.ble_eq_true_of_le e2]
        rfl
  · cases hs
set_option maxRecDepth 20000 in
theorem so_baload (F : FX G p s mth args c (cM mi) (xM mi) (clsN (oM mi))) (hk : ∀ pc' ls' st' u', k pc' ls' st' u' = some rr → Wst G p l e R s mth args below meth c Q (xM mi) n0 s0 pc' ls' st' u')  (hv : vOK mi pc (.baload, nx, a, b, cc0, v, sw) = true) (hs : stpK (OA Q0) cf k (.baload, nx, a, b, cc0, v, sw) ls st u = some rr) : Wst G p l e R s mth args below meth c Q (xM mi) n0 s0 pc ls st u := by
  obtain ⟨hx, hb, hml, hown, hts, hE⟩ := F
  obtain ⟨hdec, rfl⟩ := dk_spec hv
  simp only [stpK] at hs
  split at hs
  · rename_i x r st2
    obtain ⟨r, rfl⟩ : ∃ z : Nat, z = r := ⟨r, rfl⟩
    obtain ⟨h1, h2⟩ := bT_some hs
    obtain ⟨t, n, hsh, ht, hin⟩ := okB_spec h1
    have hsh : mH u r = .inr (t, n) := hsh
    intro H locs lsA hR hS hL h0 h3
    have K : W p l e R s mth args below meth c H locs (u.1 - n0) (u.2.1 - s0) Q (F0 mth (pc + 1) lsA (.int (mI u r x.toNatClampNeg) :: st2.map (cvv G))) := hk _ _ _ _ h2 H locs lsA hR hS hL h0 h3
    show W p l e R s mth args below meth c H locs (u.1 - n0) (u.2.1 - s0) Q (F0 mth pc lsA (.int x :: cvv G (.ref r) :: st2.map (cvv G)))
    have hKw := hE.2.2.2.2.2.2.2.2.2.2
    by_cases hr : r < u.1
    · have ht0 : t = 1 ∨ t = 3 := by
        rcases ht with q | q | q
        · exact Or.inl q
        · exact Or.inr q
        · have := hR.2.1.1.2.1 r hr
          rw [hsh, q] at this
          exact absurd this (by show ¬ (11 < 7); omega)
      rw [cvv_own hR.2.1 hr]
      rcases ht0 with q | q
      · subst q
        exact va_bald hx hb hKw hR.2.2 r 1 (by rw [pw_get hr, cel_arr hsh]; rfl) (tysW_get (by omega)) hin hdec K
      · subst q
        exact va_zald hx hb hKw hR.2.2 r 3 (by rw [pw_get hr, cel_arr hsh]; rfl) (tysW_get (by omega)) hin hdec K
    · have ht0 : t = 11 := by
        rcases ht with q | q | q
        · exact absurd (hR.2.1.ownA hsh (by omega)) hr
        · exact absurd (hR.2.1.ownA hsh (by omega)) hr
        · exact q
      subst ht0
      obtain ⟨e1, e2, e3⟩ := hR.2.1.ro11 hsh (by omega)
      subst e3
      rw [cvv_ro (by omega) (by omega)]
      obtain ⟨-, -, -, hT⟩ := hE.2.2.2.2.2.1.1 (r - 1020) (by omega)
      dsimp only at hT
      rw [show 20 + (r - 1020) = r - 1000 by omega] at hT
      rw [((hR.2.1.2.2 r (by omega)).2.1 x.toNatClampNeg)] at K
      refine va_tb hx hb hT hS hin ?_ hdec K
      have z1 : Nat.beq r 1000 = false := by
        cases z : Nat.beq r 1000 with
        | false => rfl
        | true => have := Nat.eq_of_beq_eq_true z; omega
      have z2 : Nat.ble r 1004 = false := by
        cases z : Nat.ble r 1004 with
        | false => rfl
        | true => have := Nat.le_of_ble_eq_true z; omega
      have z3 : Nat.ble r 1019 = false := by
        cases z : Nat.ble r 1019 with
        | false => rfl
        | true => have := Nat.le_of_ble_eq_true z; omega
      show Value.int _ = Value.int (bT (Nat.beq r 1000) _ (bT (Nat.ble r 1004) _ (bT (Nat.ble r 1019) _ _)))
      rw [z1, z2, z3]
      rfl
  · cases hs
theorem so_laload (F : FX G p s mth args c (cM mi) (xM mi) (clsN (oM mi))) (hk : ∀ pc' ls' st' u', k pc' ls' st' u' = some rr → Wst G p l e R s mth args below meth c Q (xM mi) n0 s0 pc' ls' st' u')  (hv : vOK mi pc (.laload, nx, a, b, cc0, v, sw) = true) (hs : stpK (OA Q0) cf k (.laload, nx, a, b, cc0, v, sw) ls st u = some rr) : Wst G p l e R s mth args below meth c Q (xM mi) n0 s0 pc ls st u := by
  obtain ⟨hx, hb, hml, hown, hts, hE⟩ := F
  obtain ⟨hdec, rfl⟩ := dk_spec hv
  simp only [stpK] at hs
  split at hs
  · rename_i x r st2
    obtain ⟨r, rfl⟩ : ∃ z : Nat, z = r := ⟨r, rfl⟩
    obtain ⟨h1, h2⟩ := bT_some hs
    obtain ⟨n, hsh, hin⟩ := ok1_spec h1
    intro H locs lsA hR hS hL h0 h3
    have K : W p l e R s mth args below meth c H locs (u.1 - n0) (u.2.1 - s0) Q (F0 mth (pc + 1) lsA (.long (mL u r x.toNatClampNeg) :: st2.map (cvv G))) := hk _ _ _ _ h2 H locs lsA hR hS hL h0 h3
    show W p l e R s mth args below meth c H locs (u.1 - n0) (u.2.1 - s0) Q (F0 mth pc lsA (.int x :: cvv G (.ref r) :: st2.map (cvv G)))
    have hr := hR.2.1.ownA hsh (by omega)
    rw [cvv_own hR.2.1 hr]
    exact va_lald hx hb hE.2.2.2.2.2.2.2.2.2.2 hR.2.2 r 2 (by rw [pw_get hr, cel_arr hsh]; rfl) (tysW_get (by omega)) hin hdec K
  · cases hs
theorem so_aaload (F : FX G p s mth args c (cM mi) (xM mi) (clsN (oM mi))) (hk : ∀ pc' ls' st' u', k pc' ls' st' u' = some rr → Wst G p l e R s mth args below meth c Q (xM mi) n0 s0 pc' ls' st' u')  (hv : vOK mi pc (.aaload, nx, a, b, cc0, v, sw) = true) (hs : stpK (OA Q0) cf k (.aaload, nx, a, b, cc0, v, sw) ls st u = some rr) : Wst G p l e R s mth args below meth c Q (xM mi) n0 s0 pc ls st u := by
  obtain ⟨hx, hb, hml, hown, hts, hE⟩ := F
  obtain ⟨hdec, rfl⟩ := dk_spec hv
  simp only [stpK] at hs
  split at hs
  · rename_i x r st2
    obtain ⟨r, rfl⟩ : ∃ z : Nat, z = r := ⟨r, rfl⟩
    obtain ⟨h1, h2⟩ := bT_some hs
    obtain ⟨t, n, hsh, ht, hin⟩ := okA_spec h1
    have hsh : mH u r = .inr (t, n) := hsh
    obtain ⟨q, hq, h2⟩ := bO_some h2
    have hq : mR u r x.toNatClampNeg = some q := hq
    intro H locs lsA hR hS hL h0 h3
    have K : W p l e R s mth args below meth c H locs (u.1 - n0) (u.2.1 - s0) Q (F0 mth (pc + 1) lsA (cvv G (.ref q) :: st2.map (cvv G))) := hk _ _ _ _ h2 H locs lsA hR hS hL h0 h3
    rw [cvv_ne (hR.2.1.1.2.2 _ _ _ hq)] at K
    show W p l e R s mth args below meth c H locs (u.1 - n0) (u.2.1 - s0) Q (F0 mth pc lsA (.int x :: cvv G (.ref r) :: st2.map (cvv G)))
    have hr := hR.2.1.ownA hsh (by omega)
    rw [cvv_own hR.2.1 hr]
    have hKw := hE.2.2.2.2.2.2.2.2.2.2
    rcases ht with z | z | z <;> subst z
    · refine va_aldq (C := RX1) (f := fun j => (mR u r j).map (adr G)) hx hb hKw hR.2.2 r 4 (by rw [pw_get hr, cel_arr hsh]; rfl) (tysW_get (by omega)) hin hdec ?_
      simp only [hq]
      exact K
    · refine va_aldq (C := RX7) (f := fun j => (mR u r j).map (adr G)) hx hb hKw hR.2.2 r 5 (by rw [pw_get hr, cel_arr hsh]; rfl) (tysW_get (by omega)) hin hdec ?_
      simp only [hq]
      exact K
    · refine va_aldq (C := RX5) (f := fun j => (mR u r j).map (adr G)) hx hb hKw hR.2.2 r 6 (by rw [pw_get hr, cel_arr hsh]; rfl) (tysW_get (by omega)) hin hdec ?_
      simp only [hq]
      exact K
  · cases hs
end
