/-! steps: fields read -/
section
variable {G : Wd} {p : Program} {l : Launch} {e : Env} {R : Room} {s : State} {mth : MethodId} {args : Array Value} {below : List Frame} {meth : Method} {c : Code} {Q : State → Prop} {n0 s0 mi pc : Nat} {cf : Nat → List Value → Mem → Rs Mem} {k : Nat → Lo → List Value → Mem → Rs Mem} {ls : Lo} {st : List Value} {u : Mem} {rr : Option Value × Mem} {nx a b cc0 : Nat} {v : Int32} {sw : List (Int32 × Nat)}
theorem fld_at {x y z t : Nat} (h : fndF x y z t = true) : Cond.fieldLink (clsN x) y (tF z t).1 (tF z t).2.1 (tF z t).2.2.1 ∈ wG ∧ t < nF z := by
  obtain ⟨w, hw⟩ := fndF_spec h
  have h1 := List.all_eq_true.mp kFld_ok _ hw
  rw [Bool.and_eq_true] at h1
  exact ⟨kAt_mem h1.1, Nat.le_of_ble_eq_true h1.2⟩
theorem sfl_at {x y z : Nat} (h : fnd kSfl x y z = true) : Cond.fieldLink (clsN x) y "java/lang/String" (sfW z).1 (sfW z).2 ∈ wG := by
  obtain ⟨w, hw⟩ := fnd_spec h
  exact kAt_mem (List.all_eq_true.mp kSfl_ok _ hw)
theorem so_getfield {xi : Nat} (F : FX G p s mth args c (cM mi) (xM mi) (clsN (oM mi))) (hk : ∀ pc' ls' st' u', k pc' ls' st' u' = some rr → Wst G p l e R s mth args below meth c Q (xM mi) n0 s0 pc' ls' st' u')  (hv : vOK mi pc (.getfield xi, nx, a, b, cc0, v, sw) = true) (hs : stpK (OA Q0) cf k (.getfield xi, nx, a, b, cc0, v, sw) ls st u = some rr) : Wst G p l e R s mth args below meth c Q (xM mi) n0 s0 pc ls st u := by
  obtain ⟨hx, hb, hml, hown, hts, hE⟩ := F
  have hKw := hE.2.2.2.2.2.2.2.2.2.2
  have hv : (dk (cM mi) pc (.getfield xi) 3 nx && ((Nat.ble a 9 && (fndF (oM mi) xi a b && Nat.beq cc0 (bT (isRf (tyF a b)) 1 0))) || (Nat.beq a 10 && (fnd kSfl (oM mi) xi b && ((Nat.beq b 0 && Nat.beq cc0 1) || (Nat.beq b 1 && Nat.beq cc0 0)))))) = true := hv
  rw [Bool.and_eq_true, Bool.or_eq_true] at hv
  obtain ⟨hv, hta⟩ := hv
  obtain ⟨hdec, rfl⟩ := dk_spec hv
  simp only [stpK] at hs
  split at hs
  · rename_i r st2
    obtain ⟨r, rfl⟩ : ∃ z : Nat, z = r := ⟨r, rfl⟩
    obtain ⟨h1, h2⟩ := bT_some hs
    have hsh : mH u r = .inl a := okO_spec h1
    intro H locs lsA hR hS hL h0 h3
    show W p l e R s mth args below meth c H locs (u.1 - n0) (u.2.1 - s0) Q (F0 mth pc lsA (cvv G (.ref r) :: st2.map (cvv G)))
    rcases hta with hta | hta
    · rw [Bool.and_eq_true, Bool.and_eq_true] at hta
      obtain ⟨g1, g2, g3⟩ := hta
      have g1 := Nat.le_of_ble_eq_true g1
      have g3 := Nat.eq_of_beq_eq_true g3
      obtain ⟨hlk, hb2⟩ := fld_at g2
      have hr := hR.2.1.own hsh (by omega)
      rw [cvv_own hR.2.1 hr]
      have ha := pw_get (G := G) hr
      rw [cel_obj hsh] at ha
      refine va_get hx hb hts (lay_in (c := a) (by omega)) hown hKw hR.2.2 r ha (vwCl_get a (by omega)) b hb2 (hts _ hlk) (fun _ h => h) (v := fvl G u a r b) (by simp [hb2]) hdec ?_
      cases hf : isRf (tyF a b) with
      | false =>
        rw [hf] at g3
        have g3 : cc0 = 0 := g3
        subst g3
        have h2 : k (pc + 3) ls (.int (mI u r b) :: st2) u = some rr := h2
        have K : W p l e R s mth args below meth c H locs (u.1 - n0) (u.2.1 - s0) Q (F0 mth (pc + 3) lsA (.int (mI u r b) :: st2.map (cvv G))) := hk _ _ _ _ h2 H locs lsA hR hS hL h0 h3
        unfold fvl
        rw [hf]
        exact K
      | true =>
        rw [hf] at g3
        have g3 : cc0 = 1 := g3
        subst g3
        obtain ⟨q, hq, h2⟩ := bO_some h2
        have hq : mR u r b = some q := hq
        have K : W p l e R s mth args below meth c H locs (u.1 - n0) (u.2.1 - s0) Q (F0 mth (pc + 3) lsA (cvv G (.ref q) :: st2.map (cvv G))) := hk _ _ _ _ h2 H locs lsA hR hS hL h0 h3
        rw [cvv_ne (hR.2.1.1.2.2 _ _ _ hq)] at K
        unfold fvl
        rw [hf, hq]
        exact K
    · rw [Bool.and_eq_true, Bool.and_eq_true, Bool.or_eq_true, Bool.and_eq_true, Bool.and_eq_true] at hta
      obtain ⟨g1, g2, g3⟩ := hta
      have g1 := Nat.eq_of_beq_eq_true g1
      subst g1
      have hlk := sfl_at g2
      have hr : u.1 ≤ r := Nat.le_of_not_lt fun z => by
        have := hR.2.1.1.2.1 r z
        rw [hsh] at this
        exact absurd this (by show ¬ (10 < 10); omega)
      obtain ⟨e1, e2⟩ := hR.2.1.ro0 hsh hr
      rw [cvv_ro (by omega) (by omega)]
      obtain ⟨-, hc1, hv1, -⟩ := hE.2.2.2.2.2.1.1 (r - 1010) (by omega)
      dsimp only at hc1 hv1
      rw [show 10 + (r - 1010) = r - 1000 by omega] at hc1 hv1
      rcases g3 with ⟨z1, z2⟩ | ⟨z1, z2⟩ <;> have z1 := Nat.eq_of_beq_eq_true z1 <;> have z2 := Nat.eq_of_beq_eq_true z2 <;> subst z1 <;> subst z2
      · obtain ⟨q, hq, h2⟩ := bO_some h2
        have hq : mR u r 0 = some q := hq
        have K : W p l e R s mth args below meth c H locs (u.1 - n0) (u.2.1 - s0) Q (F0 mth (pc + 3) lsA (cvv G (.ref q) :: st2.map (cvv G))) := hk _ _ _ _ h2 H locs lsA hR hS hL h0 h3
        rw [(hR.2.1.2.2 r (by omega)).2.2] at hq
        have hrr : roR r = some (r + 10) := by
          show bT (Nat.ble 1010 r && Nat.ble r 1014) (some (r + 10)) none = _
          rw [Nat.ble_eq_true_of_le e1, Nat.ble_eq_true_of_le e2]
          rfl
        rw [hrr] at hq
        cases hq
        rw [cvv_ro (by omega) (by omega)] at K
        rw [show r + 10 - 1000 = 20 + (r - 1010) by omega] at K
        exact vk_getf hx hb hv1 hS hown (hts _ hlk) (fun _ h => h) hdec K
      · have h2 : k (pc + 3) ls (.int (mI u r 1) :: st2) u = some rr := h2
        have K : W p l e R s mth args below meth c H locs (u.1 - n0) (u.2.1 - s0) Q (F0 mth (pc + 3) lsA (.int (mI u r 1) :: st2.map (cvv G))) := hk _ _ _ _ h2 H locs lsA hR hS hL h0 h3
        rw [(hR.2.1.2.2 r (by omega)).2.1 1] at K
        have hrr : roI G r 1 = 0 := by
          show bT (Nat.beq r 1000) _ (bT (Nat.ble r 1004) _ (bT (Nat.ble r 1019) 0 _)) = 0
          have z1 : Nat.beq r 1000 = false := by
            cases z : Nat.beq r 1000 with
            | false => rfl
            | true => have := Nat.eq_of_beq_eq_true z; omega
          have z2 : Nat.ble r 1004 = false := by
            cases z : Nat.ble r 1004 with
            | false => rfl
            | true => have := Nat.le_of_ble_eq_true z; omega
          rw [z1, z2, Nat.ble_eq_true_of_le (show r ≤ 1019 by omega)]
          rfl
        rw [hrr] at K
        exact vk_getf hx hb hc1 hS hown (hts _ hlk) (fun _ h => h) hdec K
  · cases hs
theorem bS_some {M : Type} {r : Sh} {f : Nat → Rs M} {x : Option Value × M} (h : bS r f = some x) : ∃ t n, r = .inr (t, n) ∧ f n = some x := by
  rcases r with c | ⟨t, n⟩
  · cases h
  · exact ⟨t, n, rfl, h⟩
set_option maxRecDepth 20000 in
theorem so_arraylength (F : FX G p s mth args c (cM mi) (xM mi) (clsN (oM mi))) (hk : ∀ pc' ls' st' u', k pc' ls' st' u' = some rr → Wst G p l e R s mth args below meth c Q (xM mi) n0 s0 pc' ls' st' u')  (hv : vOK mi pc (.arraylength, nx, a, b, cc0, v, sw) = true) (hs : stpK (OA Q0) cf k (.arraylength, nx, a, b, cc0, v, sw) ls st u = some rr) : Wst G p l e R s mth args below meth c Q (xM mi) n0 s0 pc ls st u := by
  obtain ⟨hx, hb, hml, hown, hts, hE⟩ := F
  have hKw := hE.2.2.2.2.2.2.2.2.2.2
  obtain ⟨hdec, rfl⟩ := dk_spec hv
  simp only [stpK] at hs
  split at hs
  · rename_i r st2
    obtain ⟨r, rfl⟩ : ∃ z : Nat, z = r := ⟨r, rfl⟩
    obtain ⟨t, n, hsh, h2⟩ := bS_some hs
    have hsh : mH u r = .inr (t, n) := hsh
    intro H locs lsA hR hS hL h0 h3
    have K : W p l e R s mth args below meth c H locs (u.1 - n0) (u.2.1 - s0) Q (F0 mth (pc + 1) lsA (.int (Int32.ofNat n) :: st2.map (cvv G))) := hk _ _ _ _ h2 H locs lsA hR hS hL h0 h3
    show W p l e R s mth args below meth c H locs (u.1 - n0) (u.2.1 - s0) Q (F0 mth pc lsA (cvv G (.ref r) :: st2.map (cvv G)))
    by_cases hr : r < u.1
    · have ht : t < 7 := by
        have := hR.2.1.1.2.1 r hr
        rw [hsh] at this
        exact this
      rw [cvv_own hR.2.1 hr]
      exact va_alen hx hb hKw hR.2.2 r t (by rw [pw_get hr, cel_arr hsh]) (tysW_get ht) rfl hdec K
    · rcases hR.2.1.roA hsh (by omega) with ⟨e1, -, e2⟩ | ⟨e1, e2, -, e3⟩ | ⟨e1, e2, -, e3⟩
      · subst e1
        subst e2
        rw [cvv_ro (by omega) (by omega)]
        have hbA : ¬ inA G (wO G (1000 - 1000)) := fun q => by
          have q : wB G ≤ wO G 0 := q
          have := hE.1.2.1
          omega
        exact va_slen hx hb hE.2.2.2.2.2.2.2.2.2.1 (Nat.lt_of_lt_of_le hE.1.2.1 hE.1.2.2) hbA hS hdec K
      · subst e3
        rw [cvv_ro (by omega) (by omega)]
        obtain ⟨-, hT⟩ := hE.2.1 (r - 1001) (by omega)
        rw [show r - 1001 + 1 = r - 1000 by omega] at hT
        exact va_tlen hx hb hT hS rfl hdec K
      · subst e3
        rw [cvv_ro (by omega) (by omega)]
        obtain ⟨-, -, -, hT⟩ := hE.2.2.2.2.2.1.1 (r - 1020) (by omega)
        dsimp only at hT
        rw [show 20 + (r - 1020) = r - 1000 by omega] at hT
        exact va_tlen hx hb hT hS rfl hdec K
  · cases hs
end
