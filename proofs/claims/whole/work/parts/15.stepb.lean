/-! steps: references in locals, stores, constants -/
section
variable {G : Wd} {p : Program} {l : Launch} {e : Env} {R : Room} {s : State} {mth : MethodId} {args : Array Value} {below : List Frame} {meth : Method} {c : Code} {Q : State → Prop} {n0 s0 mi pc : Nat} {cf : Nat → List Value → Mem → Rs Mem} {k : Nat → Lo → List Value → Mem → Rs Mem} {ls : Lo} {st : List Value} {u : Mem} {rr : Option Value × Mem} {nx a b cc0 : Nat} {v : Int32} {sw : List (Int32 × Nat)}

theorem so_aload (F : FX G p s mth args c (cM mi) (xM mi) (clsN (oM mi))) (hk : ∀ pc' ls' st' u', k pc' ls' st' u' = some rr → Wst G p l e R s mth args below meth c Q (xM mi) n0 s0 pc' ls' st' u') {j : Nat} (hv : vOK mi pc (.aload j, nx, a, b, cc0, v, sw) = true) (hs : stpK (OA Q0) cf k (.aload j, nx, a, b, cc0, v, sw) ls st u = some rr) : Wst G p l e R s mth args below meth c Q (xM mi) n0 s0 pc ls st u := by
  obtain ⟨hx, hb, hml, hown, hts, hE⟩ := F
  simp only [vOK, Bool.and_eq_true] at hv
  obtain ⟨hd, hj⟩ := hv
  obtain ⟨hdec, rfl⟩ := dk_spec hd
  have hj := Nat.eq_of_beq_eq_true hj
  simp only [stpK] at hs
  split at hs
  · rename_i x hx2
    rw [← hj] at hx2
    intro H locs lsA hR hS hL h0 h1
    have K := hk _ _ _ _ hs H locs lsA hR hS hL h0 h1
    have h9 := hL.2.2 _ _ hx2
    have K : W p l e R s mth args below meth c H locs (u.1 - n0) (u.2.1 - s0) Q (F0 mth _ lsA (cvv G (.ref x) :: st.map (cvv G))) := K
    rcases hE.ref x with q | ⟨t, q⟩
    · rw [q] at K h9
      exact lv_aloadN hx hb hdec h9 K
    · rw [q] at K h9
      exact lv_aload hx hb hdec h9 K
  · cases hs
theorem so_aload_n (F : FX G p s mth args c (cM mi) (xM mi) (clsN (oM mi))) (hk : ∀ pc' ls' st' u', k pc' ls' st' u' = some rr → Wst G p l e R s mth args below meth c Q (xM mi) n0 s0 pc' ls' st' u') {j : Fin 4} (hv : vOK mi pc (.aload_n j, nx, a, b, cc0, v, sw) = true) (hs : stpK (OA Q0) cf k (.aload_n j, nx, a, b, cc0, v, sw) ls st u = some rr) : Wst G p l e R s mth args below meth c Q (xM mi) n0 s0 pc ls st u := by
  obtain ⟨hx, hb, hml, hown, hts, hE⟩ := F
  simp only [vOK, Bool.and_eq_true] at hv
  obtain ⟨hd, hj⟩ := hv
  obtain ⟨hdec, rfl⟩ := dk_spec hd
  have hj := Nat.eq_of_beq_eq_true hj
  simp only [stpK] at hs
  split at hs
  · rename_i x hx2
    rw [← hj] at hx2
    intro H locs lsA hR hS hL h0 h1
    have K := hk _ _ _ _ hs H locs lsA hR hS hL h0 h1
    have h9 := hL.2.2 _ _ hx2
    have K : W p l e R s mth args below meth c H locs (u.1 - n0) (u.2.1 - s0) Q (F0 mth _ lsA (cvv G (.ref x) :: st.map (cvv G))) := K
    rcases hE.ref x with q | ⟨t, q⟩
    · rw [q] at K h9
      exact lv_aload_nN hx hb hdec rfl h9 K
    · rw [q] at K h9
      exact lv_aload_n hx hb hdec rfl h9 K
  · cases hs
theorem so_istore (F : FX G p s mth args c (cM mi) (xM mi) (clsN (oM mi))) (hk : ∀ pc' ls' st' u', k pc' ls' st' u' = some rr → Wst G p l e R s mth args below meth c Q (xM mi) n0 s0 pc' ls' st' u') {j : Nat} (hv : vOK mi pc (.istore j, nx, a, b, cc0, v, sw) = true) (hs : stpK (OA Q0) cf k (.istore j, nx, a, b, cc0, v, sw) ls st u = some rr) : Wst G p l e R s mth args below meth c Q (xM mi) n0 s0 pc ls st u := by
  obtain ⟨hx, hb, hml, hown, hts, hE⟩ := F
  simp only [vOK, Bool.and_eq_true] at hv
  obtain ⟨hd, hj, hl⟩ := hv
  obtain ⟨hdec, rfl⟩ := dk_spec hd
  have hj := Nat.eq_of_beq_eq_true hj
  have hl := Nat.le_of_ble_eq_true hl
  rw [← hj] at hl hs
  simp only [stpK] at hs
  split at hs
  · intro H locs lsA hR hS hL h0 h1
    exact lv_istore hx hb hdec hL.has (by omega) rfl (fun ls' h' => hk _ _ _ _ hs H locs ls' hR hS (LR.store hE.cat h') h0 h1)
  · cases hs
theorem so_istore_n (F : FX G p s mth args c (cM mi) (xM mi) (clsN (oM mi))) (hk : ∀ pc' ls' st' u', k pc' ls' st' u' = some rr → Wst G p l e R s mth args below meth c Q (xM mi) n0 s0 pc' ls' st' u') {j : Fin 4} (hv : vOK mi pc (.istore_n j, nx, a, b, cc0, v, sw) = true) (hs : stpK (OA Q0) cf k (.istore_n j, nx, a, b, cc0, v, sw) ls st u = some rr) : Wst G p l e R s mth args below meth c Q (xM mi) n0 s0 pc ls st u := by
  obtain ⟨hx, hb, hml, hown, hts, hE⟩ := F
  simp only [vOK, Bool.and_eq_true] at hv
  obtain ⟨hd, hj, hl⟩ := hv
  obtain ⟨hdec, rfl⟩ := dk_spec hd
  have hj := Nat.eq_of_beq_eq_true hj
  have hl := Nat.le_of_ble_eq_true hl
  rw [← hj] at hl hs
  simp only [stpK] at hs
  split at hs
  · intro H locs lsA hR hS hL h0 h1
    exact lv_istore_n hx hb hdec rfl hL.has (by omega) rfl (fun ls' h' => hk _ _ _ _ hs H locs ls' hR hS (LR.store hE.cat h') h0 h1)
  · cases hs
theorem so_astore (F : FX G p s mth args c (cM mi) (xM mi) (clsN (oM mi))) (hk : ∀ pc' ls' st' u', k pc' ls' st' u' = some rr → Wst G p l e R s mth args below meth c Q (xM mi) n0 s0 pc' ls' st' u') {j : Nat} (hv : vOK mi pc (.astore j, nx, a, b, cc0, v, sw) = true) (hs : stpK (OA Q0) cf k (.astore j, nx, a, b, cc0, v, sw) ls st u = some rr) : Wst G p l e R s mth args below meth c Q (xM mi) n0 s0 pc ls st u := by
  obtain ⟨hx, hb, hml, hown, hts, hE⟩ := F
  simp only [vOK, Bool.and_eq_true] at hv
  obtain ⟨hd, hj, hl⟩ := hv
  obtain ⟨hdec, rfl⟩ := dk_spec hd
  have hj := Nat.eq_of_beq_eq_true hj
  have hl := Nat.le_of_ble_eq_true hl
  rw [← hj] at hl hs
  simp only [stpK] at hs
  split at hs
  · rename_i x st2
    intro H locs lsA hR hS hL h0 h1
    have K : ∀ ls', lv_has ls' (xM mi) ((_, cvv G (.ref x)) :: (asc G ls).filter _) → _ := fun ls' h' => hk _ _ _ _ hs H locs ls' hR hS (LR.store hE.cat h') h0 h1
    show W p l e R s mth args below meth c H locs (u.1 - n0) (u.2.1 - s0) Q (F0 mth pc lsA (cvv G (.ref x) :: st2.map (cvv G)))
    rcases hE.ref x with q | ⟨t, q⟩
    · rw [q] at K ⊢
      exact lv_astoreN hx hb hdec hL.has (by omega) rfl K
    · rw [q] at K ⊢
      exact lv_astore hx hb hdec hL.has (by omega) rfl K
  · cases hs
theorem so_astore_n (F : FX G p s mth args c (cM mi) (xM mi) (clsN (oM mi))) (hk : ∀ pc' ls' st' u', k pc' ls' st' u' = some rr → Wst G p l e R s mth args below meth c Q (xM mi) n0 s0 pc' ls' st' u') {j : Fin 4} (hv : vOK mi pc (.astore_n j, nx, a, b, cc0, v, sw) = true) (hs : stpK (OA Q0) cf k (.astore_n j, nx, a, b, cc0, v, sw) ls st u = some rr) : Wst G p l e R s mth args below meth c Q (xM mi) n0 s0 pc ls st u := by
  obtain ⟨hx, hb, hml, hown, hts, hE⟩ := F
  simp only [vOK, Bool.and_eq_true] at hv
  obtain ⟨hd, hj, hl⟩ := hv
  obtain ⟨hdec, rfl⟩ := dk_spec hd
  have hj := Nat.eq_of_beq_eq_true hj
  have hl := Nat.le_of_ble_eq_true hl
  rw [← hj] at hl hs
  simp only [stpK] at hs
  split at hs
  · rename_i x st2
    intro H locs lsA hR hS hL h0 h1
    have K : ∀ ls', lv_has ls' (xM mi) ((_, cvv G (.ref x)) :: (asc G ls).filter _) → _ := fun ls' h' => hk _ _ _ _ hs H locs ls' hR hS (LR.store hE.cat h') h0 h1
    show W p l e R s mth args below meth c H locs (u.1 - n0) (u.2.1 - s0) Q (F0 mth pc lsA (cvv G (.ref x) :: st2.map (cvv G)))
    rcases hE.ref x with q | ⟨t, q⟩
    · rw [q] at K ⊢
      exact lv_astore_nN hx hb hdec rfl hL.has (by omega) rfl K
    · rw [q] at K ⊢
      exact lv_astore_n hx hb hdec rfl hL.has (by omega) rfl K
  · cases hs
theorem so_iinc (F : FX G p s mth args c (cM mi) (xM mi) (clsN (oM mi))) (hk : ∀ pc' ls' st' u', k pc' ls' st' u' = some rr → Wst G p l e R s mth args below meth c Q (xM mi) n0 s0 pc' ls' st' u') {j : Nat} {n : Int} (hv : vOK mi pc (.iinc j n, nx, a, b, cc0, v, sw) = true) (hs : stpK (OA Q0) cf k (.iinc j n, nx, a, b, cc0, v, sw) ls st u = some rr) : Wst G p l e R s mth args below meth c Q (xM mi) n0 s0 pc ls st u := by
  obtain ⟨hx, hb, hml, hown, hts, hE⟩ := F
  simp only [vOK, Bool.and_eq_true, decide_eq_true_eq] at hv
  obtain ⟨hd, hj, hl, hn⟩ := hv
  obtain ⟨hdec, rfl⟩ := dk_spec hd
  have hj := Nat.eq_of_beq_eq_true hj
  have hl := Nat.le_of_ble_eq_true hl
  rw [← hj] at hl hs
  simp only [stpK] at hs
  split at hs
  · rename_i x hx2
    intro H locs lsA hR hS hL h0 h1
    obtain ⟨q, hq⟩ := List.getElem?_of_mem (asc_mem (G := G) (ls := ls) (q := (j, .int x)) |>.mpr ⟨.int x, hx2, rfl⟩)
    exact lv_iinc hx hb hdec hL.has hq (by rw [hn]) (by omega) rfl (fun ls' h' => hk _ _ _ _ hs H locs ls' hR hS (LR.store (v := .int (x + v)) hE.cat h') h0 h1)
  · cases hs
theorem so_ldc (F : FX G p s mth args c (cM mi) (xM mi) (clsN (oM mi))) (hk : ∀ pc' ls' st' u', k pc' ls' st' u' = some rr → Wst G p l e R s mth args below meth c Q (xM mi) n0 s0 pc' ls' st' u') {j : Nat} (hv : vOK mi pc (.ldc j, nx, a, b, cc0, v, sw) = true) (hs : stpK (OA Q0) cf k (.ldc j, nx, a, b, cc0, v, sw) ls st u = some rr) : Wst G p l e R s mth args below meth c Q (xM mi) n0 s0 pc ls st u := by
  obtain ⟨hx, hb, hml, hown, hts, hE⟩ := F
  simp only [vOK, Bool.and_eq_true] at hv
  obtain ⟨hd, hj⟩ := hv
  obtain ⟨hdec, rfl⟩ := dk_spec hd
  match cc0, hj, hs with
  | 0, hj, hs =>
    obtain ⟨w, hw⟩ := fndI_spec hj
    have h9 := hts _ (kAt_mem (List.all_eq_true.mp kInt_ok _ hw))
    exact Wst.of (fun K => lv_ldc hx hb hown h9 hdec K) (hk _ _ _ _ hs)
  | q + 1, hj, hs =>
    simp only [Bool.and_eq_true] at hj
    obtain ⟨e1, e2, e3, e4⟩ := hj
    have e1 := Nat.eq_of_beq_eq_true e1
    have e2 := Nat.le_of_ble_eq_true e2
    have e3 := Nat.le_of_ble_eq_true e3
    have e4 := Nat.eq_of_beq_eq_true e4
    have h9 := hE.2.2.2.2.1 (a - 1010) (by omega)
    rw [← e4] at h9
    have hcl : clsN (oM mi) = RX6 := by rw [e1]; rfl
    rw [hcl] at hown
    have e5 : cvv G (.ref a) = .ref (wO G (10 + (a - 1010))) := by
      have z1 : Nat.beq a 1999 = false := by
        cases z : Nat.beq a 1999 with
        | false => rfl
        | true => have := Nat.eq_of_beq_eq_true z; omega
      have z2 : Nat.ble 1000 a = true := Nat.ble_eq_true_of_le (by omega)
      show bT (Nat.beq a 1999) (wZ G) (.ref (adr G a)) = _
      rw [z1]
      show Value.ref (bT (Nat.ble 1000 a) (wO G (a - 1000)) (wB G + a)) = _
      rw [z2]
      show Value.ref (wO G (a - 1000)) = _
      rw [show 10 + (a - 1010) = a - 1000 by omega]
    intro H locs lsA hR hS hL h0 h1
    have K : W p l e R s mth args below meth c H locs (u.1 - n0) (u.2.1 - s0) Q (F0 mth (pc + 2) lsA (cvv G (.ref a) :: st.map (cvv G))) := hk _ _ _ _ hs H locs lsA hR hS hL h0 h1
    rw [e5] at K
    exact va_ldcS hx hb hown h9 hdec K
theorem so_ldc_w (F : FX G p s mth args c (cM mi) (xM mi) (clsN (oM mi))) (hk : ∀ pc' ls' st' u', k pc' ls' st' u' = some rr → Wst G p l e R s mth args below meth c Q (xM mi) n0 s0 pc' ls' st' u') {j : Nat} (hv : vOK mi pc (.ldc_w j, nx, a, b, cc0, v, sw) = true) (hs : stpK (OA Q0) cf k (.ldc_w j, nx, a, b, cc0, v, sw) ls st u = some rr) : Wst G p l e R s mth args below meth c Q (xM mi) n0 s0 pc ls st u := by
  obtain ⟨hx, hb, hml, hown, hts, hE⟩ := F
  simp only [vOK, Bool.and_eq_true] at hv
  obtain ⟨hd, hc, hj⟩ := hv
  obtain ⟨hdec, rfl⟩ := dk_spec hd
  have hc := Nat.eq_of_beq_eq_true hc
  subst hc
  obtain ⟨w, hw⟩ := fndI_spec hj
  have h9 := hts _ (kAt_mem (List.all_eq_true.mp kInt_ok _ hw))
  exact Wst.of (fun K => lv_ldcw hx hb hown h9 hdec K) (hk _ _ _ _ hs)
theorem so_ldc2_w (F : FX G p s mth args c (cM mi) (xM mi) (clsN (oM mi))) (hk : ∀ pc' ls' st' u', k pc' ls' st' u' = some rr → Wst G p l e R s mth args below meth c Q (xM mi) n0 s0 pc' ls' st' u') {j : Nat} (hv : vOK mi pc (.ldc2_w j, nx, a, b, cc0, v, sw) = true) (hs : stpK (OA Q0) cf k (.ldc2_w j, nx, a, b, cc0, v, sw) ls st u = some rr) : Wst G p l e R s mth args below meth c Q (xM mi) n0 s0 pc ls st u := by
  obtain ⟨hx, hb, hml, hown, hts, hE⟩ := F
  simp only [vOK, Bool.and_eq_true] at hv
  obtain ⟨hd, hj⟩ := hv
  obtain ⟨hdec, rfl⟩ := dk_spec hd
  obtain ⟨w, hw⟩ := fnd_spec hj
  have h9 := hts _ (kAt_mem (List.all_eq_true.mp kLng_ok _ hw))
  exact Wst.of (fun K => lv_ldc2 hx hb hown h9 hdec K) (hk _ _ _ _ hs)
end
