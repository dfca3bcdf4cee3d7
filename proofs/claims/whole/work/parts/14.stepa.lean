/-! One step of the machine of rows is one of the machine: numbers, locals, jumps. -/
section
variable {G : Wd} {p : Program} {l : Launch} {e : Env} {R : Room} {s : State} {mth : MethodId} {args : Array Value} {below : List Frame} {meth : Method} {c : Code} {Q : State → Prop} {n0 s0 mi pc : Nat} {cf : Nat → List Value → Mem → Rs Mem} {k : Nat → Lo → List Value → Mem → Rs Mem} {ls : Lo} {st : List Value} {u : Mem} {rr : Option Value × Mem} {nx a b cc0 : Nat} {v : Int32} {sw : List (Int32 × Nat)}
theorem bT_some {α : Type} {c : Bool} {x : Option α} {r : α} (h : bT c x none = some r) : c = true ∧ x = some r := by
  cases c with
  | false => cases h
  | true => exact ⟨rfl, h⟩
theorem bT_none {α : Type} {c : Bool} {x : Option α} {r : α} (h : bT c none x = some r) : c = false ∧ x = some r := by
  cases c with
  | true => cases h
  | false => exact ⟨rfl, h⟩
theorem bT_t {α : Type} {c : Bool} {x y : α} (h : c = true) : bT c x y = x := by rw [h]; rfl
theorem bT_f {α : Type} {c : Bool} {x y : α} (h : c = false) : bT c x y = y := by rw [h]; rfl

theorem so_iload (F : FX G p s mth args c (cM mi) (xM mi) (clsN (oM mi))) (hk : ∀ pc' ls' st' u', k pc' ls' st' u' = some rr → Wst G p l e R s mth args below meth c Q (xM mi) n0 s0 pc' ls' st' u') {j : Nat} (hv : vOK mi pc (.iload j, nx, a, b, cc0, v, sw) = true) (hs : stpK (OA Q0) cf k (.iload j, nx, a, b, cc0, v, sw) ls st u = some rr) : Wst G p l e R s mth args below meth c Q (xM mi) n0 s0 pc ls st u := by
  obtain ⟨hx, hb, hml, hown, hts, hE⟩ := F
  simp only [vOK, Bool.and_eq_true] at hv
  obtain ⟨hd, hj⟩ := hv
  obtain ⟨hdec, rfl⟩ := dk_spec hd
  have hj := Nat.eq_of_beq_eq_true hj
  simp only [stpK] at hs
  split at hs
  · rename_i x hx2
    rw [← hj] at hx2
    exact fun H locs lsA hR hS hL h0 h1 => lv_iload hx hb hdec (hL.2.2 _ _ hx2) (hk _ _ _ _ hs H locs lsA hR hS hL h0 h1)
  · cases hs
theorem so_iload_n (F : FX G p s mth args c (cM mi) (xM mi) (clsN (oM mi))) (hk : ∀ pc' ls' st' u', k pc' ls' st' u' = some rr → Wst G p l e R s mth args below meth c Q (xM mi) n0 s0 pc' ls' st' u') {j : Fin 4} (hv : vOK mi pc (.iload_n j, nx, a, b, cc0, v, sw) = true) (hs : stpK (OA Q0) cf k (.iload_n j, nx, a, b, cc0, v, sw) ls st u = some rr) : Wst G p l e R s mth args below meth c Q (xM mi) n0 s0 pc ls st u := by
  obtain ⟨hx, hb, hml, hown, hts, hE⟩ := F
  simp only [vOK, Bool.and_eq_true] at hv
  obtain ⟨hd, hj⟩ := hv
  obtain ⟨hdec, rfl⟩ := dk_spec hd
  have hj := Nat.eq_of_beq_eq_true hj
  simp only [stpK] at hs
  split at hs
  · rename_i x hx2
    rw [← hj] at hx2
    exact fun H locs lsA hR hS hL h0 h1 => lv_iload_n hx hb hdec rfl (hL.2.2 _ _ hx2) (hk _ _ _ _ hs H locs lsA hR hS hL h0 h1)
  · cases hs
theorem so_lload (F : FX G p s mth args c (cM mi) (xM mi) (clsN (oM mi))) (hk : ∀ pc' ls' st' u', k pc' ls' st' u' = some rr → Wst G p l e R s mth args below meth c Q (xM mi) n0 s0 pc' ls' st' u') {j : Nat} (hv : vOK mi pc (.lload j, nx, a, b, cc0, v, sw) = true) (hs : stpK (OA Q0) cf k (.lload j, nx, a, b, cc0, v, sw) ls st u = some rr) : Wst G p l e R s mth args below meth c Q (xM mi) n0 s0 pc ls st u := by
  obtain ⟨hx, hb, hml, hown, hts, hE⟩ := F
  simp only [vOK, Bool.and_eq_true] at hv
  obtain ⟨hd, hj⟩ := hv
  obtain ⟨hdec, rfl⟩ := dk_spec hd
  have hj := Nat.eq_of_beq_eq_true hj
  simp only [stpK] at hs
  split at hs
  · rename_i x hx2
    rw [← hj] at hx2
    exact fun H locs lsA hR hS hL h0 h1 => lv_lload hx hb hdec (hL.2.2 _ _ hx2) (hk _ _ _ _ hs H locs lsA hR hS hL h0 h1)
  · cases hs
theorem so_lload_n (F : FX G p s mth args c (cM mi) (xM mi) (clsN (oM mi))) (hk : ∀ pc' ls' st' u', k pc' ls' st' u' = some rr → Wst G p l e R s mth args below meth c Q (xM mi) n0 s0 pc' ls' st' u') {j : Fin 4} (hv : vOK mi pc (.lload_n j, nx, a, b, cc0, v, sw) = true) (hs : stpK (OA Q0) cf k (.lload_n j, nx, a, b, cc0, v, sw) ls st u = some rr) : Wst G p l e R s mth args below meth c Q (xM mi) n0 s0 pc ls st u := by
  obtain ⟨hx, hb, hml, hown, hts, hE⟩ := F
  simp only [vOK, Bool.and_eq_true] at hv
  obtain ⟨hd, hj⟩ := hv
  obtain ⟨hdec, rfl⟩ := dk_spec hd
  have hj := Nat.eq_of_beq_eq_true hj
  simp only [stpK] at hs
  split at hs
  · rename_i x hx2
    rw [← hj] at hx2
    exact fun H locs lsA hR hS hL h0 h1 => lv_lload_n hx hb hdec rfl (hL.2.2 _ _ hx2) (hk _ _ _ _ hs H locs lsA hR hS hL h0 h1)
  · cases hs
theorem so_iconst (F : FX G p s mth args c (cM mi) (xM mi) (clsN (oM mi))) (hk : ∀ pc' ls' st' u', k pc' ls' st' u' = some rr → Wst G p l e R s mth args below meth c Q (xM mi) n0 s0 pc' ls' st' u') {j : Int} (hv : vOK mi pc (.iconst j, nx, a, b, cc0, v, sw) = true) (hs : stpK (OA Q0) cf k (.iconst j, nx, a, b, cc0, v, sw) ls st u = some rr) : Wst G p l e R s mth args below meth c Q (xM mi) n0 s0 pc ls st u := by
  obtain ⟨hx, hb, hml, hown, hts, hE⟩ := F
  simp only [vOK, Bool.and_eq_true, decide_eq_true_eq] at hv
  obtain ⟨hd, hj⟩ := hv
  obtain ⟨hdec, rfl⟩ := dk_spec hd
  exact Wst.of (fun K => lv_iconst hx hb hdec hj K) (hk _ _ _ _ hs)
theorem so_bipush (F : FX G p s mth args c (cM mi) (xM mi) (clsN (oM mi))) (hk : ∀ pc' ls' st' u', k pc' ls' st' u' = some rr → Wst G p l e R s mth args below meth c Q (xM mi) n0 s0 pc' ls' st' u') {j : Int} (hv : vOK mi pc (.bipush j, nx, a, b, cc0, v, sw) = true) (hs : stpK (OA Q0) cf k (.bipush j, nx, a, b, cc0, v, sw) ls st u = some rr) : Wst G p l e R s mth args below meth c Q (xM mi) n0 s0 pc ls st u := by
  obtain ⟨hx, hb, hml, hown, hts, hE⟩ := F
  simp only [vOK, Bool.and_eq_true, decide_eq_true_eq] at hv
  obtain ⟨hd, hj⟩ := hv
  obtain ⟨hdec, rfl⟩ := dk_spec hd
  exact Wst.of (fun K => lv_bipush hx hb hdec hj K) (hk _ _ _ _ hs)
theorem so_sipush (F : FX G p s mth args c (cM mi) (xM mi) (clsN (oM mi))) (hk : ∀ pc' ls' st' u', k pc' ls' st' u' = some rr → Wst G p l e R s mth args below meth c Q (xM mi) n0 s0 pc' ls' st' u') {j : Int} (hv : vOK mi pc (.sipush j, nx, a, b, cc0, v, sw) = true) (hs : stpK (OA Q0) cf k (.sipush j, nx, a, b, cc0, v, sw) ls st u = some rr) : Wst G p l e R s mth args below meth c Q (xM mi) n0 s0 pc ls st u := by
  obtain ⟨hx, hb, hml, hown, hts, hE⟩ := F
  simp only [vOK, Bool.and_eq_true, decide_eq_true_eq] at hv
  obtain ⟨hd, hj⟩ := hv
  obtain ⟨hdec, rfl⟩ := dk_spec hd
  exact Wst.of (fun K => lv_sipush hx hb hdec hj K) (hk _ _ _ _ hs)
theorem so_lconst (F : FX G p s mth args c (cM mi) (xM mi) (clsN (oM mi))) (hk : ∀ pc' ls' st' u', k pc' ls' st' u' = some rr → Wst G p l e R s mth args below meth c Q (xM mi) n0 s0 pc' ls' st' u') {j : Fin 2} (hv : vOK mi pc (.lconst j, nx, a, b, cc0, v, sw) = true) (hs : stpK (OA Q0) cf k (.lconst j, nx, a, b, cc0, v, sw) ls st u = some rr) : Wst G p l e R s mth args below meth c Q (xM mi) n0 s0 pc ls st u := by
  obtain ⟨hx, hb, hml, hown, hts, hE⟩ := F
  simp only [vOK, Bool.and_eq_true, decide_eq_true_eq] at hv
  obtain ⟨hd, hj⟩ := hv
  obtain ⟨hdec, rfl⟩ := dk_spec hd
  exact Wst.of (fun K => lv_lconst hx hb hdec hj K) (hk _ _ _ _ hs)
theorem so_iadd (F : FX G p s mth args c (cM mi) (xM mi) (clsN (oM mi))) (hk : ∀ pc' ls' st' u', k pc' ls' st' u' = some rr → Wst G p l e R s mth args below meth c Q (xM mi) n0 s0 pc' ls' st' u')  (hv : vOK mi pc (.iadd, nx, a, b, cc0, v, sw) = true) (hs : stpK (OA Q0) cf k (.iadd, nx, a, b, cc0, v, sw) ls st u = some rr) : Wst G p l e R s mth args below meth c Q (xM mi) n0 s0 pc ls st u := by
  obtain ⟨hx, hb, hml, hown, hts, hE⟩ := F
  obtain ⟨hdec, rfl⟩ := dk_spec hv
  simp only [stpK] at hs
  split at hs
  · exact Wst.of (fun K => lv_iadd hx hb hdec K) (hk _ _ _ _ hs)
  · cases hs
theorem so_isub (F : FX G p s mth args c (cM mi) (xM mi) (clsN (oM mi))) (hk : ∀ pc' ls' st' u', k pc' ls' st' u' = some rr → Wst G p l e R s mth args below meth c Q (xM mi) n0 s0 pc' ls' st' u')  (hv : vOK mi pc (.isub, nx, a, b, cc0, v, sw) = true) (hs : stpK (OA Q0) cf k (.isub, nx, a, b, cc0, v, sw) ls st u = some rr) : Wst G p l e R s mth args below meth c Q (xM mi) n0 s0 pc ls st u := by
  obtain ⟨hx, hb, hml, hown, hts, hE⟩ := F
  obtain ⟨hdec, rfl⟩ := dk_spec hv
  simp only [stpK] at hs
  split at hs
  · exact Wst.of (fun K => lv_isub hx hb hdec K) (hk _ _ _ _ hs)
  · cases hs
theorem so_imul (F : FX G p s mth args c (cM mi) (xM mi) (clsN (oM mi))) (hk : ∀ pc' ls' st' u', k pc' ls' st' u' = some rr → Wst G p l e R s mth args below meth c Q (xM mi) n0 s0 pc' ls' st' u')  (hv : vOK mi pc (.imul, nx, a, b, cc0, v, sw) = true) (hs : stpK (OA Q0) cf k (.imul, nx, a, b, cc0, v, sw) ls st u = some rr) : Wst G p l e R s mth args below meth c Q (xM mi) n0 s0 pc ls st u := by
  obtain ⟨hx, hb, hml, hown, hts, hE⟩ := F
  obtain ⟨hdec, rfl⟩ := dk_spec hv
  simp only [stpK] at hs
  split at hs
  · exact Wst.of (fun K => lv_imul hx hb hdec K) (hk _ _ _ _ hs)
  · cases hs
theorem so_iand (F : FX G p s mth args c (cM mi) (xM mi) (clsN (oM mi))) (hk : ∀ pc' ls' st' u', k pc' ls' st' u' = some rr → Wst G p l e R s mth args below meth c Q (xM mi) n0 s0 pc' ls' st' u')  (hv : vOK mi pc (.iand, nx, a, b, cc0, v, sw) = true) (hs : stpK (OA Q0) cf k (.iand, nx, a, b, cc0, v, sw) ls st u = some rr) : Wst G p l e R s mth args below meth c Q (xM mi) n0 s0 pc ls st u := by
  obtain ⟨hx, hb, hml, hown, hts, hE⟩ := F
  obtain ⟨hdec, rfl⟩ := dk_spec hv
  simp only [stpK] at hs
  split at hs
  · exact Wst.of (fun K => lv_iand hx hb hdec K) (hk _ _ _ _ hs)
  · cases hs
theorem so_ior (F : FX G p s mth args c (cM mi) (xM mi) (clsN (oM mi))) (hk : ∀ pc' ls' st' u', k pc' ls' st' u' = some rr → Wst G p l e R s mth args below meth c Q (xM mi) n0 s0 pc' ls' st' u')  (hv : vOK mi pc (.ior, nx, a, b, cc0, v, sw) = true) (hs : stpK (OA Q0) cf k (.ior, nx, a, b, cc0, v, sw) ls st u = some rr) : Wst G p l e R s mth args below meth c Q (xM mi) n0 s0 pc ls st u := by
  obtain ⟨hx, hb, hml, hown, hts, hE⟩ := F
  obtain ⟨hdec, rfl⟩ := dk_spec hv
  simp only [stpK] at hs
  split at hs
  · exact Wst.of (fun K => lv_ior hx hb hdec K) (hk _ _ _ _ hs)
  · cases hs
theorem so_ixor (F : FX G p s mth args c (cM mi) (xM mi) (clsN (oM mi))) (hk : ∀ pc' ls' st' u', k pc' ls' st' u' = some rr → Wst G p l e R s mth args below meth c Q (xM mi) n0 s0 pc' ls' st' u')  (hv : vOK mi pc (.ixor, nx, a, b, cc0, v, sw) = true) (hs : stpK (OA Q0) cf k (.ixor, nx, a, b, cc0, v, sw) ls st u = some rr) : Wst G p l e R s mth args below meth c Q (xM mi) n0 s0 pc ls st u := by
  obtain ⟨hx, hb, hml, hown, hts, hE⟩ := F
  obtain ⟨hdec, rfl⟩ := dk_spec hv
  simp only [stpK] at hs
  split at hs
  · exact Wst.of (fun K => lv_ixor hx hb hdec K) (hk _ _ _ _ hs)
  · cases hs
theorem so_ishl (F : FX G p s mth args c (cM mi) (xM mi) (clsN (oM mi))) (hk : ∀ pc' ls' st' u', k pc' ls' st' u' = some rr → Wst G p l e R s mth args below meth c Q (xM mi) n0 s0 pc' ls' st' u')  (hv : vOK mi pc (.ishl, nx, a, b, cc0, v, sw) = true) (hs : stpK (OA Q0) cf k (.ishl, nx, a, b, cc0, v, sw) ls st u = some rr) : Wst G p l e R s mth args below meth c Q (xM mi) n0 s0 pc ls st u := by
  obtain ⟨hx, hb, hml, hown, hts, hE⟩ := F
  obtain ⟨hdec, rfl⟩ := dk_spec hv
  simp only [stpK] at hs
  split at hs
  · exact Wst.of (fun K => lv_ishl hx hb hdec K) (hk _ _ _ _ hs)
  · cases hs
theorem so_ishr (F : FX G p s mth args c (cM mi) (xM mi) (clsN (oM mi))) (hk : ∀ pc' ls' st' u', k pc' ls' st' u' = some rr → Wst G p l e R s mth args below meth c Q (xM mi) n0 s0 pc' ls' st' u')  (hv : vOK mi pc (.ishr, nx, a, b, cc0, v, sw) = true) (hs : stpK (OA Q0) cf k (.ishr, nx, a, b, cc0, v, sw) ls st u = some rr) : Wst G p l e R s mth args below meth c Q (xM mi) n0 s0 pc ls st u := by
  obtain ⟨hx, hb, hml, hown, hts, hE⟩ := F
  obtain ⟨hdec, rfl⟩ := dk_spec hv
  simp only [stpK] at hs
  split at hs
  · exact Wst.of (fun K => lv_ishr hx hb hdec K) (hk _ _ _ _ hs)
  · cases hs
theorem so_ineg (F : FX G p s mth args c (cM mi) (xM mi) (clsN (oM mi))) (hk : ∀ pc' ls' st' u', k pc' ls' st' u' = some rr → Wst G p l e R s mth args below meth c Q (xM mi) n0 s0 pc' ls' st' u')  (hv : vOK mi pc (.ineg, nx, a, b, cc0, v, sw) = true) (hs : stpK (OA Q0) cf k (.ineg, nx, a, b, cc0, v, sw) ls st u = some rr) : Wst G p l e R s mth args below meth c Q (xM mi) n0 s0 pc ls st u := by
  obtain ⟨hx, hb, hml, hown, hts, hE⟩ := F
  obtain ⟨hdec, rfl⟩ := dk_spec hv
  simp only [stpK] at hs
  split at hs
  · exact Wst.of (fun K => lv_ineg hx hb hdec K) (hk _ _ _ _ hs)
  · cases hs
theorem so_land (F : FX G p s mth args c (cM mi) (xM mi) (clsN (oM mi))) (hk : ∀ pc' ls' st' u', k pc' ls' st' u' = some rr → Wst G p l e R s mth args below meth c Q (xM mi) n0 s0 pc' ls' st' u')  (hv : vOK mi pc (.land, nx, a, b, cc0, v, sw) = true) (hs : stpK (OA Q0) cf k (.land, nx, a, b, cc0, v, sw) ls st u = some rr) : Wst G p l e R s mth args below meth c Q (xM mi) n0 s0 pc ls st u := by
  obtain ⟨hx, hb, hml, hown, hts, hE⟩ := F
  obtain ⟨hdec, rfl⟩ := dk_spec hv
  simp only [stpK] at hs
  split at hs
  · exact Wst.of (fun K => lv_land hx hb hdec K) (hk _ _ _ _ hs)
  · cases hs
theorem so_lor (F : FX G p s mth args c (cM mi) (xM mi) (clsN (oM mi))) (hk : ∀ pc' ls' st' u', k pc' ls' st' u' = some rr → Wst G p l e R s mth args below meth c Q (xM mi) n0 s0 pc' ls' st' u')  (hv : vOK mi pc (.lor, nx, a, b, cc0, v, sw) = true) (hs : stpK (OA Q0) cf k (.lor, nx, a, b, cc0, v, sw) ls st u = some rr) : Wst G p l e R s mth args below meth c Q (xM mi) n0 s0 pc ls st u := by
  obtain ⟨hx, hb, hml, hown, hts, hE⟩ := F
  obtain ⟨hdec, rfl⟩ := dk_spec hv
  simp only [stpK] at hs
  split at hs
  · exact Wst.of (fun K => lv_lor hx hb hdec K) (hk _ _ _ _ hs)
  · cases hs
theorem so_iushr (F : FX G p s mth args c (cM mi) (xM mi) (clsN (oM mi))) (hk : ∀ pc' ls' st' u', k pc' ls' st' u' = some rr → Wst G p l e R s mth args below meth c Q (xM mi) n0 s0 pc' ls' st' u')  (hv : vOK mi pc (.iushr, nx, a, b, cc0, v, sw) = true) (hs : stpK (OA Q0) cf k (.iushr, nx, a, b, cc0, v, sw) ls st u = some rr) : Wst G p l e R s mth args below meth c Q (xM mi) n0 s0 pc ls st u := by
  obtain ⟨hx, hb, hml, hown, hts, hE⟩ := F
  obtain ⟨hdec, rfl⟩ := dk_spec hv
  simp only [stpK] at hs
  split at hs
  · exact Wst.of (fun K => lv_iushr hx hb hdec rfl K) (hk _ _ _ _ hs)
  · cases hs
theorem so_i2l (F : FX G p s mth args c (cM mi) (xM mi) (clsN (oM mi))) (hk : ∀ pc' ls' st' u', k pc' ls' st' u' = some rr → Wst G p l e R s mth args below meth c Q (xM mi) n0 s0 pc' ls' st' u')  (hv : vOK mi pc (.i2l, nx, a, b, cc0, v, sw) = true) (hs : stpK (OA Q0) cf k (.i2l, nx, a, b, cc0, v, sw) ls st u = some rr) : Wst G p l e R s mth args below meth c Q (xM mi) n0 s0 pc ls st u := by
  obtain ⟨hx, hb, hml, hown, hts, hE⟩ := F
  obtain ⟨hdec, rfl⟩ := dk_spec hv
  simp only [stpK] at hs
  split at hs
  · exact Wst.of (fun K => lv_i2l hx hb hdec rfl K) (hk _ _ _ _ hs)
  · cases hs
theorem so_l2i (F : FX G p s mth args c (cM mi) (xM mi) (clsN (oM mi))) (hk : ∀ pc' ls' st' u', k pc' ls' st' u' = some rr → Wst G p l e R s mth args below meth c Q (xM mi) n0 s0 pc' ls' st' u')  (hv : vOK mi pc (.l2i, nx, a, b, cc0, v, sw) = true) (hs : stpK (OA Q0) cf k (.l2i, nx, a, b, cc0, v, sw) ls st u = some rr) : Wst G p l e R s mth args below meth c Q (xM mi) n0 s0 pc ls st u := by
  obtain ⟨hx, hb, hml, hown, hts, hE⟩ := F
  obtain ⟨hdec, rfl⟩ := dk_spec hv
  simp only [stpK] at hs
  split at hs
  · exact Wst.of (fun K => lv_l2i hx hb hdec rfl K) (hk _ _ _ _ hs)
  · cases hs
theorem so_i2b (F : FX G p s mth args c (cM mi) (xM mi) (clsN (oM mi))) (hk : ∀ pc' ls' st' u', k pc' ls' st' u' = some rr → Wst G p l e R s mth args below meth c Q (xM mi) n0 s0 pc' ls' st' u')  (hv : vOK mi pc (.i2b, nx, a, b, cc0, v, sw) = true) (hs : stpK (OA Q0) cf k (.i2b, nx, a, b, cc0, v, sw) ls st u = some rr) : Wst G p l e R s mth args below meth c Q (xM mi) n0 s0 pc ls st u := by
  obtain ⟨hx, hb, hml, hown, hts, hE⟩ := F
  obtain ⟨hdec, rfl⟩ := dk_spec hv
  simp only [stpK] at hs
  split at hs
  · exact Wst.of (fun K => lv_i2b hx hb hdec rfl K) (hk _ _ _ _ hs)
  · cases hs
theorem so_i2s (F : FX G p s mth args c (cM mi) (xM mi) (clsN (oM mi))) (hk : ∀ pc' ls' st' u', k pc' ls' st' u' = some rr → Wst G p l e R s mth args below meth c Q (xM mi) n0 s0 pc' ls' st' u')  (hv : vOK mi pc (.i2s, nx, a, b, cc0, v, sw) = true) (hs : stpK (OA Q0) cf k (.i2s, nx, a, b, cc0, v, sw) ls st u = some rr) : Wst G p l e R s mth args below meth c Q (xM mi) n0 s0 pc ls st u := by
  obtain ⟨hx, hb, hml, hown, hts, hE⟩ := F
  obtain ⟨hdec, rfl⟩ := dk_spec hv
  simp only [stpK] at hs
  split at hs
  · exact Wst.of (fun K => lv_i2s hx hb hdec rfl K) (hk _ _ _ _ hs)
  · cases hs
theorem so_i2c (F : FX G p s mth args c (cM mi) (xM mi) (clsN (oM mi))) (hk : ∀ pc' ls' st' u', k pc' ls' st' u' = some rr → Wst G p l e R s mth args below meth c Q (xM mi) n0 s0 pc' ls' st' u')  (hv : vOK mi pc (.i2c, nx, a, b, cc0, v, sw) = true) (hs : stpK (OA Q0) cf k (.i2c, nx, a, b, cc0, v, sw) ls st u = some rr) : Wst G p l e R s mth args below meth c Q (xM mi) n0 s0 pc ls st u := by
  obtain ⟨hx, hb, hml, hown, hts, hE⟩ := F
  obtain ⟨hdec, rfl⟩ := dk_spec hv
  simp only [stpK] at hs
  split at hs
  · exact Wst.of (fun K => lv_i2c hx hb hdec rfl K) (hk _ _ _ _ hs)
  · cases hs
theorem so_lshl (F : FX G p s mth args c (cM mi) (xM mi) (clsN (oM mi))) (hk : ∀ pc' ls' st' u', k pc' ls' st' u' = some rr → Wst G p l e R s mth args below meth c Q (xM mi) n0 s0 pc' ls' st' u')  (hv : vOK mi pc (.lshl, nx, a, b, cc0, v, sw) = true) (hs : stpK (OA Q0) cf k (.lshl, nx, a, b, cc0, v, sw) ls st u = some rr) : Wst G p l e R s mth args below meth c Q (xM mi) n0 s0 pc ls st u := by
  obtain ⟨hx, hb, hml, hown, hts, hE⟩ := F
  obtain ⟨hdec, rfl⟩ := dk_spec hv
  simp only [stpK] at hs
  split at hs
  · exact Wst.of (fun K => lv_lshl hx hb hdec rfl K) (hk _ _ _ _ hs)
  · cases hs
theorem so_idiv (F : FX G p s mth args c (cM mi) (xM mi) (clsN (oM mi))) (hk : ∀ pc' ls' st' u', k pc' ls' st' u' = some rr → Wst G p l e R s mth args below meth c Q (xM mi) n0 s0 pc' ls' st' u')  (hv : vOK mi pc (.idiv, nx, a, b, cc0, v, sw) = true) (hs : stpK (OA Q0) cf k (.idiv, nx, a, b, cc0, v, sw) ls st u = some rr) : Wst G p l e R s mth args below meth c Q (xM mi) n0 s0 pc ls st u := by
  obtain ⟨hx, hb, hml, hown, hts, hE⟩ := F
  obtain ⟨hdec, rfl⟩ := dk_spec hv
  simp only [stpK] at hs
  split at hs
  · obtain ⟨h1, h2⟩ := bT_none hs
    exact Wst.of (fun K => lv_idiv hx hb hdec (of_decide_eq_false h1) K) (hk _ _ _ _ h2)
  · cases hs
theorem so_irem (F : FX G p s mth args c (cM mi) (xM mi) (clsN (oM mi))) (hk : ∀ pc' ls' st' u', k pc' ls' st' u' = some rr → Wst G p l e R s mth args below meth c Q (xM mi) n0 s0 pc' ls' st' u')  (hv : vOK mi pc (.irem, nx, a, b, cc0, v, sw) = true) (hs : stpK (OA Q0) cf k (.irem, nx, a, b, cc0, v, sw) ls st u = some rr) : Wst G p l e R s mth args below meth c Q (xM mi) n0 s0 pc ls st u := by
  obtain ⟨hx, hb, hml, hown, hts, hE⟩ := F
  obtain ⟨hdec, rfl⟩ := dk_spec hv
  simp only [stpK] at hs
  split at hs
  · obtain ⟨h1, h2⟩ := bT_none hs
    exact Wst.of (fun K => lv_irem hx hb hdec (of_decide_eq_false h1) K) (hk _ _ _ _ h2)
  · cases hs
theorem so_lcmp (F : FX G p s mth args c (cM mi) (xM mi) (clsN (oM mi))) (hk : ∀ pc' ls' st' u', k pc' ls' st' u' = some rr → Wst G p l e R s mth args below meth c Q (xM mi) n0 s0 pc' ls' st' u')  (hv : vOK mi pc (.lcmp, nx, a, b, cc0, v, sw) = true) (hs : stpK (OA Q0) cf k (.lcmp, nx, a, b, cc0, v, sw) ls st u = some rr) : Wst G p l e R s mth args below meth c Q (xM mi) n0 s0 pc ls st u := by
  obtain ⟨hx, hb, hml, hown, hts, hE⟩ := F
  obtain ⟨hdec, rfl⟩ := dk_spec hv
  simp only [stpK] at hs
  split at hs
  · exact Wst.of (fun K => W.lcmp hx hb hdec K) (hk _ _ _ _ hs)
  · cases hs
theorem so_pop (F : FX G p s mth args c (cM mi) (xM mi) (clsN (oM mi))) (hk : ∀ pc' ls' st' u', k pc' ls' st' u' = some rr → Wst G p l e R s mth args below meth c Q (xM mi) n0 s0 pc' ls' st' u')  (hv : vOK mi pc (.pop, nx, a, b, cc0, v, sw) = true) (hs : stpK (OA Q0) cf k (.pop, nx, a, b, cc0, v, sw) ls st u = some rr) : Wst G p l e R s mth args below meth c Q (xM mi) n0 s0 pc ls st u := by
  obtain ⟨hx, hb, hml, hown, hts, hE⟩ := F
  obtain ⟨hdec, rfl⟩ := dk_spec hv
  simp only [stpK] at hs
  split at hs
  · exact Wst.of (fun K => lv_pop hx hb hdec rfl K) (hk _ _ _ _ hs)
  · cases hs
theorem so_dup (F : FX G p s mth args c (cM mi) (xM mi) (clsN (oM mi))) (hk : ∀ pc' ls' st' u', k pc' ls' st' u' = some rr → Wst G p l e R s mth args below meth c Q (xM mi) n0 s0 pc' ls' st' u')  (hv : vOK mi pc (.dup, nx, a, b, cc0, v, sw) = true) (hs : stpK (OA Q0) cf k (.dup, nx, a, b, cc0, v, sw) ls st u = some rr) : Wst G p l e R s mth args below meth c Q (xM mi) n0 s0 pc ls st u := by
  obtain ⟨hx, hb, hml, hown, hts, hE⟩ := F
  obtain ⟨hdec, rfl⟩ := dk_spec hv
  have hZ := hE.cat
  simp only [stpK] at hs
  split at hs
  · exact Wst.of (fun K => lv_dup hx hb hdec rfl K) (hk _ _ _ _ hs)
  · rename_i x st2
    exact Wst.of (fun K => lv_dup hx hb hdec (by rw [cvv_cat G hZ]; rfl) K) (hk _ _ _ _ hs)
  · cases hs
theorem so_dup2 (F : FX G p s mth args c (cM mi) (xM mi) (clsN (oM mi))) (hk : ∀ pc' ls' st' u', k pc' ls' st' u' = some rr → Wst G p l e R s mth args below meth c Q (xM mi) n0 s0 pc' ls' st' u')  (hv : vOK mi pc (.dup2, nx, a, b, cc0, v, sw) = true) (hs : stpK (OA Q0) cf k (.dup2, nx, a, b, cc0, v, sw) ls st u = some rr) : Wst G p l e R s mth args below meth c Q (xM mi) n0 s0 pc ls st u := by
  obtain ⟨hx, hb, hml, hown, hts, hE⟩ := F
  obtain ⟨hdec, rfl⟩ := dk_spec hv
  have hZ := hE.cat
  simp only [stpK] at hs
  split at hs
  · exact Wst.of (fun K => lv_dup2_11 hx hb hdec rfl (by rw [cvv_cat G hZ]; rfl) K) (hk _ _ _ _ hs)
  · cases hs
theorem so_goto (F : FX G p s mth args c (cM mi) (xM mi) (clsN (oM mi))) (hk : ∀ pc' ls' st' u', k pc' ls' st' u' = some rr → Wst G p l e R s mth args below meth c Q (xM mi) n0 s0 pc' ls' st' u') {j : Int} (hv : vOK mi pc (.goto j, nx, a, b, cc0, v, sw) = true) (hs : stpK (OA Q0) cf k (.goto j, nx, a, b, cc0, v, sw) ls st u = some rr) : Wst G p l e R s mth args below meth c Q (xM mi) n0 s0 pc ls st u := by
  obtain ⟨hx, hb, hml, hown, hts, hE⟩ := F
  simp only [vOK, Bool.and_eq_true, decide_eq_true_eq] at hv
  obtain ⟨hd, hj⟩ := hv
  obtain ⟨hdec, rfl⟩ := dk_spec hd
  exact Wst.of (fun K => lv_goto hx hb hdec hj K) (hk _ _ _ _ hs)
theorem so_if_eq (F : FX G p s mth args c (cM mi) (xM mi) (clsN (oM mi))) (hk : ∀ pc' ls' st' u', k pc' ls' st' u' = some rr → Wst G p l e R s mth args below meth c Q (xM mi) n0 s0 pc' ls' st' u') {j : Int} (hv : vOK mi pc (.ifCond .eq j, nx, a, b, cc0, v, sw) = true) (hs : stpK (OA Q0) cf k (.ifCond .eq j, nx, a, b, cc0, v, sw) ls st u = some rr) : Wst G p l e R s mth args below meth c Q (xM mi) n0 s0 pc ls st u := by
  obtain ⟨hx, hb, hml, hown, hts, hE⟩ := F
  simp only [vOK, Bool.and_eq_true, decide_eq_true_eq] at hv
  obtain ⟨hd, hj⟩ := hv
  obtain ⟨hdec, rfl⟩ := dk_spec hd
  simp only [stpK, cmpK] at hs
  split at hs
  · intro H locs lsA hR hS hL h0 h1
    refine lv_if_eq hx hb hdec hj (fun q => ?_) (fun q => ?_)
    · refine hk _ _ _ _ ?_ H locs lsA hR hS hL h0 h1
      rw [← hs]; exact (bT_t (decide_eq_true q)).symm
    · refine hk _ _ _ _ ?_ H locs lsA hR hS hL h0 h1
      rw [← hs]; exact (bT_f (decide_eq_false q)).symm
  · cases hs
theorem so_if_ne (F : FX G p s mth args c (cM mi) (xM mi) (clsN (oM mi))) (hk : ∀ pc' ls' st' u', k pc' ls' st' u' = some rr → Wst G p l e R s mth args below meth c Q (xM mi) n0 s0 pc' ls' st' u') {j : Int} (hv : vOK mi pc (.ifCond .ne j, nx, a, b, cc0, v, sw) = true) (hs : stpK (OA Q0) cf k (.ifCond .ne j, nx, a, b, cc0, v, sw) ls st u = some rr) : Wst G p l e R s mth args below meth c Q (xM mi) n0 s0 pc ls st u := by
  obtain ⟨hx, hb, hml, hown, hts, hE⟩ := F
  simp only [vOK, Bool.and_eq_true, decide_eq_true_eq] at hv
  obtain ⟨hd, hj⟩ := hv
  obtain ⟨hdec, rfl⟩ := dk_spec hd
  simp only [stpK, cmpK] at hs
  split at hs
  · intro H locs lsA hR hS hL h0 h1
    refine lv_if_ne hx hb hdec hj (fun q => ?_) (fun q => ?_)
    · refine hk _ _ _ _ ?_ H locs lsA hR hS hL h0 h1
      rw [← hs]; exact (bT_f (decide_eq_false q)).symm
    · refine hk _ _ _ _ ?_ H locs lsA hR hS hL h0 h1
      rw [← hs]; exact (bT_t (decide_eq_true q)).symm
  · cases hs
theorem so_if_lt (F : FX G p s mth args c (cM mi) (xM mi) (clsN (oM mi))) (hk : ∀ pc' ls' st' u', k pc' ls' st' u' = some rr → Wst G p l e R s mth args below meth c Q (xM mi) n0 s0 pc' ls' st' u') {j : Int} (hv : vOK mi pc (.ifCond .lt j, nx, a, b, cc0, v, sw) = true) (hs : stpK (OA Q0) cf k (.ifCond .lt j, nx, a, b, cc0, v, sw) ls st u = some rr) : Wst G p l e R s mth args below meth c Q (xM mi) n0 s0 pc ls st u := by
  obtain ⟨hx, hb, hml, hown, hts, hE⟩ := F
  simp only [vOK, Bool.and_eq_true, decide_eq_true_eq] at hv
  obtain ⟨hd, hj⟩ := hv
  obtain ⟨hdec, rfl⟩ := dk_spec hd
  simp only [stpK, cmpK] at hs
  split at hs
  · intro H locs lsA hR hS hL h0 h1
    refine lv_if_lt hx hb hdec hj (fun q => ?_) (fun q => ?_)
    · refine hk _ _ _ _ ?_ H locs lsA hR hS hL h0 h1
      rw [← hs]; exact (bT_t (decide_eq_true q)).symm
    · refine hk _ _ _ _ ?_ H locs lsA hR hS hL h0 h1
      rw [← hs]; exact (bT_f (decide_eq_false q)).symm
  · cases hs
theorem so_if_ge (F : FX G p s mth args c (cM mi) (xM mi) (clsN (oM mi))) (hk : ∀ pc' ls' st' u', k pc' ls' st' u' = some rr → Wst G p l e R s mth args below meth c Q (xM mi) n0 s0 pc' ls' st' u') {j : Int} (hv : vOK mi pc (.ifCond .ge j, nx, a, b, cc0, v, sw) = true) (hs : stpK (OA Q0) cf k (.ifCond .ge j, nx, a, b, cc0, v, sw) ls st u = some rr) : Wst G p l e R s mth args below meth c Q (xM mi) n0 s0 pc ls st u := by
  obtain ⟨hx, hb, hml, hown, hts, hE⟩ := F
  simp only [vOK, Bool.and_eq_true, decide_eq_true_eq] at hv
  obtain ⟨hd, hj⟩ := hv
  obtain ⟨hdec, rfl⟩ := dk_spec hd
  simp only [stpK, cmpK] at hs
  split at hs
  · intro H locs lsA hR hS hL h0 h1
    refine lv_if_ge hx hb hdec hj (fun q => ?_) (fun q => ?_)
    · refine hk _ _ _ _ ?_ H locs lsA hR hS hL h0 h1
      rw [← hs]; exact (bT_t (decide_eq_true q)).symm
    · refine hk _ _ _ _ ?_ H locs lsA hR hS hL h0 h1
      rw [← hs]; exact (bT_f (decide_eq_false q)).symm
  · cases hs
theorem so_if_gt (F : FX G p s mth args c (cM mi) (xM mi) (clsN (oM mi))) (hk : ∀ pc' ls' st' u', k pc' ls' st' u' = some rr → Wst G p l e R s mth args below meth c Q (xM mi) n0 s0 pc' ls' st' u') {j : Int} (hv : vOK mi pc (.ifCond .gt j, nx, a, b, cc0, v, sw) = true) (hs : stpK (OA Q0) cf k (.ifCond .gt j, nx, a, b, cc0, v, sw) ls st u = some rr) : Wst G p l e R s mth args below meth c Q (xM mi) n0 s0 pc ls st u := by
  obtain ⟨hx, hb, hml, hown, hts, hE⟩ := F
  simp only [vOK, Bool.and_eq_true, decide_eq_true_eq] at hv
  obtain ⟨hd, hj⟩ := hv
  obtain ⟨hdec, rfl⟩ := dk_spec hd
  simp only [stpK, cmpK] at hs
  split at hs
  · intro H locs lsA hR hS hL h0 h1
    refine lv_if_gt hx hb hdec hj (fun q => ?_) (fun q => ?_)
    · refine hk _ _ _ _ ?_ H locs lsA hR hS hL h0 h1
      rw [← hs]; exact (bT_t (decide_eq_true q)).symm
    · refine hk _ _ _ _ ?_ H locs lsA hR hS hL h0 h1
      rw [← hs]; exact (bT_f (decide_eq_false q)).symm
  · cases hs
theorem so_if_le (F : FX G p s mth args c (cM mi) (xM mi) (clsN (oM mi))) (hk : ∀ pc' ls' st' u', k pc' ls' st' u' = some rr → Wst G p l e R s mth args below meth c Q (xM mi) n0 s0 pc' ls' st' u') {j : Int} (hv : vOK mi pc (.ifCond .le j, nx, a, b, cc0, v, sw) = true) (hs : stpK (OA Q0) cf k (.ifCond .le j, nx, a, b, cc0, v, sw) ls st u = some rr) : Wst G p l e R s mth args below meth c Q (xM mi) n0 s0 pc ls st u := by
  obtain ⟨hx, hb, hml, hown, hts, hE⟩ := F
  simp only [vOK, Bool.and_eq_true, decide_eq_true_eq] at hv
  obtain ⟨hd, hj⟩ := hv
  obtain ⟨hdec, rfl⟩ := dk_spec hd
  simp only [stpK, cmpK] at hs
  split at hs
  · intro H locs lsA hR hS hL h0 h1
    refine lv_if_le hx hb hdec hj (fun q => ?_) (fun q => ?_)
    · refine hk _ _ _ _ ?_ H locs lsA hR hS hL h0 h1
      rw [← hs]; exact (bT_t (decide_eq_true q)).symm
    · refine hk _ _ _ _ ?_ H locs lsA hR hS hL h0 h1
      rw [← hs]; exact (bT_f (decide_eq_false q)).symm
  · cases hs
theorem so_icmp_eq (F : FX G p s mth args c (cM mi) (xM mi) (clsN (oM mi))) (hk : ∀ pc' ls' st' u', k pc' ls' st' u' = some rr → Wst G p l e R s mth args below meth c Q (xM mi) n0 s0 pc' ls' st' u') {j : Int} (hv : vOK mi pc (.if_icmp .eq j, nx, a, b, cc0, v, sw) = true) (hs : stpK (OA Q0) cf k (.if_icmp .eq j, nx, a, b, cc0, v, sw) ls st u = some rr) : Wst G p l e R s mth args below meth c Q (xM mi) n0 s0 pc ls st u := by
  obtain ⟨hx, hb, hml, hown, hts, hE⟩ := F
  simp only [vOK, Bool.and_eq_true, decide_eq_true_eq] at hv
  obtain ⟨hd, hj⟩ := hv
  obtain ⟨hdec, rfl⟩ := dk_spec hd
  simp only [stpK, cmpK] at hs
  split at hs
  · intro H locs lsA hR hS hL h0 h1
    refine lv_icmp_eq hx hb hdec hj (fun q => ?_) (fun q => ?_)
    · refine hk _ _ _ _ ?_ H locs lsA hR hS hL h0 h1
      rw [← hs]; exact (bT_t (decide_eq_true q)).symm
    · refine hk _ _ _ _ ?_ H locs lsA hR hS hL h0 h1
      rw [← hs]; exact (bT_f (decide_eq_false q)).symm
  · cases hs
theorem so_icmp_ne (F : FX G p s mth args c (cM mi) (xM mi) (clsN (oM mi))) (hk : ∀ pc' ls' st' u', k pc' ls' st' u' = some rr → Wst G p l e R s mth args below meth c Q (xM mi) n0 s0 pc' ls' st' u') {j : Int} (hv : vOK mi pc (.if_icmp .ne j, nx, a, b, cc0, v, sw) = true) (hs : stpK (OA Q0) cf k (.if_icmp .ne j, nx, a, b, cc0, v, sw) ls st u = some rr) : Wst G p l e R s mth args below meth c Q (xM mi) n0 s0 pc ls st u := by
  obtain ⟨hx, hb, hml, hown, hts, hE⟩ := F
  simp only [vOK, Bool.and_eq_true, decide_eq_true_eq] at hv
  obtain ⟨hd, hj⟩ := hv
  obtain ⟨hdec, rfl⟩ := dk_spec hd
  simp only [stpK, cmpK] at hs
  split at hs
  · intro H locs lsA hR hS hL h0 h1
    refine lv_icmp_ne hx hb hdec hj (fun q => ?_) (fun q => ?_)
    · refine hk _ _ _ _ ?_ H locs lsA hR hS hL h0 h1
      rw [← hs]; exact (bT_f (decide_eq_false q)).symm
    · refine hk _ _ _ _ ?_ H locs lsA hR hS hL h0 h1
      rw [← hs]; exact (bT_t (decide_eq_true q)).symm
  · cases hs
theorem so_icmp_lt (F : FX G p s mth args c (cM mi) (xM mi) (clsN (oM mi))) (hk : ∀ pc' ls' st' u', k pc' ls' st' u' = some rr → Wst G p l e R s mth args below meth c Q (xM mi) n0 s0 pc' ls' st' u') {j : Int} (hv : vOK mi pc (.if_icmp .lt j, nx, a, b, cc0, v, sw) = true) (hs : stpK (OA Q0) cf k (.if_icmp .lt j, nx, a, b, cc0, v, sw) ls st u = some rr) : Wst G p l e R s mth args below meth c Q (xM mi) n0 s0 pc ls st u := by
  obtain ⟨hx, hb, hml, hown, hts, hE⟩ := F
  simp only [vOK, Bool.and_eq_true, decide_eq_true_eq] at hv
  obtain ⟨hd, hj⟩ := hv
  obtain ⟨hdec, rfl⟩ := dk_spec hd
  simp only [stpK, cmpK] at hs
  split at hs
  · intro H locs lsA hR hS hL h0 h1
    refine lv_icmp_lt hx hb hdec hj (fun q => ?_) (fun q => ?_)
    · refine hk _ _ _ _ ?_ H locs lsA hR hS hL h0 h1
      rw [← hs]; exact (bT_t (decide_eq_true q)).symm
    · refine hk _ _ _ _ ?_ H locs lsA hR hS hL h0 h1
      rw [← hs]; exact (bT_f (decide_eq_false q)).symm
  · cases hs
theorem so_icmp_ge (F : FX G p s mth args c (cM mi) (xM mi) (clsN (oM mi))) (hk : ∀ pc' ls' st' u', k pc' ls' st' u' = some rr → Wst G p l e R s mth args below meth c Q (xM mi) n0 s0 pc' ls' st' u') {j : Int} (hv : vOK mi pc (.if_icmp .ge j, nx, a, b, cc0, v, sw) = true) (hs : stpK (OA Q0) cf k (.if_icmp .ge j, nx, a, b, cc0, v, sw) ls st u = some rr) : Wst G p l e R s mth args below meth c Q (xM mi) n0 s0 pc ls st u := by
  obtain ⟨hx, hb, hml, hown, hts, hE⟩ := F
  simp only [vOK, Bool.and_eq_true, decide_eq_true_eq] at hv
  obtain ⟨hd, hj⟩ := hv
  obtain ⟨hdec, rfl⟩ := dk_spec hd
  simp only [stpK, cmpK] at hs
  split at hs
  · intro H locs lsA hR hS hL h0 h1
    refine lv_icmp_ge hx hb hdec hj (fun q => ?_) (fun q => ?_)
    · refine hk _ _ _ _ ?_ H locs lsA hR hS hL h0 h1
      rw [← hs]; exact (bT_t (decide_eq_true q)).symm
    · refine hk _ _ _ _ ?_ H locs lsA hR hS hL h0 h1
      rw [← hs]; exact (bT_f (decide_eq_false q)).symm
  · cases hs
theorem so_icmp_gt (F : FX G p s mth args c (cM mi) (xM mi) (clsN (oM mi))) (hk : ∀ pc' ls' st' u', k pc' ls' st' u' = some rr → Wst G p l e R s mth args below meth c Q (xM mi) n0 s0 pc' ls' st' u') {j : Int} (hv : vOK mi pc (.if_icmp .gt j, nx, a, b, cc0, v, sw) = true) (hs : stpK (OA Q0) cf k (.if_icmp .gt j, nx, a, b, cc0, v, sw) ls st u = some rr) : Wst G p l e R s mth args below meth c Q (xM mi) n0 s0 pc ls st u := by
  obtain ⟨hx, hb, hml, hown, hts, hE⟩ := F
  simp only [vOK, Bool.and_eq_true, decide_eq_true_eq] at hv
  obtain ⟨hd, hj⟩ := hv
  obtain ⟨hdec, rfl⟩ := dk_spec hd
  simp only [stpK, cmpK] at hs
  split at hs
  · intro H locs lsA hR hS hL h0 h1
    refine lv_icmp_gt hx hb hdec hj (fun q => ?_) (fun q => ?_)
    · refine hk _ _ _ _ ?_ H locs lsA hR hS hL h0 h1
      rw [← hs]; exact (bT_t (decide_eq_true q)).symm
    · refine hk _ _ _ _ ?_ H locs lsA hR hS hL h0 h1
      rw [← hs]; exact (bT_f (decide_eq_false q)).symm
  · cases hs
theorem so_icmp_le (F : FX G p s mth args c (cM mi) (xM mi) (clsN (oM mi))) (hk : ∀ pc' ls' st' u', k pc' ls' st' u' = some rr → Wst G p l e R s mth args below meth c Q (xM mi) n0 s0 pc' ls' st' u') {j : Int} (hv : vOK mi pc (.if_icmp .le j, nx, a, b, cc0, v, sw) = true) (hs : stpK (OA Q0) cf k (.if_icmp .le j, nx, a, b, cc0, v, sw) ls st u = some rr) : Wst G p l e R s mth args below meth c Q (xM mi) n0 s0 pc ls st u := by
  obtain ⟨hx, hb, hml, hown, hts, hE⟩ := F
  simp only [vOK, Bool.and_eq_true, decide_eq_true_eq] at hv
  obtain ⟨hd, hj⟩ := hv
  obtain ⟨hdec, rfl⟩ := dk_spec hd
  simp only [stpK, cmpK] at hs
  split at hs
  · intro H locs lsA hR hS hL h0 h1
    refine lv_icmp_le hx hb hdec hj (fun q => ?_) (fun q => ?_)
    · refine hk _ _ _ _ ?_ H locs lsA hR hS hL h0 h1
      rw [← hs]; exact (bT_t (decide_eq_true q)).symm
    · refine hk _ _ _ _ ?_ H locs lsA hR hS hL h0 h1
      rw [← hs]; exact (bT_f (decide_eq_false q)).symm
  · cases hs
end
