/-! steps: cells that are made -/
theorem tyF_dv : (List.range 10).all (fun c => (List.range (nF c)).all (fun j => decide (defaultValue (tyF c j) = bT (isRf (tyF c j)) .null (.int 0)))) = true := by decide +kernel
theorem tyF_dv' {c j : Nat} (hc : c < 10) (hj : j < nF c) : defaultValue (tyF c j) = bT (isRf (tyF c j)) .null (.int 0) :=
  of_decide_eq_true (List.all_eq_true.mp (List.all_eq_true.mp tyF_dv c (List.mem_range.mpr hc)) j (List.mem_range.mpr hj))
theorem WF.new {G : Wd} {u : Mem} (h : WF G u) (hk : u.1 < 1000) {s : Sh} (hs : okSh s) (n : Nat) : WF G (mNew u s n) := by
  refine ⟨⟨hk, fun k hk2 => ?_, fun a b q hq => ?_⟩, fun k h1 h2 => ?_, fun q hq => ⟨?_, fun j => ?_, ?_⟩⟩
  · show okSh (upR (mH u) u.1 s k)
    unfold upR
    by_cases e : k = u.1
    · rw [if_pos e]; exact hs
    · rw [if_neg e]
      have hk2 : k < u.1 + 1 := hk2
      exact h.1.2.1 k (by omega)
  · have hq : upR (mR u) u.1 (fun _ => none) a b = some q := hq
    unfold upR at hq
    split at hq
    · cases hq
    · exact h.1.2.2 _ _ _ hq
  · have h1 : u.1 + 1 ≤ k := h1
    show upR (mH u) u.1 s k = _
    unfold upR
    rw [if_neg (by omega)]
    exact h.2.1 k (by omega) h2
  · show upR (mH u) u.1 s q = _
    unfold upR
    rw [if_neg (by omega)]
    exact (h.2.2 q hq).1
  · show upR (mI u) u.1 (fun _ => 0) q j = _
    unfold upR
    rw [if_neg (by omega)]
    exact (h.2.2 q hq).2.1 j
  · show upR (mR u) u.1 (fun _ => none) q 0 = _
    unfold upR
    rw [if_neg (by omega)]
    exact (h.2.2 q hq).2.2
theorem upR_self {α : Type} (f : Nat → α) (k : Nat) (v : α) : upR f k v k = v := by unfold upR; rw [if_pos rfl]
theorem upR_ne {α : Type} {f : Nat → α} {k j : Nat} {v : α} (h : j ≠ k) : upR f k v j = f j := by unfold upR; rw [if_neg h]
theorem HR.new {G : Wd} {u : Mem} {H H1 : Heap} {s : Sh} {n : Nat} (hR : HR G u H) (hk : u.1 < 1000) (hs : okSh s) (z : H1.size = wB G + u.1 + 1) (oq : ∀ q : Nat, q < wB G + u.1 → H1[q]? = H[q]?) (e : va_at (wD G) vwCl (wB G + u.1, cel G (mNew u s n) u.1) H1) : HR G (mNew u s n) H1 := by
  refine ⟨by rw [z]; show _ = wB G + (u.1 + 1); omega, hR.2.1.new hk hs n, ?_⟩
  have hc : ∀ j, j < u.1 → cel G (mNew u s n) j = cel G u j := fun j hj => cel_congr (upR_ne (by omega)) (upR_ne (by omega)) (upR_ne (by omega)) (upR_ne (by omega))
  rw [← pw_push (v := mNew u s n) rfl rfl hc]
  intro k q hq
  by_cases hl : k < u.1
  · rw [List.getElem?_append_left (by rw [pw_len]; exact hl), pw_get hl] at hq
    cases hq
    have h := hR.2.2 k _ (pw_get hl)
    have e0 : H1[wB G + k]? = H[wB G + k]? := oq _ (by omega)
    unfold va_at at h ⊢
    split
    · rename_i a ha
      have ha : cel G u k = .inl a := ha
      rw [show ((wB G + k, cel G u k) : Nat × va_E).2 = .inl a from ha] at h
      show H1[wB G + k]? = _
      rw [e0]
      exact h
    · rename_i o ho
      have ho : cel G u k = .inr o := ho
      rw [show ((wB G + k, cel G u k) : Nat × va_E).2 = .inr o from ho] at h
      obtain ⟨r, r1, r2⟩ := h
      exact ⟨r, r1, r2.kept e0⟩
  · rw [List.getElem?_append_right (by rw [pw_len]; omega), pw_len] at hq
    have hz : k - u.1 < 1 := (List.getElem?_eq_some_iff.mp hq).1
    rw [show k - u.1 = 0 by omega] at hq
    cases hq
    exact e
section
variable {G : Wd} {p : Program} {l : Launch} {e : Env} {R : Room} {s : State} {mth : MethodId} {args : Array Value} {below : List Frame} {meth : Method} {c : Code} {Q : State → Prop} {n0 s0 mi pc : Nat} {cf : Nat → List Value → Mem → Rs Mem} {k : Nat → Lo → List Value → Mem → Rs Mem} {ls : Lo} {st : List Value} {u : Mem} {rr : Option Value × Mem} {nx a b cc0 : Nat} {v : Int32} {sw : List (Int32 × Nat)}
theorem bN_some {M : Type} {r : Option (Nat × M)} {f : Nat → M → Rs M} {x : Option Value × M} (h : bN r f = some x) : ∃ q m, r = some (q, m) ∧ f q m = some x := by
  rcases r with _ | ⟨q, m⟩
  · cases h
  · exact ⟨q, m, rfl, h⟩
theorem oN_some {Q : Qs} {u : Mem} {sh : Sh} {n q : Nat} {u' : Mem} (h : oN (OA Q) u sh n = some (q, u')) : u.1 < 1000 ∧ q = u.1 ∧ u' = mNew u sh n := by
  have h : bT (Nat.ble 1000 u.1) none (some (u.1, mNew u sh n)) = some (q, u') := h
  obtain ⟨h1, h2⟩ := bT_none h
  cases h2
  exact ⟨Nat.lt_of_not_le (fun w => by rw [Nat.ble_eq_true_of_le w] at h1; cases h1), rfl, rfl⟩
theorem cls_at {x y z : Nat} (h : fnd kCls x y z = true) : Cond.classLink (clsN x) y (clsN z) ∈ wG := by
  obtain ⟨w, hw⟩ := fnd_spec h
  exact kAt_mem (List.all_eq_true.mp kCls_ok _ hw)
theorem new_at : ∀ {a : Nat}, a < 10 → Cond.instantiable (clsN a) (nF a) ∈ wG ∧ Cond.initialized (clsN a) ∈ wG := by
  intro a ha
  have key : ∀ q ∈ kNew, Cond.instantiable (clsN q.1) (nF q.1) ∈ wG ∧ Cond.initialized (clsN q.1) ∈ wG := fun q hq => by
    have h1 := List.all_eq_true.mp kNew_ok _ hq
    rw [Bool.and_eq_true] at h1
    exact ⟨kAt_mem h1.1, kAt_mem h1.2⟩
  have h2 : ∃ q ∈ kNew, q.1 = a := by
    match a, ha with
    | 0, _ => exact ⟨_, List.mem_of_getElem? (i := 0) rfl, rfl⟩
    | 1, _ => exact ⟨_, List.mem_of_getElem? (i := 1) rfl, rfl⟩
    | 2, _ => exact ⟨_, List.mem_of_getElem? (i := 2) rfl, rfl⟩
    | 3, _ => exact ⟨_, List.mem_of_getElem? (i := 3) rfl, rfl⟩
    | 4, _ => exact ⟨_, List.mem_of_getElem? (i := 4) rfl, rfl⟩
    | 5, _ => exact ⟨_, List.mem_of_getElem? (i := 5) rfl, rfl⟩
    | 6, _ => exact ⟨_, List.mem_of_getElem? (i := 6) rfl, rfl⟩
    | 7, _ => exact ⟨_, List.mem_of_getElem? (i := 7) rfl, rfl⟩
    | 8, _ => exact ⟨_, List.mem_of_getElem? (i := 8) rfl, rfl⟩
    | 9, _ => exact ⟨_, List.mem_of_getElem? (i := 9) rfl, rfl⟩
    | n + 10, h => exact absurd h (by omega)
  obtain ⟨q, h3, h4⟩ := h2
  subst h4
  exact key q h3
theorem so_new {xi : Nat} (F : FX G p s mth args c (cM mi) (xM mi) (clsN (oM mi))) (hk : ∀ pc' ls' st' u', k pc' ls' st' u' = some rr → Wst G p l e R s mth args below meth c Q (xM mi) n0 s0 pc' ls' st' u') (hm : ∀ pc' ls' st' u', k pc' ls' st' u' = some rr → u'.1 ≤ rr.2.1 ∧ u'.2.1 ≤ rr.2.2.1) (hRc : rr.2.1 - n0 ≤ R.cells ∧ rr.2.2.1 - s0 ≤ R.slots) (hv : vOK mi pc (.new xi, nx, a, b, cc0, v, sw) = true) (hs : stpK (OA Q0) cf k (.new xi, nx, a, b, cc0, v, sw) ls st u = some rr) : Wst G p l e R s mth args below meth c Q (xM mi) n0 s0 pc ls st u := by
  obtain ⟨hx, hb, hml, hown, hts, hE⟩ := F
  have hKw := hE.2.2.2.2.2.2.2.2.2.2
  have hv : (dk (cM mi) pc (.new xi) 3 nx && (Nat.ble a 9 && (Nat.beq b (nF a) && fnd kCls (oM mi) xi a))) = true := hv
  rw [Bool.and_eq_true, Bool.and_eq_true, Bool.and_eq_true] at hv
  obtain ⟨hd, ha9, hbn, hcl⟩ := hv
  obtain ⟨hdec, rfl⟩ := dk_spec hd
  have ha : a < 10 := Nat.lt_succ_of_le (Nat.le_of_ble_eq_true ha9)
  have hbn := Nat.eq_of_beq_eq_true hbn
  subst hbn
  simp only [stpK] at hs
  obtain ⟨q, u', h1, h2⟩ := bN_some hs
  obtain ⟨hu, rfl, rfl⟩ := oN_some h1
  intro H locs lsA hR hS hL h0 h3
  obtain ⟨m1, m2⟩ := hm _ _ _ _ h2
  have m1 : u.1 + 1 ≤ rr.2.1 := m1
  have m2 : u.2.1 + nF a ≤ rr.2.2.1 := m2
  have hKn := hKw.1 a _ (vwCl_get a ha)
  obtain ⟨n1, n2⟩ := new_at ha
  refine W.newcK hx hb hown (hts _ (cls_at hcl)) (hts _ n1) (hts _ n2) rfl hdec (by omega) (by omega) hKn.2.1 hR.1 fun H1 kC hkC e1 z1 o1 => ?_
  have hsh : mH (mNew u (.inl a) (nF a)) u.1 = .inl a := upR_self _ _ _
  have hR1 : HR G (mNew u (.inl a) (nF a)) H1 := by
    refine hR.new hu ha z1 o1 ?_
    rw [cel_obj hsh]
    refine ⟨_, vwCl_get a ha, (u_born (tyF a) hts (lay_in (c := a) ha) hKn hkC e1 (tyF_ok ha)).to fun j hj => ?_⟩
    have hj : j < nF a := hj
    show defaultValue (tyF a j) = _
    rw [tyF_dv' ha hj]
    have e9 : vp_V ((List.range (nF a)).map (fvl G (mNew u (.inl a) (nF a)) a u.1)) j = fvl G (mNew u (.inl a) (nF a)) a u.1 j := by
      unfold vp_V
      rw [List.getD_eq_getElem?_getD]
      simp [hj]
    rw [e9]
    unfold fvl
    cases isRf (tyF a j)
    · show Value.int 0 = .int (upR (mI u) u.1 (fun _ => 0) u.1 j)
      rw [upR_self]
    · show Value.null = va_rf ((upR (mR u) u.1 (fun _ => none) u.1 j).map (adr G))
      rw [upR_self]
      rfl
  have hS1 : va_S (inA G) s.heap H1 locs := ⟨Nat.le_trans hS.1 (by rw [z1, hR.1]; omega), fun x g1 g2 => (o1 x (by rw [← hR.1]; exact Nat.lt_of_lt_of_le g1 hS.1)).trans (hS.2.1 x g1 g2), hS.2.2⟩
  have K := hk _ _ _ _ h2 H1 locs lsA hR1 hS1 hL (show n0 ≤ u.1 + 1 by omega) (show s0 ≤ u.2.1 + nF a by omega)
  have K : W p l e R s mth args below meth c H1 locs (u.1 + 1 - n0) (u.2.1 + nF a - s0) Q (F0 mth (pc + 3) lsA (cvv G (.ref u.1) :: st.map (cvv G))) := K
  rw [cvv_own hR1.2.1 (show u.1 < u.1 + 1 by omega), show u.1 + 1 - n0 = u.1 - n0 + 1 by omega, show u.2.1 + nF a - s0 = u.2.1 - s0 + nF a by omega] at K
  exact K
end
section
variable {G : Wd} {p : Program} {l : Launch} {e : Env} {R : Room} {s : State} {mth : MethodId} {args : Array Value} {below : List Frame} {meth : Method} {c : Code} {Q : State → Prop} {n0 s0 mi pc : Nat} {cf : Nat → List Value → Mem → Rs Mem} {k : Nat → Lo → List Value → Mem → Rs Mem} {ls : Lo} {st : List Value} {u : Mem} {rr : Option Value × Mem} {nx a b cc0 : Nat} {v : Int32} {sw : List (Int32 × Nat)}
theorem one_at {w : Cond} (h : w = .native arraycopyName ∨ w = .static arraycopyName ∨ w = .initialized "java/lang/System" ∨ w = .instanceMethod objectInit ∨ w = .arrayClass .int ∨ w = .arrayClass .byte ∨ w = .arrayClass .long ∨ w = .arrayClass .boolean) : w ∈ wG := by
  have h1 := kOne_ok
  simp only [Bool.and_eq_true] at h1
  obtain ⟨e1, e2, e3, e4, e5, e6, e7, e8⟩ := h1
  rcases h with h | h | h | h | h | h | h | h <;> subst h
  · exact kAt_mem e1
  · exact kAt_mem e2
  · exact kAt_mem e3
  · exact kAt_mem e4
  · exact kAt_mem e5
  · exact kAt_mem e6
  · exact kAt_mem e7
  · exact kAt_mem e8
theorem rng0_spec {x : Int32} {n : Nat} (h : Q0.2.1 x n = true) : ¬ x < 0 ∧ x.toNatClampNeg < n := by
  have h1 := rng_spec h
  unfold vp_in at h1
  exact ⟨fun z => h1 (Or.inl z), Nat.lt_of_not_le fun z => h1 (Or.inr z)⟩
theorem newarr {t : Nat} (ht : t < 4) {at_ : ArrayType} (hat : newarray.typeOf at_ = tyA t) (hcb : componentBytes (tyA t) ≤ 8) (harr : Cond.arrayClass (tyA t) ∈ wG) (hdv : ∀ (u : Mem) (r : Nat), (∀ j, mI u r j = 0) → (∀ j, mL u r j = 0) → ∀ n, vp_cell (wA G t) (n, cont G u t r) = arrV (wA G t) n (fun _ => defaultValue (tyA t))) (F : FX G p s mth args c (cM mi) (xM mi) (clsN (oM mi))) (hk : ∀ pc' ls' st' u', k pc' ls' st' u' = some rr → Wst G p l e R s mth args below meth c Q (xM mi) n0 s0 pc' ls' st' u') (hm : ∀ pc' ls' st' u', k pc' ls' st' u' = some rr → u'.1 ≤ rr.2.1 ∧ u'.2.1 ≤ rr.2.2.1) (hRc : rr.2.1 - n0 ≤ R.cells ∧ rr.2.2.1 - s0 ≤ R.slots) (hdec : decode (cM mi) pc = .ok (.newarray at_, 2)) {x : Int32} {st2 : List Value} {q : Nat} {u' : Mem} (hx2 : Q0.2.1 x 1000000 = true) (h1 : oN (OA Q0) u (.inr (t, x.toNatClampNeg)) x.toNatClampNeg = some (q, u')) (h2 : k (pc + 2) ls (.ref q :: st2) u' = some rr) : Wst G p l e R s mth args below meth c Q (xM mi) n0 s0 pc ls (.int x :: st2) u := by
  obtain ⟨hx, hb, hml, hown, hts, hE⟩ := F
  have hKw := hE.2.2.2.2.2.2.2.2.2.2
  obtain ⟨hu, rfl, rfl⟩ := oN_some h1
  obtain ⟨g1, g2⟩ := rng0_spec hx2
  intro H locs lsA hR hS hL h0 h3
  obtain ⟨m1, m2⟩ := hm _ _ _ _ h2
  have m1 : u.1 + 1 ≤ rr.2.1 := m1
  have m2 : u.2.1 + x.toNatClampNeg ≤ rr.2.2.1 := m2
  show W p l e R s mth args below meth c H locs (u.1 - n0) (u.2.1 - s0) Q (F0 mth pc lsA (.int x :: st2.map (cvv G)))
  refine va_newaK hx hb (by rw [hat]; exact hts _ harr) rfl hdec rfl g1 rfl (by rw [hat]; exact Nat.le_trans (Nat.mul_le_mul_left _ hcb) (by omega)) (by omega) (by omega) hR.1 fun H1 cA e1 z1 o1 _ hNm => ?_
  have hcA : cA = wA G t := by
    have h9 := (hKw.2 t _ (tysW_get (by omega))).2
    rw [hat] at hNm
    match t, ht with
    | 0, _ => exact Option.some.inj (hNm.symm.trans h9)
    | 1, _ => exact Option.some.inj (hNm.symm.trans h9)
    | 2, _ => exact Option.some.inj (hNm.symm.trans h9)
    | 3, _ => exact Option.some.inj (hNm.symm.trans h9)
    | n + 4, h => exact absurd h (by omega)
  subst hcA
  have hsh : mH (mNew u (.inr (t, x.toNatClampNeg)) x.toNatClampNeg) u.1 = .inr (t, x.toNatClampNeg) := upR_self _ _ _
  have hR1 : HR G (mNew u (.inr (t, x.toNatClampNeg)) x.toNatClampNeg) H1 := by
    refine hR.new hu (show t < 7 by omega) z1 o1 ?_
    rw [cel_arr hsh]
    show H1[wB G + u.1]? = some (vp_cell (wA G t) (x.toNatClampNeg, cont G (mNew u (.inr (t, x.toNatClampNeg)) x.toNatClampNeg) t u.1))
    rw [hdv _ _ (fun j => by
      show upR (mI u) u.1 (fun _ => 0) u.1 j = 0
      rw [upR_self]) (fun j => by
      show upR (mL u) u.1 (fun _ => 0) u.1 j = 0
      rw [upR_self]), e1, hat]
  have hS1 : va_S (inA G) s.heap H1 locs := ⟨Nat.le_trans hS.1 (by rw [z1, hR.1]; omega), fun x g1 g2 => (o1 x (by rw [← hR.1]; exact Nat.lt_of_lt_of_le g1 hS.1)).trans (hS.2.1 x g1 g2), hS.2.2⟩
  have K := hk _ _ _ _ h2 H1 locs lsA hR1 hS1 hL (show n0 ≤ u.1 + 1 by omega) (show s0 ≤ u.2.1 + x.toNatClampNeg by omega)
  have K : W p l e R s mth args below meth c H1 locs (u.1 + 1 - n0) (u.2.1 + x.toNatClampNeg - s0) Q (F0 mth (pc + 2) lsA (cvv G (.ref u.1) :: st2.map (cvv G))) := K
  rw [cvv_own hR1.2.1 (show u.1 < u.1 + 1 by omega), show u.1 + 1 - n0 = u.1 - n0 + 1 by omega, show u.2.1 + x.toNatClampNeg - s0 = u.2.1 - s0 + x.toNatClampNeg by omega] at K
  exact K
theorem dvI {t : Nat} (ht : t = 0 ∨ t = 1 ∨ t = 3) : ∀ (u : Mem) (r : Nat), (∀ j, mI u r j = 0) → (∀ j, mL u r j = 0) → ∀ n, vp_cell (wA G t) (n, cont G u t r) = arrV (wA G t) n (fun _ => defaultValue (tyA t)) := by
  intro u r hi _ n
  have h : mI u r = fun _ => 0 := funext hi
  rcases ht with rfl | rfl | rfl <;> (show arrV _ n (fun j => .int (mI u r j)) = _) <;> rw [h] <;> rfl
theorem dvL : ∀ (u : Mem) (r : Nat), (∀ j, mI u r j = 0) → (∀ j, mL u r j = 0) → ∀ n, vp_cell (wA G 2) (n, cont G u 2 r) = arrV (wA G 2) n (fun _ => defaultValue (tyA 2)) := by
  intro u r _ hi n
  have h : mL u r = fun _ => 0 := funext hi
  show arrV _ n (fun j => .long (mL u r j)) = _
  rw [h]
  rfl
theorem so_newarray {at_ : ArrayType} (F : FX G p s mth args c (cM mi) (xM mi) (clsN (oM mi))) (hk : ∀ pc' ls' st' u', k pc' ls' st' u' = some rr → Wst G p l e R s mth args below meth c Q (xM mi) n0 s0 pc' ls' st' u') (hm : ∀ pc' ls' st' u', k pc' ls' st' u' = some rr → u'.1 ≤ rr.2.1 ∧ u'.2.1 ≤ rr.2.2.1) (hRc : rr.2.1 - n0 ≤ R.cells ∧ rr.2.2.1 - s0 ≤ R.slots) (hv : vOK mi pc (.newarray at_, nx, a, b, cc0, v, sw) = true) (hs : stpK (OA Q0) cf k (.newarray at_, nx, a, b, cc0, v, sw) ls st u = some rr) : Wst G p l e R s mth args below meth c Q (xM mi) n0 s0 pc ls st u := by
  have hv : (dk (cM mi) pc (.newarray at_) 2 nx && (match (generalizing := false) at_ with
      | .int => Nat.beq a 0
      | .byte => Nat.beq a 1
      | .long => Nat.beq a 2
      | .boolean => Nat.beq a 3
      | _ => false)) = true := hv
  rw [Bool.and_eq_true] at hv
  obtain ⟨hd, hta⟩ := hv
  obtain ⟨hdec, rfl⟩ := dk_spec hd
  simp only [stpK] at hs
  split at hs
  · rename_i x st2
    obtain ⟨hx2, hs⟩ := bT_some hs
    obtain ⟨q, u', h1, h2⟩ := bN_some hs
    cases at_ with
    | int =>
      have hta := Nat.eq_of_beq_eq_true hta
      subst hta
      exact newarr (t := 0) (by omega) rfl (by decide) (one_at (by simp [tyA])) (dvI (Or.inl rfl)) F hk hm hRc hdec hx2 h1 h2
    | byte =>
      have hta := Nat.eq_of_beq_eq_true hta
      subst hta
      exact newarr (t := 1) (by omega) rfl (by decide) (one_at (by simp [tyA])) (dvI (Or.inr (Or.inl rfl))) F hk hm hRc hdec hx2 h1 h2
    | long =>
      have hta := Nat.eq_of_beq_eq_true hta
      subst hta
      exact newarr (t := 2) (by omega) rfl (by decide) (one_at (by simp [tyA])) dvL F hk hm hRc hdec hx2 h1 h2
    | boolean =>
      have hta := Nat.eq_of_beq_eq_true hta
      subst hta
      exact newarr (t := 3) (by omega) rfl (by decide) (one_at (by simp [tyA])) (dvI (Or.inr (Or.inr rfl))) F hk hm hRc hdec hx2 h1 h2
    | _ => cases hta
  · cases hs
theorem so_anewarray {xi : Nat} (F : FX G p s mth args c (cM mi) (xM mi) (clsN (oM mi))) (hk : ∀ pc' ls' st' u', k pc' ls' st' u' = some rr → Wst G p l e R s mth args below meth c Q (xM mi) n0 s0 pc' ls' st' u') (hm : ∀ pc' ls' st' u', k pc' ls' st' u' = some rr → u'.1 ≤ rr.2.1 ∧ u'.2.1 ≤ rr.2.2.1) (hRc : rr.2.1 - n0 ≤ R.cells ∧ rr.2.2.1 - s0 ≤ R.slots) (hv : vOK mi pc (.anewarray xi, nx, a, b, cc0, v, sw) = true) (hs : stpK (OA Q0) cf k (.anewarray xi, nx, a, b, cc0, v, sw) ls st u = some rr) : Wst G p l e R s mth args below meth c Q (xM mi) n0 s0 pc ls st u := by
  obtain ⟨hx, hb, hml, hown, hts, hE⟩ := F
  have hKw := hE.2.2.2.2.2.2.2.2.2.2
  have hAO := hE.2.2.2.2.2.2.2.2.1
  have hv : (dk (cM mi) pc (.anewarray xi) 3 nx && ((Nat.beq a 4 && fnd kCls (oM mi) xi 1) || ((Nat.beq a 5 && fnd kCls (oM mi) xi 7) || (Nat.beq a 6 && fnd kCls (oM mi) xi 5)))) = true := hv
  rw [Bool.and_eq_true, Bool.or_eq_true, Bool.or_eq_true, Bool.and_eq_true, Bool.and_eq_true, Bool.and_eq_true] at hv
  obtain ⟨hd, hta⟩ := hv
  obtain ⟨hdec, rfl⟩ := dk_spec hd
  have key : ∃ C : String, tyA a = .object C ∧ 4 ≤ a ∧ a < 7 ∧ Cond.classLink (clsN (oM mi)) xi C ∈ wG ∧ va_AO C s := by
    rcases hta with ⟨h1, h2⟩ | ⟨h1, h2⟩ | ⟨h1, h2⟩ <;> have h1 := Nat.eq_of_beq_eq_true h1 <;> subst h1 <;> have h2 := cls_at h2
    · exact ⟨RX1, rfl, by omega, by omega, h2, hAO.1⟩
    · exact ⟨RX7, rfl, by omega, by omega, h2, hAO.2.1⟩
    · exact ⟨RX5, rfl, by omega, by omega, h2, hAO.2.2⟩
  obtain ⟨C, hC, ha4, ha7, hcl, hover⟩ := key
  simp only [stpK] at hs
  split at hs
  · rename_i x st2
    obtain ⟨hx2, hs⟩ := bT_some hs
    obtain ⟨q, u', h1, h2⟩ := bN_some hs
    obtain ⟨hu, rfl, rfl⟩ := oN_some h1
    obtain ⟨g1, g2⟩ := rng0_spec hx2
    intro H locs lsA hR hS hL h0 h3
    obtain ⟨m1, m2⟩ := hm _ _ _ _ h2
    have m1 : u.1 + 1 ≤ rr.2.1 := m1
    have m2 : u.2.1 + x.toNatClampNeg ≤ rr.2.2.1 := m2
    show W p l e R s mth args below meth c H locs (u.1 - n0) (u.2.1 - s0) Q (F0 mth pc lsA (.int x :: st2.map (cvv G)))
    refine W.anew hx hb hown (hts _ hcl) (va_AO.use hover) rfl hdec rfl g1 (by omega) (by omega) (by omega) fun cA kA comp f1 f2 f3 f4 => ?_
    have hcA : cA = wA G a := by
      have h9 := (hKw.2 a _ (tysW_get ha7)).2
      have h9 : va_RA s (wA G a) (tyA a) := h9
      rw [hC] at h9
      obtain ⟨_, _, _, _, _, h9⟩ := h9
      exact Option.some.inj (f1.symm.trans h9)
    subst hcA
    generalize hH1 : H.push ({ cls := wA G a, slots := Array.replicate x.toNatClampNeg .null, vm := .none } : Cell) = H1
    have z1 : H1.size = wB G + u.1 + 1 := by rw [← hH1, Array.size_push, hR.1]
    have e1 : H1[wB G + u.1]? = some (arrV (wA G a) x.toNatClampNeg (fun _ => .null)) := by rw [← hH1, ← hR.1, Array.getElem?_push_size, ← arrV_new]
    have o1 : ∀ q : Nat, q < wB G + u.1 → H1[q]? = H[q]? := fun q hq => by rw [← hH1, Array.getElem?_push, if_neg (by rw [hR.1]; exact Nat.ne_of_lt hq)]
    have hsh : mH (mNew u (.inr (a, x.toNatClampNeg)) x.toNatClampNeg) u.1 = .inr (a, x.toNatClampNeg) := upR_self _ _ _
    have hct : cont G (mNew u (.inr (a, x.toNatClampNeg)) x.toNatClampNeg) a u.1 = .inr (.inr (.inr (.inr fun _ => none))) := by
      have h9 : mR (mNew u (.inr (a, x.toNatClampNeg)) x.toNatClampNeg) u.1 = fun _ => none := upR_self _ _ _
      rcases (show a = 4 ∨ a = 5 ∨ a = 6 by omega) with rfl | rfl | rfl <;> (unfold cont; rw [h9]; rfl)
    have hR1 : HR G (mNew u (.inr (a, x.toNatClampNeg)) x.toNatClampNeg) H1 := by
      refine hR.new hu (show a < 7 by omega) z1 o1 ?_
      rw [cel_arr hsh, hct]
      show H1[wB G + u.1]? = some (vp_cell _ _)
      rw [vp_cell_q]
      exact e1
    have hS1 : va_S (inA G) s.heap H1 locs := ⟨Nat.le_trans hS.1 (by rw [z1, hR.1]; omega), fun x g1 g2 => (o1 x (by rw [← hR.1]; exact Nat.lt_of_lt_of_le g1 hS.1)).trans (hS.2.1 x g1 g2), hS.2.2⟩
    have K := hk _ _ _ _ h2 H1 locs lsA hR1 hS1 hL (show n0 ≤ u.1 + 1 by omega) (show s0 ≤ u.2.1 + x.toNatClampNeg by omega)
    have K : W p l e R s mth args below meth c H1 locs (u.1 + 1 - n0) (u.2.1 + x.toNatClampNeg - s0) Q (F0 mth (pc + 3) lsA (cvv G (.ref u.1) :: st2.map (cvv G))) := K
    rw [cvv_own hR1.2.1 (show u.1 < u.1 + 1 by omega), show u.1 + 1 - n0 = u.1 - n0 + 1 by omega, show u.2.1 + x.toNatClampNeg - s0 = u.2.1 - s0 + x.toNatClampNeg by omega] at K
    rw [hR.1]
    exact K
  · cases hs
theorem room8_spec {st : List Value} (hZ : (wZ G).category = 1) (h : room8 st = true) : 2 * 0 + ((st.map (cvv G)).map fun v => v.category).sum ≤ 8 := by
  have h := Nat.le_of_ble_eq_true h
  have e : (st.map (cvv G)).map (fun v => v.category) = st.map fun v => v.category := by
    rw [List.map_map]
    exact List.map_congr_left fun v _ => cvv_cat G hZ v
  rw [e]
  omega
theorem so_objInit {xi : Nat} (hfr : 1 ≤ R.frames) (hlo : 60 ≤ R.locals) (F : FX G p s mth args c (cM mi) (xM mi) (clsN (oM mi))) (hk : ∀ pc' ls' st' u', k pc' ls' st' u' = some rr → Wst G p l e R s mth args below meth c Q (xM mi) n0 s0 pc' ls' st' u') (hv : vOK mi pc (.invokespecial xi, nx, a, b, 0, v, sw) = true) (hs : stpK (OA Q0) cf k (.invokespecial xi, nx, a, b, 0, v, sw) ls st u = some rr) : Wst G p l e R s mth args below meth c Q (xM mi) n0 s0 pc ls st u := by
  obtain ⟨hx, hb, hml, hown, hts, hE⟩ := F
  have hv : (dk (cM mi) pc (.invokespecial xi) 3 nx && fnd2 kObj (oM mi) xi) = true := hv
  rw [Bool.and_eq_true] at hv
  obtain ⟨hd, hob⟩ := hv
  obtain ⟨hdec, rfl⟩ := dk_spec hd
  obtain ⟨w, hw⟩ := fnd2_spec hob
  have hlk : Cond.methodLink (clsN (oM mi)) xi objectInit ∈ wG := kAt_mem (List.all_eq_true.mp kObj_ok _ hw)
  simp only [stpK] at hs
  split at hs
  · rename_i r st2
    obtain ⟨r, rfl⟩ : ∃ z : Nat, z = r := ⟨r, rfl⟩
    obtain ⟨h19, hs⟩ := bT_none hs
    have hr9 : r ≠ 1999 := fun z => by rw [z] at h19; cases h19
    obtain ⟨h8, h2⟩ := bT_some hs
    intro H locs lsA hR hS hL h0 h3
    have h8 := room8_spec (G := G) hE.cat h8
    have K : W p l e R s mth args below meth c H locs (u.1 - n0) (u.2.1 - s0) Q (F0 mth (pc + 3) lsA (st2.map (cvv G))) := hk _ _ _ _ h2 H locs lsA hR hS hL h0 h3
    have hcode : Cond.code objectInit ⟨#[0xb1]⟩ 1 none ∈ wG := wG_mem (List.mem_of_getElem? kObjC) rfl
    show W p l e R s mth args below meth c H locs (u.1 - n0) (u.2.1 - s0) Q (F0 mth pc lsA (cvv G (.ref r) :: st2.map (cvv G)))
    rw [cvv_ne hr9]
    exact W.objInit hx hb hown (hts _ hlk) (hts _ (one_at (by simp))) (hts _ hcode) rfl (by rw [hml]; exact hL.1) rfl hdec hfr (by show 2 * 0 + _ + 12 ≤ _; omega) K
  · cases hs
end
section
variable {G : Wd} {p : Program} {l : Launch} {e : Env} {R : Room} {s : State} {mth : MethodId} {args : Array Value} {below : List Frame} {meth : Method} {c : Code} {Q : State → Prop} {n0 s0 mi pc : Nat} {cf : Nat → List Value → Mem → Rs Mem} {k : Nat → Lo → List Value → Mem → Rs Mem} {ls : Lo} {st : List Value} {u : Mem} {rr : Option Value × Mem} {nx a b cc0 : Nat} {v : Int32} {sw : List (Int32 × Nat)}
theorem wcopy {α : Type} (mk : α → Value) {f g : Nat → α} {cA : ClassId} {ty : FieldType} {N0 N1 a0 a1 xi k0 k1 : Nat} {H : Heap} {locs : List Loc} {lsA : Array Slot} {rest : List Value} {A : Nat → Prop} (hfr : 1 ≤ R.frames) (hlo : 60 ≤ R.locals) (F : FX G p s mth args c (cM mi) (xM mi) (clsN (oM mi))) (hAr : ArrOfT s cA ty) (hprim : refKind ty = false) (hfit : ∀ z, fits ty (mk z) = true) (htk : ∀ (T : State) (cI : ClassId) z, T.takes cI (mk z)) (hS : va_S A s.heap H locs) (hA : A a1)
    (h0 : H[a0]? = some (arrV cA N0 (fun j => mk (f j)))) (h1 : H[a1]? = some (arrV cA N1 (fun j => mk (g j)))) {sp dp n : Int32} (g1 : ¬ sp < 0) (g2 : ¬ dp < 0) (g3 : ¬ n < 0) (g4 : sp.toNatClampNeg + n.toNatClampNeg ≤ N0) (g5 : dp.toNatClampNeg + n.toNatClampNeg ≤ N1) (hlk : Cond.methodLink (clsN (oM mi)) xi arraycopyName ∈ wG) (hsz : lsA.size = xM mi) (h8 : 2 * 0 + (rest.map fun v => v.category).sum ≤ 8) (hdec : decode (cM mi) pc = .ok (.invokestatic xi, 3))
    (kk : ∀ (H1 : Heap) (locs1 : List Loc), H1.size = H.size → (∀ q : Nat, q ≠ a1 → H1[q]? = H[q]?) → H1[a1]? = some (arrV cA N1 (fun j => mk (va_cpy f g sp.toNatClampNeg dp.toNatClampNeg n.toNatClampNeg j))) → va_S A s.heap H1 locs1 → W p l e R s mth args below meth c H1 locs1 k0 k1 Q (F0 mth (pc + 3) lsA rest)) : W p l e R s mth args below meth c H locs k0 k1 Q (F0 mth pc lsA (.int n :: .int dp :: .ref a1 :: .int sp :: .ref a0 :: rest)) := by
  obtain ⟨hx, hb, hml, hown, hts, hE⟩ := F
  have nn : ∀ z : Int32, ¬ z < 0 → z.toInt = (z.toNatClampNeg : Int) := by
    intro z hz
    have hz0 : (0 : Int) ≤ z.toInt := by
      have := Int32.not_lt.mp hz
      simpa using Int32.le_iff_toInt_le.mp this
    show z.toInt = ((z.toInt.toNat : Nat) : Int)
    omega
  have hnw : nativeFrameWords "java/lang/System" "arraycopy" 5 = 7 := by decide +kernel
  intro T hT X
  obtain ⟨-, kC0, hk0, cm0, hkk0⟩ := hAr N0 (fun j => mk (f j))
  obtain ⟨-, kC1, hk1, cm1, hkk1⟩ := hAr N1 (fun j => mk (g j))
  obtain ⟨vm', X', step⟩ := X.arraycopy hx hown (hts _ hlk) (hts _ (one_at (by simp))) (hts _ (one_at (by simp))) (hts _ (one_at (by simp))) (src := a0) (dst := a1) (cs := arrV cA N0 (fun j => mk (f j))) (cd := arrV cA N1 (fun j => mk (g j))) (srcPos := sp) (destPos := dp) (n := n) (by rw [hT]; exact h0) (by rw [hT]; exact h1)
    (fun _ h => by cases h) (fun _ h => by cases h) (fun h => by cases h) (fun h => by cases h) hk0 hk1 hkk0 hkk1 (by simp [hprim]) g1 g2 g3
    (by rw [nn sp g1, nn n g3, arrV_size]; omega)
    (by rw [nn dp g2, nn n g3, arrV_size]; omega)
    (fun vm₁ _ i hi => by
      have e : (arrV cA N0 (fun j => mk (f j))).slots.getD (sp.toNatClampNeg + i) .null = mk (f (sp.toNatClampNeg + i)) := by
        rw [Array.getD_eq_getD_getElem?, arrV_read _ _ (by omega)]
        rfl
      rw [e]
      exact ⟨hfit _, htk _ _ _⟩)
    (g := F0 mth pc lsA (.int n :: .int dp :: .ref a1 :: .int sp :: .ref a0 :: rest)) rfl (by rw [hml]; exact hsz) (rest := rest) rfl (by rw [hb]; exact hdec) hfr (by rw [hnw]; show 2 * 0 + _ + _ ≤ _; omega)
  have e1 : copied (arrV cA N0 (fun j => mk (f j))) (arrV cA N1 (fun j => mk (g j))) sp dp n = arrV cA N1 (fun j => mk (va_cpy f g sp.toNatClampNeg dp.toNatClampNeg n.toNatClampNeg j)) := va_copied mk cA cA f g g4
  rw [e1] at X' step
  have hl : a1 < H.size := (Array.getElem?_eq_some_iff.mp h1).1
  generalize hce : arrV cA N1 (fun j => mk (va_cpy f g sp.toNatClampNeg dp.toNatClampNeg n.toNatClampNeg j)) = ce at X' step kk
  have hheap : ((T.setVm vm').setCell a1 ce).heap = H.setIfInBounds a1 ce := by rw [← hT]; rfl
  have oq : ∀ q : Nat, q ≠ a1 → (H.setIfInBounds a1 ce)[q]? = H[q]? := fun q hq => by simp [Array.getElem?_setIfInBounds, Ne.symm hq]
  obtain ⟨t, b1, b2⟩ := kk _ _ (by simp) oq (show (H.setIfInBounds a1 ce)[a1]? = some _ by simp [Array.getElem?_setIfInBounds, hl]) ⟨by simp; exact hS.1, fun q g1 g2 => by
      rw [oq q (fun e => g2 (by rw [e]; exact hA))]
      exact hS.2.1 q g1 g2, fun q hq => by
      rcases List.mem_append.mp hq with h | h
      · exact hS.2.2 q h
      · obtain ⟨z, -, hz⟩ := List.mem_map.mp h
        rw [← hz]
        exact hA⟩ _ hheap X'
  exact ⟨t, step t b1, b2⟩
theorem okC_spec {t : Nat} {s d : Sh} {sp dp n : Int32} (h : okC Q0 t s d sp dp n = true) : ∃ x y, s = .inr (t, x) ∧ d = .inr (t, y) ∧ (¬ sp < 0 ∧ ¬ dp < 0 ∧ ¬ n < 0) ∧ sp.toNatClampNeg + n.toNatClampNeg ≤ x ∧ dp.toNatClampNeg + n.toNatClampNeg ≤ y := by
  unfold okC at h
  split at h
  · cases h
  · rename_i u1 x
    split at h
    · cases h
    · rename_i w y
      obtain ⟨h1, h2⟩ : Nat.beq u1 t = true ∧ bT (Nat.beq w t) (Q0.2.2.2.2 sp dp n x y) false = true := by
        cases hq : Nat.beq u1 t with
        | false => rw [hq] at h; cases h
        | true => rw [hq] at h; exact ⟨rfl, h⟩
      obtain ⟨h3, h4⟩ : Nat.beq w t = true ∧ Q0.2.2.2.2 sp dp n x y = true := by
        cases hq : Nat.beq w t with
        | false => rw [hq] at h2; cases h2
        | true => rw [hq] at h2; exact ⟨rfl, h2⟩
      have h4 : ((decide (0 ≤ sp) && (decide (0 ≤ dp) && decide (0 ≤ n))) && (decide (sp.toNatClampNeg + n.toNatClampNeg ≤ x) && decide (dp.toNatClampNeg + n.toNatClampNeg ≤ y))) = true := h4
      simp only [Bool.and_eq_true, decide_eq_true_eq] at h4
      obtain ⟨⟨a1, a2, a3⟩, a4, a5⟩ := h4
      rw [Nat.eq_of_beq_eq_true h1, Nat.eq_of_beq_eq_true h3]
      exact ⟨x, y, rfl, rfl, ⟨Int32.not_lt.mpr a1, Int32.not_lt.mpr a2, Int32.not_lt.mpr a3⟩, a4, a5⟩
theorem so_copy {xi c1 : Nat} (hc1 : c1 ≠ 0) (hfr : 1 ≤ R.frames) (hlo : 60 ≤ R.locals) (F : FX G p s mth args c (cM mi) (xM mi) (clsN (oM mi))) (hk : ∀ pc' ls' st' u', k pc' ls' st' u' = some rr → Wst G p l e R s mth args below meth c Q (xM mi) n0 s0 pc' ls' st' u') (hv : vOK mi pc (.invokestatic xi, nx, a, b, c1, v, sw) = true) (hs : stpK (OA Q0) cf k (.invokestatic xi, nx, a, b, c1, v, sw) ls st u = some rr) : Wst G p l e R s mth args below meth c Q (xM mi) n0 s0 pc ls st u := by
  obtain ⟨c1, rfl⟩ : ∃ z, c1 = z + 1 := ⟨c1 - 1, by omega⟩
  have hE := F.2.2.2.2.2
  have hKw := hE.2.2.2.2.2.2.2.2.2.2
  have hv : (dk (cM mi) pc (.invokestatic xi) 3 nx && (fnd2 kAcp (oM mi) xi && (Nat.beq a 0 || Nat.beq a 2))) = true := hv
  rw [Bool.and_eq_true, Bool.and_eq_true, Bool.or_eq_true] at hv
  obtain ⟨hd, hob, hta⟩ := hv
  obtain ⟨hdec, rfl⟩ := dk_spec hd
  obtain ⟨w, hw⟩ := fnd2_spec hob
  have hlk : Cond.methodLink (clsN (oM mi)) xi arraycopyName ∈ wG := kAt_mem (List.all_eq_true.mp kAcp_ok _ hw)
  simp only [stpK] at hs
  split at hs
  · rename_i n dp rd sp rs st2
    obtain ⟨rd, rfl⟩ : ∃ z : Nat, z = rd := ⟨rd, rfl⟩
    obtain ⟨rs, rfl⟩ : ∃ z : Nat, z = rs := ⟨rs, rfl⟩
    obtain ⟨h8, hs⟩ := bT_some hs
    obtain ⟨hok, h2⟩ := bT_some hs
    have h2 : k (pc + 3) ls st2 (mCpy u a rs sp.toNatClampNeg rd dp.toNatClampNeg n.toNatClampNeg) = some rr := h2
    obtain ⟨x, y, e1, e2, ⟨g1, g2, g3⟩, g4, g5⟩ := okC_spec hok
    have e1 : mH u rs = .inr (a, x) := e1
    have e2 : mH u rd = .inr (a, y) := e2
    intro H locs lsA hR hS hL h0 h3
    have h8 := room8_spec (G := G) hE.cat h8
    have ha10 : a < 10 := by rcases hta with h | h <;> rw [Nat.eq_of_beq_eq_true h] <;> omega
    have hrs := hR.2.1.ownA e1 ha10
    have hrd := hR.2.1.ownA e2 ha10
    have c0 := hR.2.2 rs _ (pw_get hrs)
    have c1 := hR.2.2 rd _ (pw_get hrd)
    rw [cel_arr e1] at c0
    rw [cel_arr e2] at c1
    show W p l e R s mth args below meth c H locs (u.1 - n0) (u.2.1 - s0) Q (F0 mth pc lsA (.int n :: .int dp :: cvv G (.ref rd) :: .int sp :: cvv G (.ref rs) :: st2.map (cvv G)))
    rw [cvv_own hR.2.1 hrs, cvv_own hR.2.1 hrd]
    have hA : inA G (wB G + rd) := by show wB G ≤ wB G + rd; omega
    rcases hta with h | h <;> have h := Nat.eq_of_beq_eq_true h <;> subst h
    · refine wcopy (fun z => Value.int z) (f := mI u rs) (g := mI u rd) (cA := wA G 0) (ty := .int) hfr hlo F (hKw.2 0 _ (tysW_get (by omega))).1 rfl (fun _ => rfl) (fun _ _ _ => trivial) hS hA c0 c1 g1 g2 g3 g4 g5 hlk hL.1 h8 hdec fun H1 locs1 z1 o1 v1 hS1 => ?_
      refine hk _ _ _ _ h2 H1 locs1 lsA (hR.put hrd ⟨hR.2.1.1, hR.2.1.2.1, fun q hq => ⟨(hR.2.1.2.2 q hq).1, fun j => ?_, (hR.2.1.2.2 q hq).2.2⟩⟩ rfl (fun j hj => cel_congr rfl (upR_ne hj) rfl rfl) z1 o1 ?_) hS1 hL h0 h3
      · have := hR.2.1.1.1
        show upR (mI u) rd _ q j = _
        rw [upR_ne (by omega)]
        exact (hR.2.1.2.2 q hq).2.1 j
      · rw [cel_arr (show mH (mCpy u 0 rs sp.toNatClampNeg rd dp.toNatClampNeg n.toNatClampNeg) rd = _ from e2)]
        show H1[wB G + rd]? = some (arrV (wA G 0) y fun j => .int (upR (mI u) rd _ rd j))
        rw [upR_self]
        exact v1
    · refine wcopy (fun z => Value.long z) (f := mL u rs) (g := mL u rd) (cA := wA G 2) (ty := .long) hfr hlo F (hKw.2 2 _ (tysW_get (by omega))).1 rfl (fun _ => rfl) (fun _ _ _ => trivial) hS hA c0 c1 g1 g2 g3 g4 g5 hlk hL.1 h8 hdec fun H1 locs1 z1 o1 v1 hS1 => ?_
      refine hk _ _ _ _ h2 H1 locs1 lsA (hR.put hrd ⟨hR.2.1.1, hR.2.1.2.1, hR.2.1.2.2⟩ rfl (fun j hj => cel_congr rfl rfl (upR_ne hj) rfl) z1 o1 ?_) hS1 hL h0 h3
      rw [cel_arr (show mH (mCpy u 2 rs sp.toNatClampNeg rd dp.toNatClampNeg n.toNatClampNeg) rd = _ from e2)]
      show H1[wB G + rd]? = some (arrV (wA G 2) y fun j => .long (upR (mL u) rd _ rd j))
      rw [upR_self]
      exact v1
  · cases hs
end
