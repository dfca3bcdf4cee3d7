/-! steps: writes of the memory -/
theorem bM_some {M : Type} {r : Option M} {f : M → Rs M} {x : Option Value × M} (h : bM r f = some x) : ∃ q, r = some q ∧ f q = some x := by
  cases r with
  | none => cases h
  | some q => exact ⟨q, rfl, h⟩
theorem up2_row {α : Type} {f : Nat → Nat → α} {k i j : Nat} {v : α} (h : j ≠ k) : up2 f k i v j = f j := by
  funext b
  unfold up2
  rw [if_neg h]
theorem up2_self {α : Type} (f : Nat → Nat → α) (k i : Nat) (v : α) : up2 f k i v k = fun j => if j = i then v else f k j := by
  funext b
  unfold up2
  rw [if_pos rfl]
theorem cel_congr {G : Wd} {u v : Mem} {j : Nat} (h1 : mH v j = mH u j) (h2 : mI v j = mI u j) (h3 : mL v j = mL u j) (h4 : mR v j = mR u j) : cel G v j = cel G u j := by
  have f : ∀ c, fvl G v c j = fvl G u c j := fun c => by
    funext i
    unfold fvl
    rw [h2, h4]
  have g : ∀ t, cont G v t j = cont G u t j := fun t => by
    unfold cont
    rw [h2, h3, h4]
  unfold cel
  rw [h1]
  split
  · rw [f]
  · rw [g]
theorem WF.putI {G : Wd} {u : Mem} (h : WF G u) {k : Nat} (hk : k < u.1) (i : Nat) (x : Int32) : WF G (mPutI u k i x) := by
  refine ⟨h.1, h.2.1, fun q hq => ⟨(h.2.2 q hq).1, fun j => ?_, (h.2.2 q hq).2.2⟩⟩
  have := h.1.1
  show up2 (mI u) k i x q j = _
  rw [up2_row (by omega)]
  exact (h.2.2 q hq).2.1 j
theorem WF.putL {G : Wd} {u : Mem} (h : WF G u) (k i : Nat) (x : Int64) : WF G (mPutL u k i x) := ⟨h.1, h.2.1, h.2.2⟩
theorem WF.putR {G : Wd} {u : Mem} (h : WF G u) {k : Nat} (hk : k < u.1) (i : Nat) {x : Nat} (hx : x ≠ 1999) : WF G (mPutR u k i x) := by
  have h0 := h.1.1
  refine ⟨⟨h.1.1, h.1.2.1, fun a b q hq => ?_⟩, h.2.1, fun q hq => ⟨(h.2.2 q hq).1, (h.2.2 q hq).2.1, ?_⟩⟩
  · have hq : up2 (mR u) k i (some x) a b = some q := hq
    unfold up2 at hq
    split at hq
    · split at hq
      · cases hq
        exact hx
      · exact h.1.2.2 _ _ _ hq
    · exact h.1.2.2 _ _ _ hq
  · show up2 (mR u) k i (some x) q 0 = _
    rw [up2_row (by omega)]
    exact (h.2.2 q hq).2.2
theorem HR.put {G : Wd} {u v : Mem} {H H1 : Heap} {k : Nat} (hR : HR G u H) (hk : k < u.1) (hW : WF G v) (hn : v.1 = u.1) (ho : ∀ j, j ≠ k → cel G v j = cel G u j) (z : H1.size = H.size) (oq : ∀ q : Nat, q ≠ wB G + k → H1[q]? = H[q]?) (e : va_at (wD G) vwCl (wB G + k, cel G v k) H1) : HR G v H1 := by
  refine ⟨by rw [z, hn]; exact hR.1, hW, ?_⟩
  have h := hR.2.2.set (pw_D G u) (pw_get hk) e oq
  rw [pw_set hn hk rfl ho] at h
  exact h
section
variable {G : Wd} {p : Program} {l : Launch} {e : Env} {R : Room} {s : State} {mth : MethodId} {args : Array Value} {below : List Frame} {meth : Method} {c : Code} {Q : State → Prop} {n0 s0 mi pc : Nat} {cf : Nat → List Value → Mem → Rs Mem} {k : Nat → Lo → List Value → Mem → Rs Mem} {ls : Lo} {st : List Value} {u : Mem} {rr : Option Value × Mem} {nx a b cc0 : Nat} {v : Int32} {sw : List (Int32 × Nat)}
theorem pI_def (u : Mem) (k i : Nat) (v : Int32) : pI (OA Q0) u k i v = mPutI u k i v := rfl
theorem pL_def (u : Mem) (k i : Nat) (v : Int64) : pL (OA Q0) u k i v = mPutL u k i v := rfl
theorem celI_ne {i j : Nat} {r : Nat} {y : Int32} (h : j ≠ r) : cel G (mPutI u r i y) j = cel G u j := cel_congr rfl (up2_row h) rfl rfl
theorem celL_ne {i j : Nat} {r : Nat} {y : Int64} (h : j ≠ r) : cel G (mPutL u r i y) j = cel G u j := cel_congr rfl rfl (up2_row h) rfl
theorem celR_ne {i j : Nat} {r y : Nat} (h : j ≠ r) : cel G (mPutR u r i y) j = cel G u j := cel_congr rfl rfl rfl (up2_row h)
theorem so_iastore (F : FX G p s mth args c (cM mi) (xM mi) (clsN (oM mi))) (hk : ∀ pc' ls' st' u', k pc' ls' st' u' = some rr → Wst G p l e R s mth args below meth c Q (xM mi) n0 s0 pc' ls' st' u')  (hv : vOK mi pc (.iastore, nx, a, b, cc0, v, sw) = true) (hs : stpK (OA Q0) cf k (.iastore, nx, a, b, cc0, v, sw) ls st u = some rr) : Wst G p l e R s mth args below meth c Q (xM mi) n0 s0 pc ls st u := by
  obtain ⟨hx, hb, hml, hown, hts, hE⟩ := F
  obtain ⟨hdec, rfl⟩ := dk_spec hv
  simp only [stpK] at hs
  split at hs
  · rename_i y x r st2
    obtain ⟨r, rfl⟩ : ∃ z : Nat, z = r := ⟨r, rfl⟩
    obtain ⟨h1, h2⟩ := bT_some hs
    obtain ⟨n, hsh, hin⟩ := ok1_spec h1
    have hsh : mH u r = .inr (0, n) := hsh
    have h2 : k (pc + 1) ls st2 (mPutI u r x.toNatClampNeg y) = some rr := h2
    intro H locs lsA hR hS hL h0 h3
    have hr := hR.2.1.ownA hsh (by omega)
    show W p l e R s mth args below meth c H locs (u.1 - n0) (u.2.1 - s0) Q (F0 mth pc lsA (.int y :: .int x :: cvv G (.ref r) :: st2.map (cvv G)))
    rw [cvv_own hR.2.1 hr]
    have ha := pw_get (G := G) hr
    rw [cel_arr hsh] at ha
    refine W.iast hx hb (hR.2.2 r _ ha) ((hE.2.2.2.2.2.2.2.2.2.2.2 0 _ (tysW_get (by omega))).1 n _) (fun q => by cases q) (by show ¬ (x < 0 ∨ (arrV _ _ _).slots.size ≤ _); rw [arrV_size]; exact hin) rfl rfl hdec fun H1 e1 z oq => ?_
    refine hk _ _ _ _ h2 H1 _ lsA (hR.put hr (hR.2.1.putI hr _ _) rfl (fun j hj => celI_ne hj) z oq ?_) (hS.put z oq (by show wB G ≤ wB G + r; omega)) hL h0 h3
    have hc : mH (mPutI u r x.toNatClampNeg y) r = .inr (0, n) := hsh
    rw [cel_arr hc]
    show H1[wB G + r]? = some (vp_cell _ _)
    rw [e1]
    show some ((vp_cell _ (n, .inl (mI u r))).setSlot _ _) = some (vp_cell _ (n, .inl (up2 (mI u) r x.toNatClampNeg y r)))
    rw [up2_self, vp_cell_i, vp_cell_i, arrV_store]
    congr 2
    funext q
    by_cases hq : q = x.toNatClampNeg
    · subst hq
      simp [updV]
    · simp [updV, hq]
  · cases hs
theorem so_lastore (F : FX G p s mth args c (cM mi) (xM mi) (clsN (oM mi))) (hk : ∀ pc' ls' st' u', k pc' ls' st' u' = some rr → Wst G p l e R s mth args below meth c Q (xM mi) n0 s0 pc' ls' st' u')  (hv : vOK mi pc (.lastore, nx, a, b, cc0, v, sw) = true) (hs : stpK (OA Q0) cf k (.lastore, nx, a, b, cc0, v, sw) ls st u = some rr) : Wst G p l e R s mth args below meth c Q (xM mi) n0 s0 pc ls st u := by
  obtain ⟨hx, hb, hml, hown, hts, hE⟩ := F
  obtain ⟨hdec, rfl⟩ := dk_spec hv
  simp only [stpK] at hs
  split at hs
  · rename_i y x r st2
    obtain ⟨r, rfl⟩ : ∃ z : Nat, z = r := ⟨r, rfl⟩
    obtain ⟨h1, h2⟩ := bT_some hs
    obtain ⟨n, hsh, hin⟩ := ok1_spec h1
    have hsh : mH u r = .inr (2, n) := hsh
    have h2 : k (pc + 1) ls st2 (mPutL u r x.toNatClampNeg y) = some rr := h2
    intro H locs lsA hR hS hL h0 h3
    have hr := hR.2.1.ownA hsh (by omega)
    show W p l e R s mth args below meth c H locs (u.1 - n0) (u.2.1 - s0) Q (F0 mth pc lsA (.long y :: .int x :: cvv G (.ref r) :: st2.map (cvv G)))
    rw [cvv_own hR.2.1 hr]
    have ha := pw_get (G := G) hr
    rw [cel_arr hsh] at ha
    refine W.last hx hb (hR.2.2 r _ ha) ((hE.2.2.2.2.2.2.2.2.2.2.2 2 _ (tysW_get (by omega))).1 n _) (fun q => by cases q) (by show ¬ (x < 0 ∨ (arrV _ _ _).slots.size ≤ _); rw [arrV_size]; exact hin) rfl rfl hdec fun H1 e1 z oq => ?_
    refine hk _ _ _ _ h2 H1 _ lsA (hR.put hr (hR.2.1.putL _ _ _) rfl (fun j hj => celL_ne hj) z oq ?_) (hS.put z oq (by show wB G ≤ wB G + r; omega)) hL h0 h3
    have hc : mH (mPutL u r x.toNatClampNeg y) r = .inr (2, n) := hsh
    rw [cel_arr hc]
    show H1[wB G + r]? = some (vp_cell _ _)
    rw [e1]
    show some ((vp_cell _ (n, (.inr (.inl (mL u r))))).setSlot _ _) = some (vp_cell _ (n, (.inr <| .inl <| (up2 (mL u) r x.toNatClampNeg y r))))
    rw [up2_self, vp_cell_l, vp_cell_l, arrV_store]
    congr 2
    funext q
    by_cases hq : q = x.toNatClampNeg
    · subst hq
      simp [updV]
    · simp [updV, hq]
  · cases hs
theorem so_bastore (F : FX G p s mth args c (cM mi) (xM mi) (clsN (oM mi))) (hk : ∀ pc' ls' st' u', k pc' ls' st' u' = some rr → Wst G p l e R s mth args below meth c Q (xM mi) n0 s0 pc' ls' st' u')  (hv : vOK mi pc (.bastore, nx, a, b, cc0, v, sw) = true) (hs : stpK (OA Q0) cf k (.bastore, nx, a, b, cc0, v, sw) ls st u = some rr) : Wst G p l e R s mth args below meth c Q (xM mi) n0 s0 pc ls st u := by
  obtain ⟨hx, hb, hml, hown, hts, hE⟩ := F
  have hv : (dk (cM mi) pc .bastore 1 nx && (Nat.beq a 1 || Nat.beq a 3)) = true := hv
  rw [Bool.and_eq_true, Bool.or_eq_true] at hv
  obtain ⟨hv, hta⟩ := hv
  obtain ⟨hdec, rfl⟩ := dk_spec hv
  simp only [stpK] at hs
  split at hs
  · rename_i y x r st2
    obtain ⟨r, rfl⟩ : ∃ z : Nat, z = r := ⟨r, rfl⟩
    obtain ⟨h1, h2⟩ := bT_some hs
    obtain ⟨n, hsh, hin⟩ := ok1_spec h1
    have hsh : mH u r = .inr (a, n) := hsh
    intro H locs lsA hR hS hL h0 h3
    have hr := hR.2.1.ownA hsh (by rcases hta with q | q <;> have := Nat.eq_of_beq_eq_true q <;> omega)
    show W p l e R s mth args below meth c H locs (u.1 - n0) (u.2.1 - s0) Q (F0 mth pc lsA (.int y :: .int x :: cvv G (.ref r) :: st2.map (cvv G)))
    rw [cvv_own hR.2.1 hr]
    rcases hta with q | q <;> have q := Nat.eq_of_beq_eq_true q <;> subst q
    · have hsh : mH u r = .inr (1, n) := hsh
      have h2 : k (pc + 1) ls st2 (mPutI u r x.toNatClampNeg (nar 1 y)) = some rr := h2
      have ha := pw_get (G := G) hr
      rw [cel_arr hsh] at ha
      refine W.bast hx hb (hR.2.2 r _ ha) ((hE.2.2.2.2.2.2.2.2.2.2.2 1 _ (tysW_get (by omega))).1 n _) (fun q => by cases q) (by show ¬ (x < 0 ∨ (arrV _ _ _).slots.size ≤ _); rw [arrV_size]; exact hin) rfl rfl hdec fun H1 e1 z oq => ?_
      refine hk _ _ _ _ h2 H1 _ lsA (hR.put hr (hR.2.1.putI hr _ _) rfl (fun j hj => celI_ne hj) z oq ?_) (hS.put z oq (by show wB G ≤ wB G + r; omega)) hL h0 h3
      have hc : mH (mPutI u r x.toNatClampNeg (nar 1 y)) r = .inr (1, n) := hsh
      rw [cel_arr hc]
      show H1[wB G + r]? = some (vp_cell _ _)
      rw [e1]
      show some ((vp_cell _ (n, .inl (mI u r))).setSlot _ (.int (nar 1 y))) = some (vp_cell _ (n, .inl (up2 (mI u) r x.toNatClampNeg (nar 1 y) r)))
      rw [up2_self, vp_cell_i, vp_cell_i, arrV_store]
      congr 2
      funext q
      by_cases hq : q = x.toNatClampNeg
      · subst hq
        simp [updV]
      · simp [updV, hq]
    · have hsh : mH u r = .inr (3, n) := hsh
      have h2 : k (pc + 1) ls st2 (mPutI u r x.toNatClampNeg (nar 3 y)) = some rr := h2
      have ha := pw_get (G := G) hr
      rw [cel_arr hsh] at ha
      refine W.zast hx hb (hR.2.2 r _ ha) ((hE.2.2.2.2.2.2.2.2.2.2.2 3 _ (tysW_get (by omega))).1 n _) (fun q => by cases q) (by show ¬ (x < 0 ∨ (arrV _ _ _).slots.size ≤ _); rw [arrV_size]; exact hin) rfl rfl hdec fun H1 e1 z oq => ?_
      refine hk _ _ _ _ h2 H1 _ lsA (hR.put hr (hR.2.1.putI hr _ _) rfl (fun j hj => celI_ne hj) z oq ?_) (hS.put z oq (by show wB G ≤ wB G + r; omega)) hL h0 h3
      have hc : mH (mPutI u r x.toNatClampNeg (nar 3 y)) r = .inr (3, n) := hsh
      rw [cel_arr hc]
      show H1[wB G + r]? = some (vp_cell _ _)
      rw [e1]
      show some ((vp_cell _ (n, .inl (mI u r))).setSlot _ (.int (nar 3 y))) = some (vp_cell _ (n, .inl (up2 (mI u) r x.toNatClampNeg (nar 3 y) r)))
      rw [up2_self, vp_cell_i, vp_cell_i, arrV_store]
      congr 2
      funext q
      by_cases hq : q = x.toNatClampNeg
      · subst hq
        simp [updV]
      · simp [updV, hq]
  · cases hs
theorem adr_own {G : Wd} {u : Mem} (h : WF G u) {r : Nat} (hr : r < u.1) : adr G r = wB G + r := by
  have := cvv_own h hr
  rw [cvv_ne (by have := h.1.1; omega)] at this
  exact Value.ref.inj this
theorem so_aastore (F : FX G p s mth args c (cM mi) (xM mi) (clsN (oM mi))) (hk : ∀ pc' ls' st' u', k pc' ls' st' u' = some rr → Wst G p l e R s mth args below meth c Q (xM mi) n0 s0 pc' ls' st' u')  (hv : vOK mi pc (.aastore, nx, a, b, cc0, v, sw) = true) (hs : stpK (OA Q0) cf k (.aastore, nx, a, b, cc0, v, sw) ls st u = some rr) : Wst G p l e R s mth args below meth c Q (xM mi) n0 s0 pc ls st u := by
  obtain ⟨hx, hb, hml, hown, hts, hE⟩ := F
  have hKw := hE.2.2.2.2.2.2.2.2.2.2
  have hv : (dk (cM mi) pc .aastore 1 nx && ((Nat.beq a 4 && Nat.beq b 1) || ((Nat.beq a 5 && Nat.beq b 7) || (Nat.beq a 6 && Nat.beq b 5)))) = true := hv
  rw [Bool.and_eq_true, Bool.or_eq_true, Bool.or_eq_true, Bool.and_eq_true, Bool.and_eq_true, Bool.and_eq_true] at hv
  obtain ⟨hv, hta⟩ := hv
  obtain ⟨hdec, rfl⟩ := dk_spec hv
  have hta : (a = 4 ∧ b = 1) ∨ (a = 5 ∧ b = 7) ∨ (a = 6 ∧ b = 5) := by
    rcases hta with ⟨q1, q2⟩ | ⟨q1, q2⟩ | ⟨q1, q2⟩
    · exact Or.inl ⟨Nat.eq_of_beq_eq_true q1, Nat.eq_of_beq_eq_true q2⟩
    · exact Or.inr (Or.inl ⟨Nat.eq_of_beq_eq_true q1, Nat.eq_of_beq_eq_true q2⟩)
    · exact Or.inr (Or.inr ⟨Nat.eq_of_beq_eq_true q1, Nat.eq_of_beq_eq_true q2⟩)
  simp only [stpK] at hs
  split at hs
  · rename_i q x r st2
    obtain ⟨r, rfl⟩ : ∃ z : Nat, z = r := ⟨r, rfl⟩
    obtain ⟨q, rfl⟩ : ∃ z : Nat, z = q := ⟨q, rfl⟩
    obtain ⟨h1, h2⟩ := bT_some hs
    obtain ⟨h2, h3⟩ := bT_some h2
    obtain ⟨u', h3, h4⟩ := bM_some h3
    obtain ⟨n, hsh, hin⟩ := ok1_spec h1
    have hsh : mH u r = .inr (a, n) := hsh
    have h2 : okO (mH u q) b = true := h2
    have h3 : bT (Nat.beq q 1999) none (some (mPutR u r x.toNatClampNeg q)) = some u' := h3
    have hq9 : q ≠ 1999 := fun z => by rw [z] at h3; cases h3
    have h9 : Nat.beq q 1999 = false := by
      cases z : Nat.beq q 1999 with
      | false => rfl
      | true => exact absurd (Nat.eq_of_beq_eq_true z) hq9
    rw [h9] at h3
    have h3 : some (mPutR u r x.toNatClampNeg q) = some u' := h3
    cases h3
    intro H locs lsA hR hS hL h0 h3
    have hr := hR.2.1.ownA hsh (by omega)
    show W p l e R s mth args below meth c H locs (u.1 - n0) (u.2.1 - s0) Q (F0 mth pc lsA (cvv G (.ref q) :: .int x :: cvv G (.ref r) :: st2.map (cvv G)))
    rcases hta with ⟨e1, e2⟩ | ⟨e1, e2⟩ | ⟨e1, e2⟩ <;> subst e1 <;> subst e2
    · have hsh : mH u r = .inr (4, n) := hsh
      have hshq : mH u q = .inl 1 := okO_spec h2
      have hq := hR.2.1.own hshq (by omega)
      rw [cvv_own hR.2.1 hr, cvv_own hR.2.1 hq]
      have ha := pw_get (G := G) hr
      rw [cel_arr hsh] at ha
      have hvv := pw_get (G := G) hq
      rw [cel_obj hshq] at hvv
      have hlt : x.toNatClampNeg < n := Nat.not_le.mp fun z => hin (Or.inr z)
      have h00 : ¬ x < 0 := fun z => hin (Or.inl z)
      obtain ⟨r', hr', cellV, g1, g2, g3, -⟩ := hR.2.2 q _ hvv
      have hcls := (hKw.1 1 _ (vwCl_get 1 (by omega))).2
      obtain ⟨kA, comp, k1, k2, k3, -⟩ := (hKw.2 4 _ (tysW_get (by omega))).2
      have hcomp : comp = (wD G).1 1 := Option.some.inj (k3.symm.trans hcls.1)
      subst hcomp
      obtain ⟨kC, hkC, -⟩ := hcls.2
      refine W.aast hx hb (hR.2.2 r _ ha) (fun z h => by cases h) (fun h => by cases h) k1 k2 rfl hkC ⟨h00, by show _ < (arrV _ _ _).slots.size; rw [arrV_size]; exact hlt⟩ g1 (fun z h => by rw [g3] at h; cases h) (by rw [g2]; exact hkC) (by rw [g2]; exact va_assign hcls) rfl rfl hdec fun H1 e1 z oq => ?_
      refine hk _ _ _ _ h4 H1 _ lsA (hR.put hr (hR.2.1.putR hr _ hq9) rfl (fun j hj => celR_ne hj) z oq ?_) (hS.put z oq (by show wB G ≤ wB G + r; omega)) hL h0 h3
      have hc : mH (mPutR u r x.toNatClampNeg q) r = .inr (4, n) := hsh
      rw [cel_arr hc]
      show H1[wB G + r]? = some (vp_cell _ _)
      rw [e1]
      show some ((vp_cell _ (n, .inr (.inr (.inr (.inr fun j => (mR u r j).map (adr G)))))).setSlot _ (.ref (wB G + q))) = some (vp_cell _ (n, .inr (.inr (.inr (.inr fun j => ((up2 (mR u) r x.toNatClampNeg (some q)) r j).map (adr G))))))
      rw [up2_self, vp_cell_q, vp_cell_q, arrV_store]
      congr 2
      funext j
      by_cases hj : j = x.toNatClampNeg
      · subst hj
        simp [updV, va_rf, adr_own hR.2.1 hq]
      · simp [updV, hj]
    · have hsh : mH u r = .inr (5, n) := hsh
      have hshq : mH u q = .inl 7 := okO_spec h2
      have hq := hR.2.1.own hshq (by omega)
      rw [cvv_own hR.2.1 hr, cvv_own hR.2.1 hq]
      have ha := pw_get (G := G) hr
      rw [cel_arr hsh] at ha
      have hvv := pw_get (G := G) hq
      rw [cel_obj hshq] at hvv
      have hlt : x.toNatClampNeg < n := Nat.not_le.mp fun z => hin (Or.inr z)
      have h00 : ¬ x < 0 := fun z => hin (Or.inl z)
      obtain ⟨r', hr', cellV, g1, g2, g3, -⟩ := hR.2.2 q _ hvv
      have hcls := (hKw.1 7 _ (vwCl_get 7 (by omega))).2
      obtain ⟨kA, comp, k1, k2, k3, -⟩ := (hKw.2 5 _ (tysW_get (by omega))).2
      have hcomp : comp = (wD G).1 7 := Option.some.inj (k3.symm.trans hcls.1)
      subst hcomp
      obtain ⟨kC, hkC, -⟩ := hcls.2
      refine W.aast hx hb (hR.2.2 r _ ha) (fun z h => by cases h) (fun h => by cases h) k1 k2 rfl hkC ⟨h00, by show _ < (arrV _ _ _).slots.size; rw [arrV_size]; exact hlt⟩ g1 (fun z h => by rw [g3] at h; cases h) (by rw [g2]; exact hkC) (by rw [g2]; exact va_assign hcls) rfl rfl hdec fun H1 e1 z oq => ?_
      refine hk _ _ _ _ h4 H1 _ lsA (hR.put hr (hR.2.1.putR hr _ hq9) rfl (fun j hj => celR_ne hj) z oq ?_) (hS.put z oq (by show wB G ≤ wB G + r; omega)) hL h0 h3
      have hc : mH (mPutR u r x.toNatClampNeg q) r = .inr (5, n) := hsh
      rw [cel_arr hc]
      show H1[wB G + r]? = some (vp_cell _ _)
      rw [e1]
      show some ((vp_cell _ (n, .inr (.inr (.inr (.inr fun j => (mR u r j).map (adr G)))))).setSlot _ (.ref (wB G + q))) = some (vp_cell _ (n, .inr (.inr (.inr (.inr fun j => ((up2 (mR u) r x.toNatClampNeg (some q)) r j).map (adr G))))))
      rw [up2_self, vp_cell_q, vp_cell_q, arrV_store]
      congr 2
      funext j
      by_cases hj : j = x.toNatClampNeg
      · subst hj
        simp [updV, va_rf, adr_own hR.2.1 hq]
      · simp [updV, hj]
    · have hsh : mH u r = .inr (6, n) := hsh
      have hshq : mH u q = .inl 5 := okO_spec h2
      have hq := hR.2.1.own hshq (by omega)
      rw [cvv_own hR.2.1 hr, cvv_own hR.2.1 hq]
      have ha := pw_get (G := G) hr
      rw [cel_arr hsh] at ha
      have hvv := pw_get (G := G) hq
      rw [cel_obj hshq] at hvv
      have hlt : x.toNatClampNeg < n := Nat.not_le.mp fun z => hin (Or.inr z)
      have h00 : ¬ x < 0 := fun z => hin (Or.inl z)
      obtain ⟨r', hr', cellV, g1, g2, g3, -⟩ := hR.2.2 q _ hvv
      have hcls := (hKw.1 5 _ (vwCl_get 5 (by omega))).2
      obtain ⟨kA, comp, k1, k2, k3, -⟩ := (hKw.2 6 _ (tysW_get (by omega))).2
      have hcomp : comp = (wD G).1 5 := Option.some.inj (k3.symm.trans hcls.1)
      subst hcomp
      obtain ⟨kC, hkC, -⟩ := hcls.2
      refine W.aast hx hb (hR.2.2 r _ ha) (fun z h => by cases h) (fun h => by cases h) k1 k2 rfl hkC ⟨h00, by show _ < (arrV _ _ _).slots.size; rw [arrV_size]; exact hlt⟩ g1 (fun z h => by rw [g3] at h; cases h) (by rw [g2]; exact hkC) (by rw [g2]; exact va_assign hcls) rfl rfl hdec fun H1 e1 z oq => ?_
      refine hk _ _ _ _ h4 H1 _ lsA (hR.put hr (hR.2.1.putR hr _ hq9) rfl (fun j hj => celR_ne hj) z oq ?_) (hS.put z oq (by show wB G ≤ wB G + r; omega)) hL h0 h3
      have hc : mH (mPutR u r x.toNatClampNeg q) r = .inr (6, n) := hsh
      rw [cel_arr hc]
      show H1[wB G + r]? = some (vp_cell _ _)
      rw [e1]
      show some ((vp_cell _ (n, .inr (.inr (.inr (.inr fun j => (mR u r j).map (adr G)))))).setSlot _ (.ref (wB G + q))) = some (vp_cell _ (n, .inr (.inr (.inr (.inr fun j => ((up2 (mR u) r x.toNatClampNeg (some q)) r j).map (adr G))))))
      rw [up2_self, vp_cell_q, vp_cell_q, arrV_store]
      congr 2
      funext j
      by_cases hj : j = x.toNatClampNeg
      · subst hj
        simp [updV, va_rf, adr_own hR.2.1 hq]
      · simp [updV, hj]
  · cases hs
end
