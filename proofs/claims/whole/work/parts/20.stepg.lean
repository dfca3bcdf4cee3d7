/-! steps: fields written -/
theorem tyF_ok : ∀ {c : Nat}, c < 10 → ∀ k, k < nF c → parseFieldDescriptor (tF c k).2.2.1 = some (tyF c k)
  | 0, _ => tyX0_ok
  | 1, _ => tyX1_ok
  | 2, _ => tyX2_ok
  | 3, _ => tyX3_ok
  | 4, _ => tyX4_ok
  | 5, _ => tyX5_ok
  | 6, _ => tyX6_ok
  | 7, _ => tyX7_ok
  | 8, _ => tyX8_ok
  | 9, _ => tyX9_ok
  | n + 10, h => absurd h (by omega)
theorem tF_nm : ∀ {c : Nat}, c < 10 → ∀ a, a < nF c → ∀ b, b < nF c → a ≠ b → (tF c a).2.1 ≠ (tF c b).2.1
  | 0, _ => by decide +kernel
  | 1, _ => by decide +kernel
  | 2, _ => by decide +kernel
  | 3, _ => by decide +kernel
  | 4, _ => by decide +kernel
  | 5, _ => by decide +kernel
  | 6, _ => by decide +kernel
  | 7, _ => by decide +kernel
  | 8, _ => by decide +kernel
  | 9, _ => by decide +kernel
  | n + 10, h => absurd h (by omega)
theorem up2_eq {α : Type} (f : Nat → Nat → α) (k i : Nat) (v : α) : up2 f k i v k i = v := by
  unfold up2
  rw [if_pos rfl, if_pos rfl]
theorem up2_ne {α : Type} {f : Nat → Nat → α} {k i j : Nat} {v : α} (h : j ≠ i) : up2 f k i v k j = f k j := by
  unfold up2
  rw [if_pos rfl, if_neg h]
theorem celK {G : Wd} {u v : Mem} {r c b : Nat} {w : Value} (hs : mH u r = .inl c) (hv : mH v r = .inl c) (hb : fvl G v c r b = w) (ho : ∀ j, j ≠ b → fvl G v c r j = fvl G u c r j) : cel G v r = .inr (c, ((List.range (nF c)).map (fvl G u c r)).set b w) := by
  rw [cel_obj hv]
  congr 2
  apply List.ext_getElem?
  intro j
  by_cases h : j = b
  · subst h
    by_cases hj : j < nF c
    · simp [hj, hb]
    · simp [hj]
  · rw [List.getElem?_set_ne (Ne.symm h)]
    by_cases hj : j < nF c
    · simp [hj, ho j h]
    · simp [hj]
section
variable {G : Wd} {p : Program} {l : Launch} {e : Env} {R : Room} {s : State} {mth : MethodId} {args : Array Value} {below : List Frame} {meth : Method} {c : Code} {Q : State → Prop} {n0 s0 mi pc : Nat} {cf : Nat → List Value → Mem → Rs Mem} {k : Nat → Lo → List Value → Mem → Rs Mem} {ls : Lo} {st : List Value} {u : Mem} {rr : Option Value × Mem} {nx a b cc0 : Nat} {v : Int32} {sw : List (Int32 × Nat)}
theorem wput {xi : Nat} (F : FX G p s mth args c (cM mi) (xM mi) (clsN (oM mi))) (hnm : meth.name = (yM mi).name) (ha : a < 10) (hlk : Cond.fieldLink (clsN (oM mi)) xi (tF a b).1 (tF a b).2.1 (tF a b).2.2.1 ∈ wG) (hb2 : b < nF a) (hfin : bT (tF a b).2.2.2 (decide ((yM mi).name = "<init>") && decide ((tF a b).1 = clsN (oM mi))) true = true) {w : Value} (hn : narrow (tyF a b) w = w) (hfit : fits (tyF a b) w = true) (hdec : decode (cM mi) pc = .ok (.putfield xi, 3)) {H : Heap} {locs : List Loc} {lsA : Array Slot} {rest : List Value} {r k0 k1 : Nat} (hR : HR G u H) (hS : va_S (inA G) s.heap H locs) (hsh : mH u r = .inl a)
    (kk : ∀ (H1 : Heap) (locs1 : List Loc), H1.size = H.size → (∀ q : Nat, q ≠ wB G + r → H1[q]? = H[q]?) → va_at (wD G) vwCl (wB G + r, .inr (a, ((List.range (nF a)).map (fvl G u a r)).set b w)) H1 → va_S (inA G) s.heap H1 locs1 → W p l e R s mth args below meth c H1 locs1 k0 k1 Q (F0 mth (pc + 3) lsA rest)) : W p l e R s mth args below meth c H locs k0 k1 Q (F0 mth pc lsA (w :: cvv G (.ref r) :: rest)) := by
  obtain ⟨hx, hb, hml, hown, hts, hE⟩ := F
  have hKw := hE.2.2.2.2.2.2.2.2.2.2
  have hr := hR.2.1.own hsh ha
  rw [cvv_own hR.2.1 hr]
  have hc := vwCl_get a ha
  have hap := va_apart (own := "") hts (lay_in (c := a) ha) (tyF a) (tyF_ok ha) (tF_nm ha) hKw hc
  have he := pw_get (G := G) hr
  rw [cel_obj hsh] at he
  obtain ⟨r2, h1, cell, q1, q2, q3, q4⟩ := hR.2.2 r _ he
  have hr2 : r2 = (clsN a, tF a, nF a) := Option.some.inj (h1.symm.trans hc)
  subst hr2
  obtain ⟨hSl, hfc, kC, hkC, hkind⟩ := hKw.1 a _ hc
  obtain ⟨cf2, kf, fi, f, hi, hsl⟩ := hSl b hb2
  have hlay := hts _ (lay_in (c := a) ha _ (u_in_lay hb2))
  have hfs : b < ((List.range (nF a)).map (fvl G u a r)).length := by simp [hb2]
  have hst := (u_facts hfc hkC (u_lays hts (lay_in (c := a) ha) hb2) hi).1
  have hD : inA G (wB G + r) := by show wB G ≤ wB G + r; omega
  have kk2 : ∀ H' : Heap, H'[wB G + r]? = some (cell.setSlot f.slot w) → H'.size = H.size → (∀ q, q ≠ wB G + r → H'[q]? = H[q]?) → W p l e R s mth args below meth c H' (locs ++ [⟨wB G + r, f.slot⟩]) k0 k1 Q (F0 mth (pc + 3) lsA rest) := fun H' e1 e2 e3 => by
    rw [hsl] at e1 ⊢
    exact kk H' _ e2 e3 ⟨_, hc, t_OB.to (V := updV (vp_V ((List.range (nF a)).map (fvl G u a r))) b w) ⟨_, e1, q2, q3, t_set q4 hap hb2 w⟩ (fun j _ => vp_updV_set hfs w j)⟩ (hS.put e2 e3 hD)
  cases hf : (tF a b).2.2.2 with
  | false =>
    unfold u_lay at hlay
    rw [if_neg (by rw [hf]; decide)] at hlay
    have h6 := u_store hfc hkC hkind hlay hi (tyF_ok ha b hb2) hn hfit
    exact W.putK hx hb (f := f) ⟨hown, hts _ hlk, ⟨_, _, _, hi⟩, hst⟩ (by rw [q2]; exact h6) q1 q3 (by rw [hsl]; exact k2_hasslot (q4 b hb2)) rfl rfl hdec kk2
  | true =>
    rw [hf] at hfin
    have hfin : (decide ((yM mi).name = "<init>") && decide ((tF a b).1 = clsN (oM mi))) = true := hfin
    rw [Bool.and_eq_true, decide_eq_true_eq, decide_eq_true_eq] at hfin
    unfold u_lay at hlay
    rw [if_pos hf] at hlay
    have hcf : mth.cls = cf2 := by
      obtain ⟨_, _, c', _, _, _, -, -, hf', -, -, -, hown2, -⟩ := Cond.laysFinal_spec hlay
      have e1 : c' = cf2 := by have := hi.symm.trans hf'; simp at this; exact this.1.symm
      rw [hfin.2] at hown2
      rw [← e1]; exact Option.some.inj (hown.symm.trans hown2)
    have h6 := u_fits hfc hkC hkind (Or.inr hlay) hi (tyF_ok ha b hb2) hn hfit
    exact W.putFinK hx hb hown (hts _ hlk) hi hst hcf (hnm.trans hfin.1) (by rw [q2]; exact h6) q1 q3 (by rw [hsl]; exact k2_hasslot (q4 b hb2)) rfl rfl hdec kk2
theorem nrw_bool {x : Int32} (h : Q0.2.2.2.1 1 x = true) : narrow .boolean (.int x) = .int x ∧ fits .boolean (.int x) = true := by
  have h : (decide (x = 0) || decide (x = 1)) = true := h
  rw [Bool.or_eq_true, decide_eq_true_eq, decide_eq_true_eq] at h
  rcases h with rfl | rfl
  · exact ⟨rfl, rfl⟩
  · exact ⟨rfl, rfl⟩
theorem so_putfield {xi : Nat} (F : FX G p s mth args c (cM mi) (xM mi) (clsN (oM mi))) (hnm : meth.name = (yM mi).name) (hk : ∀ pc' ls' st' u', k pc' ls' st' u' = some rr → Wst G p l e R s mth args below meth c Q (xM mi) n0 s0 pc' ls' st' u')  (hv : vOK mi pc (.putfield xi, nx, a, b, cc0, v, sw) = true) (hs : stpK (OA Q0) cf k (.putfield xi, nx, a, b, cc0, v, sw) ls st u = some rr) : Wst G p l e R s mth args below meth c Q (xM mi) n0 s0 pc ls st u := by
  have hv : (dk (cM mi) pc (.putfield xi) 3 nx && (Nat.ble a 9 && (fndF (oM mi) xi a b && ((match (generalizing := false) cc0 with
      | 0 => decide (tyF a b = .int)
      | 1 => isRf (tyF a b)
      | _ => decide (tyF a b = .boolean)) && bT (tF a b).2.2.2 (decide ((yM mi).name = "<init>") && decide ((tF a b).1 = clsN (oM mi))) true)))) = true := hv
  rw [Bool.and_eq_true, Bool.and_eq_true, Bool.and_eq_true, Bool.and_eq_true] at hv
  obtain ⟨hd, ha9, hlk, hty, hfin⟩ := hv
  obtain ⟨hdec, rfl⟩ := dk_spec hd
  have ha : a < 10 := Nat.lt_succ_of_le (Nat.le_of_ble_eq_true ha9)
  obtain ⟨hlk, hb2⟩ := fld_at hlk
  have key : ∀ {r : Nat} {x : Int32} {st2 : List Value}, (tyF a b = .int ∨ (tyF a b = .boolean ∧ Q0.2.2.2.1 1 x = true)) → mH u r = .inl a → k (pc + 3) ls st2 (mPutI u r b x) = some rr → Wst G p l e R s mth args below meth c Q (xM mi) n0 s0 pc ls (.int x :: .ref r :: st2) u := by
    intro r x st2 ht hsh h2 H locs lsA hR hS hL h0 h3
    have hr := hR.2.1.own hsh ha
    have hnf : narrow (tyF a b) (.int x) = .int x ∧ fits (tyF a b) (.int x) = true := by
      rcases ht with ht | ⟨ht, hq⟩
      · rw [ht]; exact ⟨rfl, rfl⟩
      · rw [ht]; exact nrw_bool hq
    have hrf : isRf (tyF a b) = false := by rcases ht with ht | ⟨ht, -⟩ <;> rw [ht] <;> rfl
    refine wput F hnm ha hlk hb2 hfin hnf.1 hnf.2 hdec hR hS hsh fun H1 locs1 e2 e3 ev hS1 => ?_
    refine hk _ _ _ _ h2 H1 locs1 lsA (hR.put hr (hR.2.1.putI hr _ _) rfl (fun j hj => celI_ne (i := b) hj) e2 e3 ?_) hS1 hL h0 h3
    rw [celK (v := mPutI u r b x) (w := .int x) (b := b) hsh hsh (by
      unfold fvl
      rw [hrf]
      show Value.int (up2 (mI u) r b x r b) = _
      rw [up2_eq]) (fun j hj => by
      unfold fvl
      show bT (isRf (tyF a j)) (va_rf ((mR u r j).map (adr G))) (.int (up2 (mI u) r b x r j)) = _
      rw [up2_ne hj])]
    exact ev
  simp only [stpK] at hs
  split at hs
  · split at hs
    · rename_i q r st2
      obtain ⟨r, rfl⟩ : ∃ z : Nat, z = r := ⟨r, rfl⟩
      obtain ⟨q, rfl⟩ : ∃ z : Nat, z = q := ⟨q, rfl⟩
      obtain ⟨h1, h2⟩ := bT_some hs
      obtain ⟨u2, hu2, h2⟩ := bM_some h2
      have hsh : mH u r = .inl a := okO_spec h1
      obtain ⟨hq, hu2⟩ := bT_none (show bT (Nat.beq q 1999) none (some (mPutR u r b q)) = some u2 from hu2)
      cases hu2
      have hq9 : q ≠ 1999 := fun z => by rw [z] at hq; cases hq
      intro H locs lsA hR hS hL h0 h3
      have hr := hR.2.1.own hsh ha
      have hrf : isRf (tyF a b) = true := hty
      have hnf : narrow (tyF a b) (cvv G (.ref q)) = cvv G (.ref q) ∧ fits (tyF a b) (cvv G (.ref q)) = true := by
        rw [cvv_ne hq9]
        generalize tyF a b = ty at hrf
        cases ty <;> first | exact ⟨rfl, rfl⟩ | cases hrf
      show W p l e R s mth args below meth c H locs (u.1 - n0) (u.2.1 - s0) Q (F0 mth pc lsA (cvv G (.ref q) :: cvv G (.ref r) :: st2.map (cvv G)))
      refine wput F hnm ha hlk hb2 hfin hnf.1 hnf.2 hdec hR hS hsh fun H1 locs1 e2 e3 ev hS1 => ?_
      refine hk _ _ _ _ h2 H1 locs1 lsA (hR.put hr (hR.2.1.putR hr _ hq9) rfl (fun j hj => celR_ne (i := b) hj) e2 e3 ?_) hS1 hL h0 h3
      rw [celK (v := mPutR u r b q) (w := cvv G (.ref q)) (b := b) hsh hsh (by
        unfold fvl
        rw [hrf, cvv_ne hq9]
        show va_rf ((up2 (mR u) r b (some q) r b).map (adr G)) = _
        rw [up2_eq]
        rfl) (fun j hj => by
        unfold fvl
        show bT (isRf (tyF a j)) (va_rf ((up2 (mR u) r b (some q) r j).map (adr G))) (.int (mI u r j)) = _
        rw [up2_ne hj])]
      exact ev
    · cases hs
  · split at hs
    · rename_i x r st2
      obtain ⟨h1, h2⟩ := bT_some hs
      have hty : decide (tyF a b = .int) = true := hty
      exact key (Or.inl (of_decide_eq_true hty)) (okO_spec h1) h2
    · cases hs
  · rename_i n1 n2
    split at hs
    · rename_i x r st2
      obtain ⟨h1, h2⟩ := bT_some hs
      obtain ⟨h3, h2⟩ := bT_some h2
      have hty : decide (tyF a b = .boolean) = true := by
        split at hty
        · exact absurd rfl n2
        · exact absurd rfl n1
        · exact hty
      exact key (Or.inr ⟨of_decide_eq_true hty, h3⟩) (okO_spec h1) h2
    · cases hs
end
