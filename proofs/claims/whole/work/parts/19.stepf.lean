/-! steps: statics, switches -/
section
variable {G : Wd} {p : Program} {l : Launch} {e : Env} {R : Room} {s : State} {mth : MethodId} {args : Array Value} {below : List Frame} {meth : Method} {c : Code} {Q : State → Prop} {n0 s0 mi pc : Nat} {cf : Nat → List Value → Mem → Rs Mem} {k : Nat → Lo → List Value → Mem → Rs Mem} {ls : Lo} {st : List Value} {u : Mem} {rr : Option Value × Mem} {nx a b cc0 : Nat} {v : Int32} {sw : List (Int32 × Nat)}
theorem swL_spec {pc a : Nat} {d : Int} : ∀ {ps : List (Int × Int)} {sw : List (Int32 × Nat)} (x : Int32), swL pc d ps a sw = true → (pc : Int) + Op.lookupswitch.offset ps d x.toInt = (swN sw a x : Int)
  | [], [], x, h => of_decide_eq_true h
  | [], _ :: _, _, h => by cases h
  | _ :: _, [], _, h => by cases h
  | (q, o) :: r, (y, t) :: l, x, h => by
    have h : ((decide (y.toInt = q) && decide ((pc : Int) + o = (t : Int))) && swL pc d r a l) = true := h
    rw [Bool.and_eq_true, Bool.and_eq_true, decide_eq_true_eq, decide_eq_true_eq] at h
    obtain ⟨⟨h1, h2⟩, h3⟩ := h
    have ih := swL_spec x h3
    subst h1
    show (pc : Int) + Op.lookupswitch.offset ((y.toInt, o) :: r) d x.toInt = ((if x = y then t else swN l a x : Nat) : Int)
    by_cases e : x = y
    · subst e
      rw [if_pos rfl]
      simpa [Op.lookupswitch.offset] using h2
    · rw [if_neg e]
      have e2 : ¬ y.toInt = x.toInt := fun z => e (Int32.toInt_inj.mp z.symm)
      have e3 : ¬ x.toInt = y.toInt := fun z => e2 z.symm
      simpa [Op.lookupswitch.offset, e2, e3] using ih
theorem so_lookupswitch {d : Int} {ps : Array (Int × Int)} (F : FX G p s mth args c (cM mi) (xM mi) (clsN (oM mi))) (hk : ∀ pc' ls' st' u', k pc' ls' st' u' = some rr → Wst G p l e R s mth args below meth c Q (xM mi) n0 s0 pc' ls' st' u')  (hv : vOK mi pc (.lookupswitch d ps, nx, a, b, cc0, v, sw) = true) (hs : stpK (OA Q0) cf k (.lookupswitch d ps, nx, a, b, cc0, v, sw) ls st u = some rr) : Wst G p l e R s mth args below meth c Q (xM mi) n0 s0 pc ls st u := by
  obtain ⟨hx, hb, hml, hown, hts, hE⟩ := F
  have hv : ((match decode (cM mi) pc with
      | .ok (j, _) => decide (j = .lookupswitch d ps)
      | .error _ => false) && (swL pc d ps.toList a sw && (ps.toList.zip (ps.toList.drop 1)).all (fun (x, next) => x.1 < next.1))) = true := hv
  rw [Bool.and_eq_true, Bool.and_eq_true] at hv
  obtain ⟨hv, h1, h2⟩ := hv
  split at hv
  · rename_i j len hd
    have hv := of_decide_eq_true hv
    subst hv
    simp only [stpK] at hs
    split at hs
    · rename_i x st2
      have hs : swK Q0 sw a x (fun t => k t ls st2 u) = some rr := hs
      rw [swK_N] at hs
      intro H locs lsA hR hS hL h0 h3
      exact lv_lookup hx hb hd h2 rfl (swL_spec x h1) (hk _ _ _ _ hs H locs lsA hR hS hL h0 h3)
    · cases hs
  · cases hv
theorem swN_out {a : Nat} {lo hi : Int} {x : Int32} (hx : x.toInt < lo ∨ hi < x.toInt) : ∀ {sw : List (Int32 × Nat)}, sw.all (fun q => decide (lo ≤ q.1.toInt) && decide (q.1.toInt ≤ hi)) = true → swN sw a x = a
  | [], _ => rfl
  | (y, t) :: l, h => by
    rw [List.all_cons, Bool.and_eq_true, Bool.and_eq_true, decide_eq_true_eq, decide_eq_true_eq] at h
    obtain ⟨⟨h1, h2⟩, h3⟩ := h
    show (if x = y then t else swN l a x) = a
    rw [if_neg (fun e => by subst e; dsimp only at h1 h2; omega)]
    exact swN_out hx h3
theorem so_tableswitch {d lo hi : Int} {offs : Array Int} (F : FX G p s mth args c (cM mi) (xM mi) (clsN (oM mi))) (hk : ∀ pc' ls' st' u', k pc' ls' st' u' = some rr → Wst G p l e R s mth args below meth c Q (xM mi) n0 s0 pc' ls' st' u')  (hv : vOK mi pc (.tableswitch d lo hi offs, nx, a, b, cc0, v, sw) = true) (hs : stpK (OA Q0) cf k (.tableswitch d lo hi offs, nx, a, b, cc0, v, sw) ls st u = some rr) : Wst G p l e R s mth args below meth c Q (xM mi) n0 s0 pc ls st u := by
  obtain ⟨hx, hb, hml, hown, hts, hE⟩ := F
  have hv : ((match decode (cM mi) pc with
      | .ok (j, _) => decide (j = .tableswitch d lo hi offs)
      | .error _ => false) && swT pc d lo hi offs a sw) = true := hv
  unfold swT at hv
  rw [Bool.and_eq_true, Bool.and_eq_true, Bool.and_eq_true, Bool.and_eq_true, decide_eq_true_eq] at hv
  obtain ⟨hv, h1, h2, -, h4⟩ := hv
  split at hv
  · rename_i j len hd
    have hv := of_decide_eq_true hv
    subst hv
    simp only [stpK] at hs
    split at hs
    · rename_i x st2
      have hs : swK Q0 sw a x (fun t => k t ls st2 u) = some rr := hs
      rw [swK_N] at hs
      intro H locs lsA hR hS hL h0 h3
      by_cases ho : x.toInt < lo ∨ hi < x.toInt
      · rw [swN_out ho h2] at hs
        exact lv_tableOut hx hb hd ho h1 (hk _ _ _ _ hs H locs lsA hR hS hL h0 h3)
      · have g1 : ¬ x.toInt < lo := fun z => ho (Or.inl z)
        have g2 : ¬ hi < x.toInt := fun z => ho (Or.inr z)
        have g := List.all_eq_true.mp h4 (x.toInt - lo).toNat (List.mem_range.mpr (by omega))
        split at g
        · rename_i o ho2
          have g := of_decide_eq_true g
          rw [show lo + ((x.toInt - lo).toNat : Int) = x.toInt by omega, Int32.ofInt_toInt] at g
          exact lv_tableIn hx hb hd g1 g2 ho2 g (hk _ _ _ _ hs H locs lsA hR hS hL h0 h3)
        · cases g
    · cases hs
  · cases hv
theorem sta_at {x y z : Nat} (h : fnd kSta x y z = true) : Cond.fieldLink (clsN x) y (stW z).1 (stW z).2.1 (stW z).2.2 ∈ wG := by
  obtain ⟨w, hw⟩ := fnd_spec h
  exact kAt_mem (List.all_eq_true.mp kSta_ok _ hw)
theorem stW_lt : ∀ {j : Nat}, j < 4 → stW j = (RX8, stN j, "[I")
  | 0, _ => rfl
  | 1, _ => rfl
  | 2, _ => rfl
  | 3, _ => rfl
  | n + 4, h => absurd h (by omega)
set_option maxRecDepth 20000 in
theorem so_getstatic {xi : Nat} (F : FX G p s mth args c (cM mi) (xM mi) (clsN (oM mi))) (hk : ∀ pc' ls' st' u', k pc' ls' st' u' = some rr → Wst G p l e R s mth args below meth c Q (xM mi) n0 s0 pc' ls' st' u')  (hv : vOK mi pc (.getstatic xi, nx, a, b, cc0, v, sw) = true) (hs : stpK (OA Q0) cf k (.getstatic xi, nx, a, b, cc0, v, sw) ls st u = some rr) : Wst G p l e R s mth args below meth c Q (xM mi) n0 s0 pc ls st u := by
  obtain ⟨hx, hb, hml, hown, hts, hE⟩ := F
  unfold vOK at hv
  dsimp only at hv
  rw [Bool.and_eq_true] at hv
  obtain ⟨hv, hta⟩ := hv
  obtain ⟨hdec, rfl⟩ := dk_spec hv
  cases cc0 with
  | zero =>
    have hs : k (pc + 3) ls (.ref a :: st) u = some rr := hs
    have hta : ((Nat.ble 1001 a && (Nat.ble a 1004 && (fnd kSta (oM mi) xi (a - 1001) || (Nat.beq (oM mi) 0 && (Nat.ble a 1003 && Nat.beq xi (nfK (a - 1001))))))) || (Nat.beq a 1999 && fnd kSta (oM mi) xi 5)) = true := hta
    intro H locs lsA hR hS hL h0 h3
    have K : W p l e R s mth args below meth c H locs (u.1 - n0) (u.2.1 - s0) Q (F0 mth (pc + 3) lsA (cvv G (.ref a) :: st.map (cvv G))) := hk _ _ _ _ hs H locs lsA hR hS hL h0 h3
    rw [Bool.or_eq_true, Bool.and_eq_true, Bool.and_eq_true, Bool.and_eq_true] at hta
    rcases hta with ⟨g1, g2, g3⟩ | ⟨g1, g2⟩
    · have g1 := Nat.le_of_ble_eq_true g1
      have g2 := Nat.le_of_ble_eq_true g2
      rw [cvv_ro (by omega) (by omega)] at K
      have hZ := (hE.2.1 (a - 1001) (by omega)).1
      rw [show a - 1001 + 1 = a - 1000 by omega] at hZ
      rw [Bool.or_eq_true, Bool.and_eq_true, Bool.and_eq_true] at g3
      rcases g3 with g3 | ⟨g3, g4, g5⟩
      · have hl := sta_at g3
        rw [stW_lt (by omega)] at hl
        have hl : Cond.fieldLink (clsN (oM mi)) xi RX8 (stN (a - 1001)) "[I" ∈ wG := hl
        have hl2 : (Cond.fieldLink (clsN (oM mi)) xi RX8 (stN (a - 1001)) "[I").before args s = true := hts _ hl
        exact va_gets (C := RX8) (ref := RX8) (n := stN (a - 1001)) (d := "[I") hx hb hZ hS hown hl2 (fun _ h => h) hdec K
      · have g3 := Nat.eq_of_beq_eq_true g3
        have g4 := Nat.le_of_ble_eq_true g4
        have g5 := Nat.eq_of_beq_eq_true g5
        have hN := hE.2.2.2.2.2.2.2.1 (a - 1001) (by omega)
        rw [← g5] at hN
        have hN : (Cond.fieldLinkNest RX0 xi RX8 (stN (a - 1001)) "[I" RX8).before #[] s = true := hN
        rw [g3] at hown
        exact va_getsN (own := RX0) hx hb hZ hS hown (va_tabs rfl rfl hN) (fun _ h => h) hdec K
    · have g1 := Nat.eq_of_beq_eq_true g1
      subst g1
      exact va_gets hx hb hE.2.2.2.1 hS hown (hts _ (sta_at g2)) (fun _ h => h) hdec K
  | succ cc1 =>
    have hs : k (pc + 3) ls (.int v :: st) u = some rr := hs
    have hta : (fnd kSta (oM mi) xi 4 && decide (v = 1)) = true := hta
    rw [Bool.and_eq_true, decide_eq_true_eq] at hta
    obtain ⟨g1, rfl⟩ := hta
    intro H locs lsA hR hS hL h0 h3
    exact va_gets hx hb hE.2.2.1 hS hown (hts _ (sta_at g1)) (fun _ h => h) hdec (hk _ _ _ _ hs H locs lsA hR hS hL h0 h3)
end
