/-! steps: statics, switches -/
section
variable {G : Wd} {p : Program} {l : Launch} {e : Env} {R : Room} {s : State} {mth : MethodId} {args : Array Value} {below : List Frame} {meth : Method} {c : Code} {Q : State → Prop} {n0 s0 mi pc : Nat} {cf : Nat → List Value → Mem → Rs Mem} {k : Nat → Lo → List Value → Mem → Rs Mem} {ls : Lo} {st : List Value} {u : Mem} {rr : Option Value × Mem} {nx a b cc0 : Nat} {v : Int32} {sw : List (Int32 × Nat)}
theorem swL_spec {pc a : Nat} {d : Int} : ∀ {ps : List (Int × Int)} {sw : List (Int32 × Nat)} (x : Int32), swL pc d ps a sw = true → (pc : Int) + Op.lookupswitch.offset ps d x.toInt = (swN sw a x : Int)
  | [], [], x, h => of_decide_eq_true h
  | [], _ :: _, _, h => by cases h
  | _ :: _, [], _, h => by cases h
  | (q, o) :: r, (y, t) :: l, x, h => by
    have h : ((decide (y.toInt = q) && decide ((pc : Int) + o = (t : Int))) && swL pc d r a l) = true := h
    rw [Bool.and_eq_true, Bool.and_eq_true, decide_eq_true_eq, decide_eq_true_eq] at h
    obtain ⟨⟨h1, h2⟩, h3⟩ := h
    have ih := swL_spec x h3
    subst h1
    show (pc : Int) + Op.lookupswitch.offset ((y.toInt, o) :: r) d x.toInt = ((if x = y then t else swN l a x : Nat) : Int)
    by_cases e : x = y
    · subst e
      rw [if_pos rfl]
      simpa [Op.lookupswitch.offset] using h2
    · rw [if_neg e]
      have e2 : ¬ y.toInt = x.toInt := fun z => e (Int32.toInt_inj.mp z.symm)
      have e3 : ¬ x.toInt = y.toInt := fun z => e2 z.symm
      simpa [Op.lookupswitch.offset, e2, e3] using ih
theorem so_lookupswitch {d : Int} {ps : Array (Int × Int)} (F : FX G p s mth args c (cM mi) (xM mi) (clsN (oM mi))) (hk : ∀ pc' ls' st' u', k pc' ls' st' u' = some rr → Wst G p l e R s mth args below meth c Q (xM mi) n0 s0 pc' ls' st' u')  (hv : vOK mi pc (.lookupswitch d ps, nx, a, b, cc0, v, sw) = true) (hs : stpK (OA Q0) cf k (.lookupswitch d ps, nx, a, b, cc0, v, sw) ls st u = some rr) : Wst G p l e R s mth args below meth c Q (xM mi) n0 s0 pc ls st u := by
  obtain ⟨hx, hb, hml, hown, hts, hE⟩ := F
  have hv : ((match decode (cM mi) pc with
      | .ok (j, _) => decide (j = .lookupswitch d ps)
      | .error _ => false) && (swL pc d ps.toList a sw && (ps.toList.zip (ps.toList.drop 1)).all (fun (x, next) => x.1 < next.1))) = true := hv
  rw [Bool.and_eq_true, Bool.and_eq_true] at hv
  obtain ⟨hv, h1, h2⟩ := hv
  split at hv
  · rename_i j len hd
    have hv := of_decide_eq_true hv
    subst hv
    simp only [stpK] at hs
    split at hs
    · rename_i x st2
      have hs : swK Q0 sw a x (fun t => k t ls st2 u) = some rr := hs
      rw [swK_N] at hs
      intro H locs lsA hR hS hL h0 h3
      exact lv_lookup hx hb hd h2 rfl (swL_spec x h1) (hk _ _ _ _ hs H locs lsA hR hS hL h0 h3)
    · cases hs
  · cases hv
theorem swN_out {a : Nat} {lo hi : Int} {x : Int32} (hx : x.toInt < lo ∨ hi < x.toInt) : ∀ {sw : List (Int32 × Nat)}, sw.all (fun q => decide (lo ≤ q.1.toInt) && decide (q.1.toInt ≤ hi)) = true → swN sw a x = a
  | [], _ => rfl
  | (y, t) :: l, h => by
    rw [List.all_cons, Bool.and_eq_true, Bool.and_eq_true, decide_eq_true_eq, decide_eq_true_eq] at h
    obtain ⟨⟨h1, h2⟩, h3⟩ := h
    show (if x = y then t else swN l a x) = a
    rw [if_neg (fun e => by subst e; dsimp only at h1 h2; omega)]
    exact swN_out hx h3
theorem so_tableswitch {d lo hi : Int} {offs : Array Int} (F : FX G p s mth args c (cM mi) (xM mi) (clsN (oM mi))) (hk : ∀ pc' ls' st' u', k pc' ls' st' u' = some rr → Wst G p l e R s mth args below meth c Q (xM mi) n0 s0 pc' ls' st' u')  (hv : vOK mi pc (.tableswitch d lo hi offs, nx, a, b, cc0, v, sw) = true) (hs : stpK (OA Q0) cf k (.tableswitch d lo hi offs, nx, a, b, cc0, v, sw) ls st u = some rr) : Wst G p l e R s mth args below meth c Q (xM mi) n0 s0 pc ls st u := by
  obtain ⟨hx, hb, hml, hown, hts, hE⟩ := F
  have hv : ((match decode (cM mi) pc with
      | .ok (j, _) => decide (j = .tableswitch d lo hi offs)
      | .error _ => false) && swT pc d lo hi offs a sw) = true := hv
  unfold swT at hv
  rw [Bool.and_eq_true, Bool.and_eq_true, Bool.and_eq_true, Bool.and_eq_true, decide_eq_true_eq] at hv
  obtain ⟨hv, h1, h2, -, h4⟩ := hv
  split at hv
  · rename_i j len hd
    have hv := of_decide_eq_true hv
    subst hv
    simp only [stpK] at hs
    split at hs
    · rename_i x st2
      have hs : swK Q0 sw a x (fun t => k t ls st2 u) = some rr := hs
      rw [swK_N] at hs
      intro H locs lsA hR hS hL h0 h3
      by_cases ho : x.toInt < lo ∨ hi < x.toInt
      · rw [swN_out ho h2] at hs
        exact lv_tableOut hx hb hd ho h1 (hk _ _ _ _ hs H locs lsA hR hS hL h0 h3)
      · have g1 : ¬ x.toInt < lo := fun z => ho (Or.inl z)
        have g2 : ¬ hi < x.toInt := fun z => ho (Or.inr z)
        have g := List.all_eq_true.mp h4 (x.toInt - lo).toNat (List.mem_range.mpr (by omega))
        split at g
        · rename_i o ho2
          have g := of_decide_eq_true g
          rw [show lo + ((x.toInt - lo).toNat : Int) = x.toInt by omega, Int32.ofInt_toInt] at g
          exact lv_tableIn hx hb hd g1 g2 ho2 g (hk _ _ _ _ hs H locs lsA hR hS hL h0 h3)
        · cases g
    · cases hs
  · cases hv
end
