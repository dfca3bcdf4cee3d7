/-! calls: contracts of the methods of rows -/
def LeM (a b : Mem) : Prop := a.1 ≤ b.1 ∧ a.2.1 ≤ b.2.1
theorem opsLe_OA : OpsLe (OA Q0) LeM := by
  refine ⟨fun m => ⟨Nat.le_refl _, Nat.le_refl _⟩, fun a b c h1 h2 => ⟨Nat.le_trans h1.1 h2.1, Nat.le_trans h1.2 h2.2⟩, fun m k i v => ⟨Nat.le_refl _, Nat.le_refl _⟩, fun m k i v => ⟨Nat.le_refl _, Nat.le_refl _⟩, fun m k i v m' h => ?_, fun m s n q m' h => ?_, fun m t a b c d e => ?_⟩
  · obtain ⟨-, h⟩ := bT_none (show bT (Nat.beq v 1999) none (some (mPutR m k i v)) = some m' from h)
    cases h
    exact ⟨Nat.le_refl _, Nat.le_refl _⟩
  · obtain ⟨-, -, rfl⟩ := oN_some h
    exact ⟨Nat.le_succ _, Nat.le_add_right _ _⟩
  · show LeM m (mCpy m t a b c d e)
    unfold mCpy
    split <;> exact ⟨Nat.le_refl _, Nat.le_refl _⟩
theorem callF_le {d mi : Nat} {as : List Value} {u : Mem} {rr : Option Value × Mem} (h : callF (OA Q0) prog heds d mi as u = some rr) : u.1 ≤ rr.2.1 ∧ u.2.1 ≤ rr.2.2.1 := callF_mono (OA Q0) prog heds opsLe_OA d mi as u rr.1 rr.2 h
noncomputable def wsM (mi : Nat) : List Cond := Cond.code (yM mi) (cM mi) (xM mi) (rM mi) :: wG
def rmM (d mc ms : Nat) : Room := { frames := d, cells := mc, slots := ms, locals := 60 * d }
def QcM (G : Wd) (rr : Option Value × Mem) : Array Value → State → Outcome → State → Prop := fun _ st o t => (o = .returned (rr.1.map (cvv G)) ∧ HR G rr.2 t.heap) ∧ va_F (inA G) st t
def cMet (l : Launch) (G : Wd) (d mi : Nat) (as : List Value) (u : Mem) (rr : Option Value × Mem) : Prop := Met l (yM mi) (wsM mi) (rmM d (rr.2.1 - u.1) (rr.2.2.1 - u.2.1)) (va_Pc (as.map (cvv G)) (fun U => HR G u U.heap ∧ GL G U)) (QcM G rr) (rr.2.1 - u.1) (rr.2.2.1 - u.2.1) (inA G)
def Snd (l : Launch) (G : Wd) (d : Nat) : Prop := ∀ (mi : Nat) (as : List Value) (u : Mem) (rr : Option Value × Mem), has2 kCode mi = true → (Nat.ble 210 mi && Nat.ble mi 212) = false → (argsL as).length ≤ xM mi → callF (OA Q0) prog heds d mi as u = some rr → cMet l G d mi as u rr
theorem code_in {mi : Nat} (h : has2 kCode mi = true) : Cond.code (yM mi) (cM mi) (xM mi) (rM mi) ∈ wG := by
  obtain ⟨w, hw⟩ := has2_spec h
  exact wG_mem (List.mem_of_getElem? (kCode_ok _ hw)) rfl
theorem wsM_good {mi : Nat} (h : has2 kCode mi = true) : GoodIn wG (wsM mi) := by
  intro w hw
  rcases List.mem_cons.mp hw with rfl | hw
  · exact ⟨code_in h, Or.inl rfl⟩
  · exact wG_good w hw
theorem all_at {L : List (Nat × Nat)} {f : Nat → Cond} {mi : Nat} (hok : L.all (fun q => kAt q.2 (f q.1)) = true) (h : has2 L mi = true) : f mi ∈ wG := by
  obtain ⟨w, hw⟩ := has2_spec h
  exact kAt_mem (List.all_eq_true.mp hok _ hw)
theorem ini_at {mi : Nat} (h : has2 kIni mi = true) : Cond.initialized (yM mi).cls ∈ wG := by
  obtain ⟨w, hw⟩ := has2_spec h
  exact kAt_mem (List.all_eq_true.mp kIni_ok _ hw)
theorem inst_at {mi : Nat} (h : has2 kInst mi = true) : Cond.instanceMethod (yM mi) ∈ wG := by
  obtain ⟨w, hw⟩ := has2_spec h
  exact kAt_mem (List.all_eq_true.mp kInst_ok _ hw)
theorem stat_at {mi : Nat} (h : has2 kStat mi = true) : Cond.static (yM mi) ∈ wG := by
  obtain ⟨w, hw⟩ := has2_spec h
  exact kAt_mem (List.all_eq_true.mp kStat_ok _ hw)
theorem sel_at {mi : Nat} (h : has2 kSel mi = true) : Cond.selects (yM mi).cls (yM mi) (yM mi) ∈ wG := by
  obtain ⟨w, hw⟩ := has2_spec h
  exact kAt_mem (List.all_eq_true.mp kSel_ok _ hw)
theorem kXm : kCode.all (fun q => Nat.ble (xM q.1) 40) = true := by decide +kernel
theorem xM_le {mi : Nat} (h : has2 kCode mi = true) : xM mi ≤ 40 := by
  obtain ⟨w, hw⟩ := has2_spec h
  exact Nat.le_of_ble_eq_true (List.all_eq_true.mp kXm _ hw)
theorem nm_at {mi : Nat} (h : has2 kCode mi = true) : (yM mi).cls = clsN (oM mi) ∧ ((yM mi).cls ≠ "java/lang/invoke/MethodHandle" ∧ (yM mi).cls ≠ "java/lang/invoke/VarHandle" ∧ (parseMethodDescriptor (yM mi).desc).map (fun d => d.parameters.length) = some (aM mi)) := by
  obtain ⟨w, hw⟩ := has2_spec h
  have h1 := List.all_eq_true.mp kNm1 _ hw
  have h3 := List.all_eq_true.mp kNm3 _ hw
  have h4 := List.all_eq_true.mp kNm4 _ hw
  rw [Bool.and_eq_true, decide_eq_true_eq, decide_eq_true_eq] at h3
  exact ⟨of_decide_eq_true h1, h3.1, h3.2, of_decide_eq_true h4⟩
theorem GL.calling {G : Wd} {U : State} (h : GL G U) (g : JFrame) (mk : MethodId) (a : Array Value) : GL G (U.calling g mk a) :=
  h.next (s := U) (U := U.calling g mk a) (H := U.heap) (locs := []) rfl (State.WarmedH.refl U) va_S.rf
theorem blind_M {G : Wd} {as : List Value} {u : Mem} : FrameBlind (va_Pc as (fun U => HR G u U.heap ∧ GL G U)) := fun a U g mk q => ⟨q.1, q.2.1, q.2.2.calling g mk a⟩
section
variable {G : Wd} {p : Program} {l : Launch} {e : Env} {R : Room} {s : State} {mth : MethodId} {args : Array Value} {below : List Frame} {meth : Method} {c : Code} {Q : State → Prop} {n0 s0 mi pc d : Nat} {k : Nat → Lo → List Value → Mem → Rs Mem} {ls : Lo} {st : List Value} {u : Mem} {rr : Option Value × Mem} {nx a b cc0 : Nat} {v : Int32} {sw : List (Int32 × Nat)}
theorem va_on {H : Heap} {locs : List Loc} {k0 k1 mc ms : Nat} {lsA : Array Slot} {rest st0 : List Value} {r2 : Option Value × Mem} {av : Array Value} (hr : va_Run p l e R s mth args below meth c H locs k0 k1 mc ms (F0 mth pc lsA st0) rest (QcM G r2 av) (inA G)) (hS : va_S (inA G) s.heap H locs)
    (kk : ∀ (H1 : Heap) (locs1 : List Loc), HR G r2.2 H1 → va_S (inA G) s.heap H1 locs1 → W p l e R s mth args below meth c H1 locs1 (k0 + mc) (k1 + ms) Q (F0 mth (pc + 3) lsA ((r2.1.map (cvv G)).toList ++ rest))) : W p l e R s mth args below meth c H locs k0 k1 Q (F0 mth pc lsA st0) := by
  intro T hT X
  obtain ⟨v, st₀, t, T', L, h0, X', hL, e1, e2, ⟨⟨hv, hb⟩, hz, hk⟩, st⟩ := hr T hT X
  have hv : v = r2.1.map (cvv G) := by injection hv
  subst hv
  rw [h0] at hz hk
  rw [← e1] at hz hb
  obtain ⟨t2, a1, b1⟩ := kk T'.heap (locs ++ L) hb ⟨Nat.le_trans hS.1 hz, fun q h1 h2 => by rw [e1, hk q (Nat.lt_of_lt_of_le h1 hS.1) h2]; exact hS.2.1 q h1 h2, fun q hq => by
      rcases List.mem_append.mp hq with h | h
      · exact hS.2.2 q h
      · exact hL q h⟩ T' rfl X'
  exact ⟨t2, st t2 a1, b1⟩
theorem callK_some {M : Type} {q : Nat} {r : Rs M} {f : List Value → M → Rs M} {x : Option Value × M} (h : callK q r f = some x) : ∃ o m, r = some (o, m) ∧ f o.toList m = some x := by
  rcases r with _ | ⟨o, m⟩
  · match q with
    | 0 => cases h
    | 1 => cases h
    | 2 => cases h
    | _ + 3 => cases h
  · refine ⟨o, m, rfl, ?_⟩
    match q with
    | 0 => cases o with
      | none => exact h
      | some v => cases h
    | 1 => cases o with
      | none => cases h
      | some v => cases v <;> first | exact h | cases h
    | 2 => cases o with
      | none => cases h
      | some v => cases v <;> first | exact h | cases h
    | _ + 3 => cases o with
      | none => cases h
      | some v => cases v <;> first | exact h | cases h
theorem room9_spec {n x : Nat} {st : List Value} (h : room9 n x st = true) : n ≤ st.length ∧ (argsL (st.take n).reverse).length ≤ x ∧ room8 (st.drop n) = true := by
  unfold room9 at h
  have key : ∀ (a b : Bool), bT a b false = true → a = true ∧ b = true := by
    intro a b
    cases a <;> cases b <;> intro h <;> first | exact ⟨rfl, rfl⟩ | cases h
  obtain ⟨h1, h⟩ := key _ _ h
  obtain ⟨h2, h3⟩ := key _ _ h
  exact ⟨Nat.le_of_ble_eq_true h1, Nat.le_of_ble_eq_true h2, h3⟩
theorem calOK_spec (h : calOK a b sw = true) : has2 kCode a = true ∧ has2 kIni a = true ∧ b % 4 = kdR (rM a) ∧ swx sw = xM a ∧ (Nat.ble 210 a && Nat.ble a 212) = false := by
  unfold calOK at h
  rw [Bool.and_eq_true, Bool.and_eq_true, Bool.and_eq_true, Bool.and_eq_true, Bool.not_eq_true'] at h
  exact ⟨h.1, h.2.1, Nat.eq_of_beq_eq_true h.2.2.1, Nat.eq_of_beq_eq_true h.2.2.2.1, h.2.2.2.2⟩
theorem mth_at {x y z : Nat} (h : fnd kMth x y z = true) : Cond.methodLink (clsN x) y (yM z) ∈ wG := by
  obtain ⟨w, hw⟩ := fnd_spec h
  exact kAt_mem (List.all_eq_true.mp kMth_ok _ hw)
theorem nst_at {x y z : Nat} (h : fnd kNst x y z = true) (hE : GL G s) : va_Nw (.methodLinkNest (clsN x) y (yM z) RX8) s := by
  obtain ⟨w, hw⟩ := fnd_spec h
  exact hE.2.2.2.2.2.2.1 _ hw
/-- what goes on behind a call -/
theorem call_go {st2 : List Value} {o : Option Value} {u2 : Mem} {H : Heap} {locs : List Loc} {lsA : Array Slot} {st0 : List Value} {av : Array Value} (hk : ∀ pc' ls' st' u', k pc' ls' st' u' = some rr → Wst G p l e R s mth args below meth c Q (xM mi) n0 s0 pc' ls' st' u') (hle : u.1 ≤ u2.1 ∧ u.2.1 ≤ u2.2.1) (h2 : k (pc + 3) ls (o.toList ++ st2) u2 = some rr) (hS : va_S (inA G) s.heap H locs) (hL : LR G lsA (xM mi) ls) (h0 : n0 ≤ u.1) (h3 : s0 ≤ u.2.1)
    (hr : va_Run p l e R s mth args below meth c H locs (u.1 - n0) (u.2.1 - s0) (u2.1 - u.1) (u2.2.1 - u.2.1) (F0 mth pc lsA st0) (st2.map (cvv G)) (QcM G (o, u2) av) (inA G)) : W p l e R s mth args below meth c H locs (u.1 - n0) (u.2.1 - s0) Q (F0 mth pc lsA st0) := by
  refine va_on hr hS fun H1 locs1 hR1 hS1 => ?_
  have K := hk _ _ _ _ h2 H1 locs1 lsA hR1 hS1 hL (Nat.le_trans h0 hle.1) (Nat.le_trans h3 hle.2)
  rw [show u2.1 - n0 = u.1 - n0 + (u2.1 - u.1) by omega, show u2.2.1 - s0 = u.2.1 - s0 + (u2.2.1 - u.2.1) by omega] at K
  have e2 : (o.toList ++ st2).map (cvv G) = (o.map (cvv G)).toList ++ st2.map (cvv G) := by cases o <;> rfl
  rw [e2] at K
  exact K
theorem clsN10 : clsN 10 = "java/lang/String" := by decide +kernel
set_option maxRecDepth 20000 in
theorem so_invokevirtual {xi : Nat} (hsn : Snd l G d) (hfr : d + 1 ≤ R.frames) (hlo : 60 * d + 60 ≤ R.locals) (F : FX G p s mth args c (cM mi) (xM mi) (clsN (oM mi))) (hk : ∀ pc' ls' st' u', k pc' ls' st' u' = some rr → Wst G p l e R s mth args below meth c Q (xM mi) n0 s0 pc' ls' st' u') (hm : ∀ pc' ls' st' u', k pc' ls' st' u' = some rr → u'.1 ≤ rr.2.1 ∧ u'.2.1 ≤ rr.2.2.1) (hRc : rr.2.1 - n0 ≤ R.cells ∧ rr.2.2.1 - s0 ≤ R.slots) (hv : vOK mi pc (.invokevirtual xi, nx, a, b, cc0, v, sw) = true) (hs : stpK (OA Q0) (callF (OA Q0) prog heds d) k (.invokevirtual xi, nx, a, b, cc0, v, sw) ls st u = some rr) : Wst G p l e R s mth args below meth c Q (xM mi) n0 s0 pc ls st u := by
  obtain ⟨hx, hb, hml, hown, hts, hE⟩ := F
  have hKw := hE.2.2.2.2.2.2.2.2.2.2
  have hv : (dk (cM mi) pc (.invokevirtual xi) 3 nx && (calOK a b sw && (fnd kMth (oM mi) xi a && (has2 kInst a && (has2 kSel a && (Nat.beq (b / 4) (aM a + 1) && (Nat.beq cc0 (oM a + 1) && Nat.ble cc0 11))))))) = true := hv
  simp only [Bool.and_eq_true] at hv
  obtain ⟨hd, hcal, hmt, hin, hsel, hb4, hc1, hc11⟩ := hv
  obtain ⟨hdec, rfl⟩ := dk_spec hd
  obtain ⟨hcode, hini, hkd, hsx, hnm⟩ := calOK_spec hcal
  have hb4 := Nat.eq_of_beq_eq_true hb4
  have hc1 := Nat.eq_of_beq_eq_true hc1
  have hc11 := Nat.le_of_ble_eq_true hc11
  subst hc1
  simp only [stpK] at hs
  obtain ⟨h9, hs⟩ := bT_some hs
  obtain ⟨h9a, h9b, h9c⟩ := room9_spec h9
  rw [hsx] at h9b
  generalize has : (st.take (b / 4)).reverse = as at hs h9b
  have hlen : as.length = aM a + 1 := by rw [← has, List.length_reverse, List.length_take, hb4]; omega
  cases as with
  | nil => cases hlen
  | cons x As =>
    cases x with
    | ref r =>
      obtain ⟨r, rfl⟩ : ∃ z : Nat, z = r := ⟨r, rfl⟩
      obtain ⟨hok, hs⟩ := bT_some (show bT (okO (mH u r) (oM a)) _ none = some rr from hs)
      have hsh := okO_spec hok
      obtain ⟨o, u2, hcf, h2⟩ := callK_some hs
      have hM := hsn a _ u (o, u2) hcode hnm h9b hcf
      have hle := callF_le hcf
      obtain ⟨m1, m2⟩ := hm _ _ _ _ h2
      intro H locs lsA hR hS hL h0 h3
      obtain ⟨hy1, hy2⟩ := nm_at hcode
      have hrcv : ∃ (b2 : Nat) (cellB : Cell), cvv G (.ref r) = .ref b2 ∧ H[b2]? = some cellB ∧ cellB.vm.isStatics = false ∧ s.vm.findClass (yM a).cls = some cellB.cls := by
        rw [hy1]
        by_cases h10 : oM a < 10
        · have hr := hR.2.1.own hsh h10
          have he := pw_get (G := G) hr
          rw [cel_obj hsh] at he
          obtain ⟨cell, z1, z2, z3⟩ := va_recv hKw hR.2.2 (vwCl_get _ h10) he
          exact ⟨_, cell, cvv_own hR.2.1 hr, z1, z2, z3⟩
        · have h10 : oM a = 10 := by omega
          rw [h10] at hsh ⊢
          rw [clsN10]
          have hr : u.1 ≤ r := Nat.le_of_not_lt fun z => by
            have := hR.2.1.1.2.1 r z
            rw [hsh] at this
            exact absurd this (by show ¬ (10 < 10); omega)
          obtain ⟨e1, e2⟩ := hR.2.1.ro0 hsh hr
          obtain ⟨cell, z1, z2, z3⟩ := vk_recv (i := r - 1010) hE.2.2.2.2.2.1 (by omega) hS
          rw [show 10 + (r - 1010) = r - 1000 by omega] at z1
          exact ⟨_, cell, cvv_ro (by omega) (by omega), z1, z2, z3⟩
      obtain ⟨b2, cellB, hb2, hcB⟩ := hrcv
      have hst : st.map (cvv G) = ((As.map (cvv G)).reverse ++ .ref b2 :: (st.drop (b / 4)).map (cvv G)) := by
        have e0 : st = (Value.ref r :: As).reverse ++ st.drop (b / 4) := by rw [← has, List.reverse_reverse, List.take_append_drop]
        generalize st.drop (b / 4) = D at e0
        rw [e0, List.map_append, List.map_reverse, List.map_cons, List.reverse_cons, List.append_assoc, hb2]
        rfl
      rw [hst]
      refine call_go hk hle h2 hS hL h0 h3 (va_runV (As := As.map (cvv G)) (rest := (st.drop (b / 4)).map (cvv G)) (C := (yM a).cls) ⟨hx, hb, hml, hown, hts⟩ hM ⟨callB_of (aM a) hts (wsM_good hcode) rfl rfl rfl (hts _ (ini_at hini)) (hts _ (mth_at hmt)) hy2 ⟨hfr, ?_⟩, hts _ (inst_at hin), hts _ (sel_at hsel)⟩ ⟨blind_M, ⟨cellB, hcB⟩, fun U hU hW => ⟨?_, by rw [hU]; exact hR, hE.next hU hW hS⟩⟩ rfl ?_ hL.1 rfl ?_ hdec ⟨?_, ?_⟩)
      · show 8 + (xM a + 11) + 60 * d ≤ R.locals
        have := xM_le hcode
        omega
      · show _ = (cvv G (.ref r) :: As.map (cvv G)).toArray
        rw [hb2]
      · rw [List.length_map]
        have : As.length + 1 = aM a + 1 := hlen
        omega
      · exact room8_spec hE.cat h9c
      · show u.1 - n0 + (u2.1 - u.1) ≤ R.cells
        have : u.1 ≤ u2.1 := hle.1
        omega
      · show u.2.1 - s0 + (u2.2.1 - u.2.1) ≤ R.slots
        have : u.2.1 ≤ u2.2.1 := hle.2
        omega
    | _ => cases hs
end
