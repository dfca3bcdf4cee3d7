/-! The environment at the law's entry: all that a run stands on. -/
section
variable {s : State} {b L : Nat} {xs : Nat → Int32}
abbrev oAt (s : State) : Nat → Prop := fun q => s.heap.size ≤ q
theorem oAt_not {s : State} (a : Nat) (h : a < s.heap.size) : ¬ oAt s a := fun z => by
  have z : s.heap.size ≤ a := z
  omega
theorem env_st (hts : ∀ w ∈ lw_tbl, w.before #[Value.ref b] s = true) (hs : ∀ w ∈ FLq, w.before #[Value.ref b] s = true) : ∃ ad : Nat → Nat, ∀ j, j < 4 → va_Z RX8 (stN j) "[I" (.ref (ad j)) (oAt s) s s.heap ∧ va_T .int (ad j) 7 (fun i => .int ((stV j).getD i 0)) (oAt s) s s.heap := by
  refine Classical.axiomOfChoice (r := fun j t => j < 4 → va_Z RX8 (stN j) "[I" (.ref t) (oAt s) s s.heap ∧ va_T .int t 7 (fun i => .int ((stV j).getD i 0)) (oAt s) s s.heap) fun j => ?_
  by_cases hj : j < 4
  · obtain ⟨⟨h1, h2⟩, h3⟩ := fl_arr j hj
    obtain ⟨t, ht, hT⟩ := va_Tof (tm := .static RX8 (stN j) "[I") (N := 7) (f := fun i => .int ((stV j).getD i 0)) (A := oAt s) (by decide) (hs _ h1) (va_eqt (hs _ h2)) (fun i hi => va_eqt (hs _ (h3 i hi))) oAt_not
    exact ⟨t, fun _ => ⟨va_Zref (hts _ (tb_sta j hj)) (hts _ tb_one.2.2.2) ht oAt_not, hT⟩⟩
  · exact ⟨0, fun h => absurd h hj⟩
theorem env_str (hts : ∀ w ∈ lw_tbl, w.before #[Value.ref b] s = true) (hs : ∀ w ∈ FLq, w.before #[Value.ref b] s = true) : ∃ adK adV : Nat → Nat, vk_S 5 skL skB adK adV (oAt s) s s.heap ∧ ∀ i, i < 5 → vk_R RX6 (skK i) (skT i) (adK i) s := by
  obtain ⟨adK, adV, h1, h2⟩ := vk_Sof (args := #[Value.ref b]) (s := s) (N := 5) (tm := fun i => .string RX6 (skK i)) (len := skL) (byt := skB) (A := oAt s) (by decide) (fun i hi => hs _ (fl_str i hi).1.1) (fun i hi => hs _ (fl_str i hi).1.2) (fun i hi => hs _ (fl_str i hi).2) (fun i hi => hs _ (fl_stl i hi)) (fun i hi j hj => hs _ (fl_ste i hi j hj)) (fun i j hi hj hne => by
    rcases fl_ne i hi j hj hne with h | h
    · exact Or.inl (hs _ h)
    · exact Or.inr (hs _ h)) oAt_not
  exact ⟨adK, adV, h1, fun i hi => vk_R.of (hts _ (tb_str i hi)) (h2 i hi)⟩
theorem env_z (hts : ∀ w ∈ lw_tbl, w.before #[Value.ref b] s = true) (hs : ∀ w ∈ FLq, w.before #[Value.ref b] s = true) : ∃ v : Value, (v = .null ∨ ∃ t, v = .ref t) ∧ va_Z "jdk/internal/util/Preconditions" "SIOOBE_FORMATTER" "Ljava/util/function/BiFunction;" v (oAt s) s s.heap := by
  have h := va_Zqof (A := oAt s) (hts _ tb_one.1.2) (hts _ tb_one.2.2.1) (hs _ fl_one.2) oAt_not
  rcases h with h | ⟨t, h⟩
  · exact ⟨.null, Or.inl rfl, h⟩
  · exact ⟨.ref t, Or.inr ⟨t, rfl⟩, h⟩
theorem env_cl (hts : ∀ w ∈ lw_tbl, w.before #[Value.ref b] s = true) : ∃ cd : Nat → ClassId × (Nat → Nat), ∀ (c : Nat) (q : vw_C), vwCl[c]? = some q → u_Kn s q.1 q.2.1 q.2.2 (cd c).1 (cd c).2 := by
  obtain ⟨cd, h⟩ := Classical.axiomOfChoice (r := fun (c : Nat) (q : ClassId × (Nat → Nat)) => c < 10 → u_Kn s (clsN c) (tF c) (nF c) q.1 q.2) (fun c => by
    by_cases h : c < 10
    · have hl := List.all_eq_true.mp kLay_ok c (List.mem_range.mpr h)
      have hin : ∀ w ∈ u_ws (clsN c) (tF c) (nF c), w ∈ lw_tbl := fun w hw => by
        have h9 := List.all_eq_true.mp hl w hw
        rw [Bool.and_eq_true, decide_eq_true_eq] at h9
        exact h9.1
      obtain ⟨cC, iS, hk⟩ := u_known hts hin (hts _ (tb_new c h))
      exact ⟨(cC, iS), fun _ => hk⟩
    · exact ⟨(0, fun _ => 0), fun z => absurd z h⟩)
  refine ⟨cd, fun c q hq => ?_⟩
  have hc : c < 10 := (List.getElem?_eq_some_iff.mp hq).1
  have h2 := h c hc
  rcases (show c = 0 ∨ c = 1 ∨ c = 2 ∨ c = 3 ∨ c = 4 ∨ c = 5 ∨ c = 6 ∨ c = 7 ∨ c = 8 ∨ c = 9 by omega) with rfl | rfl | rfl | rfl | rfl | rfl | rfl | rfl | rfl | rfl <;> (cases hq; exact h2)
theorem env_pr {ty : FieldType} (hts : ∀ w ∈ lw_tbl, w.before #[Value.ref b] s = true) (hw : Cond.arrayClass ty ∈ lw_tbl) : ∃ cA : ClassId, ArrOfT s cA ty ∧ s.vm.findClass ("[" ++ ty.toString) = some cA := by
  obtain ⟨c, k, comp, h1, h2, h3⟩ := Cond.arrayClass_spec (hts _ hw)
  exact ⟨c, fun n z => ⟨(fun k h => by cases h), k, h2, comp, h3⟩, h1⟩
theorem env_ob {C : String} (hts : ∀ w ∈ lw_tbl, w.before #[Value.ref b] s = true) (hw : Cond.arrayOver (.object C) ∈ lw_tbl) : ∃ cA : ClassId, ArrOfT s cA (.object C) ∧ va_RA s cA (.object C) := by
  obtain ⟨comp, c, k, h1, h2, h3, h4, h5⟩ := Cond.arrayOver_spec (hts _ hw)
  exact ⟨c, fun n z => ⟨(fun k h => by cases h), k, h3, comp, h4⟩, k, comp, h3, h4, h1, h5⟩
theorem env_ar (hts : ∀ w ∈ lw_tbl, w.before #[Value.ref b] s = true) : ∃ aC : Nat → ClassId, ∀ t, t < 7 → ArrOfT s (aC t) (tyA t) ∧ va_RA s (aC t) (tyA t) := by
  obtain ⟨aC, h⟩ := Classical.axiomOfChoice (r := fun (t : Nat) (cA : ClassId) => t < 7 → ArrOfT s cA (tyA t) ∧ va_RA s cA (tyA t)) (fun t => by
    by_cases ht : t < 7
    · rcases (show t = 0 ∨ t = 1 ∨ t = 2 ∨ t = 3 ∨ t = 4 ∨ t = 5 ∨ t = 6 by omega) with rfl | rfl | rfl | rfl | rfl | rfl | rfl
      · obtain ⟨cA, h1, h2⟩ := env_pr hts tb_arr.2.1.1
        exact ⟨cA, fun _ => ⟨h1, h2⟩⟩
      · obtain ⟨cA, h1, h2⟩ := env_pr hts tb_arr.2.1.2
        exact ⟨cA, fun _ => ⟨h1, h2⟩⟩
      · obtain ⟨cA, h1, h2⟩ := env_pr hts tb_arr.2.2.1
        exact ⟨cA, fun _ => ⟨h1, h2⟩⟩
      · obtain ⟨cA, h1, h2⟩ := env_pr hts tb_arr.2.2.2
        exact ⟨cA, fun _ => ⟨h1, h2⟩⟩
      · obtain ⟨cA, h⟩ := env_ob hts tb_arr.1.1
        exact ⟨cA, fun _ => h⟩
      · obtain ⟨cA, h⟩ := env_ob hts tb_arr.1.2.1
        exact ⟨cA, fun _ => h⟩
      · obtain ⟨cA, h⟩ := env_ob hts tb_arr.1.2.2
        exact ⟨cA, fun _ => h⟩
    · exact ⟨0, fun z => absurd z ht⟩)
  exact ⟨aC, h⟩
theorem env_G (hts : ∀ w ∈ lw_tbl, w.before #[Value.ref b] s = true) (hgv : (Jvm.Cond.and given_1 narrow_1).before #[Value.ref b] s = true) (hX : va_X b L xs s s.heap) (hbl : b < s.heap.size) : ∃ G : Wd, wB G = s.heap.size ∧ wO G 0 = b ∧ wL G = L ∧ GL G s := by
  have hs : ∀ w ∈ FLq, w.before #[Value.ref b] s = true := flat_of_before _ hgv
  obtain ⟨ad, had⟩ := env_st hts hs
  obtain ⟨adK, adV, hS, hR⟩ := env_str hts hs
  obtain ⟨vZ, hz, hZ⟩ := env_z hts hs
  obtain ⟨cd, hcd⟩ := env_cl hts
  obtain ⟨aC, haC⟩ := env_ar hts
  obtain ⟨w, w0, w1, w2, w3⟩ : ∃ w : Nat → Nat, w 0 = b ∧ (∀ j, j < 4 → w (j + 1) = ad j) ∧ (∀ i, i < 5 → w (10 + i) = adK i) ∧ ∀ i, i < 5 → w (20 + i) = adV i := by
    refine ⟨fun k => if k = 0 then b else if k ≤ 4 then ad (k - 1) else if k ≤ 14 then adK (k - 10) else adV (k - 20), rfl, fun j hj => ?_, fun i hi => ?_, fun i hi => ?_⟩
    · show (if j + 1 = 0 then b else if j + 1 ≤ 4 then ad (j + 1 - 1) else if j + 1 ≤ 14 then adK (j + 1 - 10) else adV (j + 1 - 20)) = ad j
      rw [if_neg (by omega), if_pos (by omega), Nat.add_sub_cancel]
    · show (if 10 + i = 0 then b else if 10 + i ≤ 4 then ad (10 + i - 1) else if 10 + i ≤ 14 then adK (10 + i - 10) else adV (10 + i - 20)) = adK i
      rw [if_neg (by omega), if_neg (by omega), if_pos (by omega), Nat.add_sub_cancel_left]
    · show (if 20 + i = 0 then b else if 20 + i ≤ 4 then ad (20 + i - 1) else if 20 + i ≤ 14 then adK (20 + i - 10) else adV (20 + i - 20)) = adV i
      rw [if_neg (by omega), if_neg (by omega), if_neg (by omega), Nat.add_sub_cancel_left]
  have hS2 : vk_S 5 skL skB (fun i => w (10 + i)) (fun i => w (20 + i)) (oAt s) s s.heap := by
    refine ⟨fun i hi => ?_, fun i j hi hj e => ?_⟩
    · dsimp only
      rw [w2 i hi, w3 i hi]
      exact hS.1 i hi
    · dsimp only at e
      rw [w2 i hi, w2 j hj] at e
      exact hS.2 i j hi hj e
  refine ⟨(s.heap.size, w, vZ, (fun c => (cd c).1, fun c => (cd c).2), aC, L, xs), rfl, w0, rfl, ⟨hz, ?_, Nat.le_refl _⟩, fun j hj => ?_, ?_, hZ, fun i hi => ?_, hS2, fun q hq => ?_, fun j hj => ?_, ⟨va_AO.of (hts _ tb_arr.1.1), va_AO.of (hts _ tb_arr.1.2.1), va_AO.of (hts _ tb_arr.1.2.2)⟩, ?_, hcd, fun k q hk => ?_⟩
  · show w 0 < s.heap.size
    rw [w0]
    exact hbl
  · show va_Z RX8 (stN j) "[I" (.ref (w (j + 1))) (oAt s) s s.heap ∧ va_T .int (w (j + 1)) 7 (fun i => .int ((stV j).getD i 0)) (oAt s) s s.heap
    rw [w1 j hj]
    exact had j hj
  · exact va_Zof (hts _ tb_one.1.1) (hts _ tb_one.2.1) (va_eqi (hs _ fl_one.1)) oAt_not
  · show vk_R RX6 (skK i) (skT i) (w (10 + i)) s
    rw [w2 i hi]
    exact hR i hi
  · have h := List.all_eq_true.mp kNst_ok q hq
    rw [decide_eq_true_eq] at h
    exact va_Nw.of rfl (hts _ (List.mem_of_getElem? h))
  · exact va_Nw.of rfl (hts _ (tb_nst j hj))
  · show va_X (w 0) L xs s s.heap
    rw [w0]
    exact hX
  · have hk2 : k < 7 := by
      have := (List.getElem?_eq_some_iff.mp hk).1
      simpa [tysW] using this
    have e : q = (aC k, tyA k) := by
      have h : ((List.range 7).map fun t => (aC t, tyA t))[k]? = some q := hk
      rw [List.getElem?_map, List.getElem?_range hk2] at h
      cases h
      rfl
    rw [e]
    exact haC k hk2
end
