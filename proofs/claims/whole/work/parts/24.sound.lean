/-! the ends of a method; every step; every method -/
section
variable {G : Wd} {p : Program} {l : Launch} {e : Env} {R : Room} {s : State} {mth : MethodId} {args : Array Value} {below : List Frame} {meth : Method} {c : Code} {n0 s0 mi pc d : Nat} {k : Nat → Lo → List Value → Mem → Rs Mem} {ls : Lo} {st : List Value} {u : Mem} {rr : Option Value × Mem} {nx a b cc0 : Nat} {v : Int32} {sw : List (Int32 × Nat)} {cf : Nat → List Value → Mem → Rs Mem}
theorem Wst_ret {x : Value} {o : Option Value} (ho : o = some x) (h : ∀ (H : Heap) (locs : List Loc) (lsA : Array Slot), HR G u H → va_S (inA G) s.heap H locs → (∀ t : State, t.heap = H → s.WarmedH t.vm → QcM G (o, u) args s (.returned (some (cvv G x))) t) → (∀ q ∈ locs, inA G q.base) → W p l e R s mth args below meth c H locs (u.1 - n0) (u.2.1 - s0) (MQ below (QcM G (o, u)) args s (u.1 - n0) (u.2.1 - s0) (inA G)) (F0 mth pc lsA [cvv G x])) : Wst G p l e R s mth args below meth c (MQ below (QcM G (o, u)) args s (u.1 - n0) (u.2.1 - s0) (inA G)) (xM mi) n0 s0 pc ls [x] u := by
  subst ho
  intro H locs lsA hR hS hL h0 h3
  exact h H locs lsA hR hS (fun t ht _ => ⟨⟨rfl, by rw [ht]; exact hR⟩, hS.F ht⟩) hS.2.2
theorem so_ireturn (hr : meth.sig.returnType = rM mi) (hlocks : meth.locks = false) (F : FX G p s mth args c (cM mi) (xM mi) (clsN (oM mi))) (hv : vOK mi pc (.ireturn, nx, a, b, cc0, v, sw) = true) (hs : stpK (OA Q0) cf k (.ireturn, nx, a, b, cc0, v, sw) ls st u = some rr) : Wst G p l e R s mth args below meth c (MQ below (QcM G rr) args s (rr.2.1 - n0) (rr.2.2.1 - s0) (inA G)) (xM mi) n0 s0 pc ls st u := by
  obtain ⟨hx, hb, hml, hown, hts, hE⟩ := F
  have hv : (dk (cM mi) pc .ireturn 1 nx && (match (generalizing := false) cc0 with
      | 0 => decide (rM mi = some .int)
      | 1 => decide (rM mi = some .boolean)
      | 2 => decide (rM mi = some .char)
      | _ => decide (rM mi = some .byte))) = true := hv
  rw [Bool.and_eq_true] at hv
  obtain ⟨hd, hty⟩ := hv
  obtain ⟨hdec, rfl⟩ := dk_spec hd
  have key : ∀ {x : Int32} {ty : FieldType}, rM mi = some ty → narrow ty (.int x) = .int x → rr = (some (.int x), u) → Wst G p l e R s mth args below meth c (MQ below (QcM G rr) args s (rr.2.1 - n0) (rr.2.2.1 - s0) (inA G)) (xM mi) n0 s0 pc ls [.int x] u := by
    intro x ty h1 h2 h3
    subst h3
    exact Wst_ret rfl fun H locs lsA hR hS hq hf => W.zret hx hb (hr.trans h1) h2 hq hf hdec
  simp only [stpK] at hs
  split at hs
  · rename_i x
    split at hs
    · cases hs
      exact key (of_decide_eq_true hty) rfl rfl
    · rename_i c1 hc1
      obtain ⟨hq, hs⟩ := bT_some hs
      cases hs
      split at hty
      · exact absurd rfl hc1
      · exact key (of_decide_eq_true hty) (nrw_bool hq).1 rfl
      · refine key (of_decide_eq_true hty) ?_ rfl
        have hq : decide ((x.toUInt32 % 65536).toInt32 = x) = true := hq
        have hq := of_decide_eq_true hq
        show Value.int (x.toUInt32.toUInt16.toUInt32.toInt32) = _
        congr 1
      · refine key (of_decide_eq_true hty) ?_ rfl
        have hq : nrw cc0 x = true := hq
        rename_i n1 n2
        have hq : decide (x.toInt8.toInt32 = x) = true := by
          unfold nrw at hq
          split at hq
          · exact absurd rfl hc1
          · exact absurd rfl n1
          · exact absurd rfl n2
          · exact hq
        show Value.int x.toInt8.toInt32 = _
        rw [of_decide_eq_true hq]
  · cases hs
theorem so_lreturn (hr : meth.sig.returnType = rM mi) (hlocks : meth.locks = false) (F : FX G p s mth args c (cM mi) (xM mi) (clsN (oM mi))) (hv : vOK mi pc (.lreturn, nx, a, b, cc0, v, sw) = true) (hs : stpK (OA Q0) cf k (.lreturn, nx, a, b, cc0, v, sw) ls st u = some rr) : Wst G p l e R s mth args below meth c (MQ below (QcM G rr) args s (rr.2.1 - n0) (rr.2.2.1 - s0) (inA G)) (xM mi) n0 s0 pc ls st u := by
  obtain ⟨hx, hb, hml, hown, hts, hE⟩ := F
  have hv : (dk (cM mi) pc .lreturn 1 nx && decide (rM mi = some .long)) = true := hv
  rw [Bool.and_eq_true, decide_eq_true_eq] at hv
  obtain ⟨hd, hty⟩ := hv
  obtain ⟨hdec, rfl⟩ := dk_spec hd
  simp only [stpK] at hs
  split at hs
  · cases hs
    exact Wst_ret rfl fun H locs lsA hR hS hq hf => W.lret hx hb (hr.trans hty) hq hf hdec
  · cases hs
theorem so_areturn (hr : meth.sig.returnType = rM mi) (hlocks : meth.locks = false) (F : FX G p s mth args c (cM mi) (xM mi) (clsN (oM mi))) (hv : vOK mi pc (.areturn, nx, a, b, cc0, v, sw) = true) (hs : stpK (OA Q0) cf k (.areturn, nx, a, b, cc0, v, sw) ls st u = some rr) : Wst G p l e R s mth args below meth c (MQ below (QcM G rr) args s (rr.2.1 - n0) (rr.2.2.1 - s0) (inA G)) (xM mi) n0 s0 pc ls st u := by
  obtain ⟨hx, hb, hml, hown, hts, hE⟩ := F
  have hv : (dk (cM mi) pc .areturn 1 nx && (match (generalizing := false) rM mi with
      | some (.object _) => true
      | _ => false)) = true := hv
  rw [Bool.and_eq_true] at hv
  obtain ⟨hd, hty⟩ := hv
  obtain ⟨hdec, rfl⟩ := dk_spec hd
  simp only [stpK] at hs
  split at hs
  · rename_i r
    obtain ⟨r, rfl⟩ : ∃ z : Nat, z = r := ⟨r, rfl⟩
    cases hs
    split at hty
    · rename_i C hC
      exact Wst_ret rfl fun H locs lsA hR hS hq hf => W.aret hx hb (hr.trans hC) (Or.inl ⟨_, rfl⟩) (hE.ref r) hq hf hdec
    · cases hty
  · cases hs
theorem so_return (hr : meth.sig.returnType = rM mi) (hlocks : meth.locks = false) (F : FX G p s mth args c (cM mi) (xM mi) (clsN (oM mi))) (hv : vOK mi pc (.return_, nx, a, b, cc0, v, sw) = true) (hs : stpK (OA Q0) cf k (.return_, nx, a, b, cc0, v, sw) ls st u = some rr) : Wst G p l e R s mth args below meth c (MQ below (QcM G rr) args s (rr.2.1 - n0) (rr.2.2.1 - s0) (inA G)) (xM mi) n0 s0 pc ls st u := by
  obtain ⟨hx, hb, hml, hown, hts, hE⟩ := F
  have hv : (dk (cM mi) pc .return_ 1 nx && decide (rM mi = none)) = true := hv
  rw [Bool.and_eq_true, decide_eq_true_eq] at hv
  obtain ⟨hd, hty⟩ := hv
  obtain ⟨hdec, rfl⟩ := dk_spec hd
  simp only [stpK] at hs
  split at hs
  · cases hs
    intro H locs lsA hR hS hL h0 h3
    exact W.vret hx hb (hr.trans hty) (fun t ht _ => ⟨⟨rfl, by rw [ht]; exact hR⟩, hS.F ht⟩) hS.2.2 hdec
  · cases hs
theorem step_sound {row : Row} (hsn : Snd l G d) (hfr : d + 1 ≤ R.frames) (hlo : 60 * d + 60 ≤ R.locals) (hnm : meth.name = (yM mi).name) (hr : meth.sig.returnType = rM mi) (hlocks : meth.locks = false) (F : FX G p s mth args c (cM mi) (xM mi) (clsN (oM mi))) (hk : ∀ pc' ls' st' u', k pc' ls' st' u' = some rr → Wst G p l e R s mth args below meth c (MQ below (QcM G rr) args s (rr.2.1 - n0) (rr.2.2.1 - s0) (inA G)) (xM mi) n0 s0 pc' ls' st' u') (hm : ∀ pc' ls' st' u', k pc' ls' st' u' = some rr → u'.1 ≤ rr.2.1 ∧ u'.2.1 ≤ rr.2.2.1) (hRc : rr.2.1 - n0 ≤ R.cells ∧ rr.2.2.1 - s0 ≤ R.slots) (hv : vOK mi pc row = true) (hs : stpK (OA Q0) (callF (OA Q0) prog heds d) k row ls st u = some rr) : Wst G p l e R s mth args below meth c (MQ below (QcM G rr) args s (rr.2.1 - n0) (rr.2.2.1 - s0) (inA G)) (xM mi) n0 s0 pc ls st u := by
  obtain ⟨i, nx, a, b, cc0, v, sw⟩ := row
  cases i with
  | iload => exact so_iload F hk hv hs
  | iload_n => exact so_iload_n F hk hv hs
  | lload => exact so_lload F hk hv hs
  | lload_n => exact so_lload_n F hk hv hs
  | iconst => exact so_iconst F hk hv hs
  | bipush => exact so_bipush F hk hv hs
  | sipush => exact so_sipush F hk hv hs
  | lconst => exact so_lconst F hk hv hs
  | iadd => exact so_iadd F hk hv hs
  | isub => exact so_isub F hk hv hs
  | imul => exact so_imul F hk hv hs
  | iand => exact so_iand F hk hv hs
  | ior => exact so_ior F hk hv hs
  | ixor => exact so_ixor F hk hv hs
  | ishl => exact so_ishl F hk hv hs
  | ishr => exact so_ishr F hk hv hs
  | ineg => exact so_ineg F hk hv hs
  | land => exact so_land F hk hv hs
  | lor => exact so_lor F hk hv hs
  | iushr => exact so_iushr F hk hv hs
  | i2l => exact so_i2l F hk hv hs
  | l2i => exact so_l2i F hk hv hs
  | i2b => exact so_i2b F hk hv hs
  | i2s => exact so_i2s F hk hv hs
  | i2c => exact so_i2c F hk hv hs
  | lshl => exact so_lshl F hk hv hs
  | idiv => exact so_idiv F hk hv hs
  | irem => exact so_irem F hk hv hs
  | lcmp => exact so_lcmp F hk hv hs
  | pop => exact so_pop F hk hv hs
  | dup => exact so_dup F hk hv hs
  | dup2 => exact so_dup2 F hk hv hs
  | goto => exact so_goto F hk hv hs
  | aload => exact so_aload F hk hv hs
  | aload_n => exact so_aload_n F hk hv hs
  | istore => exact so_istore F hk hv hs
  | istore_n => exact so_istore_n F hk hv hs
  | astore => exact so_astore F hk hv hs
  | astore_n => exact so_astore_n F hk hv hs
  | iinc => exact so_iinc F hk hv hs
  | ldc => exact so_ldc F hk hv hs
  | ldc_w => exact so_ldc_w F hk hv hs
  | ldc2_w => exact so_ldc2_w F hk hv hs
  | iaload => exact so_iaload F hk hv hs
  | baload => exact so_baload F hk hv hs
  | laload => exact so_laload F hk hv hs
  | aaload => exact so_aaload F hk hv hs
  | iastore => exact so_iastore F hk hv hs
  | lastore => exact so_lastore F hk hv hs
  | bastore => exact so_bastore F hk hv hs
  | aastore => exact so_aastore F hk hv hs
  | getfield => exact so_getfield F hk hv hs
  | arraylength => exact so_arraylength F hk hv hs
  | lookupswitch => exact so_lookupswitch F hk hv hs
  | tableswitch => exact so_tableswitch F hk hv hs
  | getstatic => exact so_getstatic F hk hv hs
  | ifCond q j =>
    cases q with
    | eq => exact so_if_eq F hk hv hs
    | ne => exact so_if_ne F hk hv hs
    | lt => exact so_if_lt F hk hv hs
    | ge => exact so_if_ge F hk hv hs
    | gt => exact so_if_gt F hk hv hs
    | le => exact so_if_le F hk hv hs
  | if_icmp q j =>
    cases q with
    | eq => exact so_icmp_eq F hk hv hs
    | ne => exact so_icmp_ne F hk hv hs
    | lt => exact so_icmp_lt F hk hv hs
    | ge => exact so_icmp_ge F hk hv hs
    | gt => exact so_icmp_gt F hk hv hs
    | le => exact so_icmp_le F hk hv hs
  | putfield x => exact so_putfield F hnm hk hv hs
  | new x => exact so_new F hk hm hRc hv hs
  | newarray x => exact so_newarray F hk hm hRc hv hs
  | anewarray x => exact so_anewarray F hk hm hRc hv hs
  | invokevirtual x => exact so_invokevirtual hsn hfr hlo F hk hm hRc hv hs
  | invokespecial x =>
    by_cases h0 : cc0 = 0
    · subst h0
      exact so_objInit (by omega) (by omega) F hk hv hs
    · exact so_invokespecial h0 hsn hfr hlo F hk hm hRc hv hs
  | invokestatic x =>
    by_cases h0 : cc0 = 0
    · subst h0
      exact so_invokestatic hsn hfr hlo F hk hm hRc hv hs
    · exact so_copy h0 (by omega) (by omega) F hk hv hs
  | ireturn => exact so_ireturn hr hlocks F hv hs
  | lreturn => exact so_lreturn hr hlocks F hv hs
  | areturn => exact so_areturn hr hlocks F hv hs
  | return_ => exact so_return hr hlocks F hv hs
  | _ => cases hv
end
theorem argsL_at (v : Value) : ∀ (as : List Value) (i j : Nat), (argsL as)[i]? = some (some v) → ∀ G : Wd, (wZ G).category = 1 → (i + j, cvv G v) ∈ lv_args j (as.map (cvv G))
  | [], i, j, h => by cases h
  | w :: as, i, j, h => by
    intro G hZ
    have hc := cvv_cat G hZ w
    show (i + j, cvv G v) ∈ (j, cvv G w) :: lv_args (if (cvv G w).category = 2 then j + 2 else j + 1) (as.map (cvv G))
    rw [hc]
    have one : w.category ≠ 2 → (some w :: argsL as)[i]? = some (some v) → (i + j, cvv G v) ∈ (j, cvv G w) :: lv_args (if w.category = 2 then j + 2 else j + 1) (as.map (cvv G)) := by
      intro hw h
      rw [if_neg hw]
      cases i with
      | zero =>
        cases h
        rw [Nat.zero_add]
        exact List.mem_cons_self
      | succ i =>
        have := argsL_at v as i (j + 1) (by simpa using h) G hZ
        rw [show i + (j + 1) = i + 1 + j by omega] at this
        exact List.mem_cons_of_mem _ this
    have two : w.category = 2 → (some w :: none :: argsL as)[i]? = some (some v) → (i + j, cvv G v) ∈ (j, cvv G w) :: lv_args (if w.category = 2 then j + 2 else j + 1) (as.map (cvv G)) := by
      intro hw h
      rw [if_pos hw]
      match i, h with
      | 0, h =>
        cases h
        rw [Nat.zero_add]
        exact List.mem_cons_self
      | 1, h => cases h
      | i + 2, h =>
        have := argsL_at v as i (j + 2) (by simpa using h) G hZ
        rw [show i + (j + 2) = i + 2 + j by omega] at this
        exact List.mem_cons_of_mem _ this
    cases w with
    | long x => exact two rfl h
    | double x => exact two rfl h
    | _ => exact one (fun z => absurd (show (1 : Nat) = 2 from z) (by decide)) h
theorem argsL_len (G : Wd) (hZ : (wZ G).category = 1) : ∀ as : List Value, (lg_sl (as.map (cvv G))).length = (argsL as).length
  | [] => rfl
  | w :: as => by
    have hc := cvv_cat G hZ w
    have ih := argsL_len G hZ as
    show (lg_sl (cvv G w :: as.map (cvv G))).length = _
    have e : lg_sl (cvv G w :: as.map (cvv G)) = (if (cvv G w).category = 2 then [.val (cvv G w), .second] else [.val (cvv G w)]) ++ lg_sl (as.map (cvv G)) := by simp [lg_sl]
    rw [e, List.length_append, ih, hc]
    cases w with
    | long x => show 2 + _ = (some (Value.long x) :: none :: argsL as).length; simp only [List.length_cons]; omega
    | double x => show 2 + _ = (some (Value.double x) :: none :: argsL as).length; simp only [List.length_cons]; omega
    | int x => show 1 + _ = (some (Value.int x) :: argsL as).length; simp only [List.length_cons]; omega
    | ref x => show 1 + _ = (some (Value.ref x) :: argsL as).length; simp only [List.length_cons]; omega
    | float x => show 1 + _ = (some (Value.float x) :: argsL as).length; simp only [List.length_cons]; omega
    | null => show 1 + _ = (some Value.null :: argsL as).length; simp only [List.length_cons]; omega
    | retAddr x => show 1 + _ = (some (Value.retAddr x) :: argsL as).length; simp only [List.length_cons]; omega
section
variable {G : Wd} {p : Program} {l : Launch} {e : Env} {R : Room} {s : State} {mth : MethodId} {args : Array Value} {below : List Frame} {meth : Method} {c : Code} {n0 s0 mi d : Nat} {rr : Option Value × Mem}
theorem runN_le9 {n pc : Nat} {ls : Lo} {u : Mem} {r : Option Value × Mem} (h : runN (OA Q0) (callF (OA Q0) prog heds d) (prog mi) (heds mi) n pc ls u = some r) : LeM u r.2 :=
  runF_mono (OA Q0) _ _ _ opsLe_OA (callF_mono (OA Q0) prog heds opsLe_OA d) ((runF_some _ _ _ _).mpr ⟨n, h⟩)
theorem blk_le9 {n g pc : Nat} {ls : Lo} {st : List Value} {u : Mem} {r : Option Value × Mem} (h : blk (OA Q0) (callF (OA Q0) prog heds d) (prog mi) (heds mi) (runN (OA Q0) (callF (OA Q0) prog heds d) (prog mi) (heds mi) n) g pc ls st u = some r) : LeM u r.2 := by
  rcases blk_cases (OA Q0) _ opsLe_OA (callF_mono (OA Q0) prog heds opsLe_OA d) _ _ _ g pc ls st u r h with ⟨h1, -⟩ | ⟨pc', ls', m', h1, -, h2⟩
  · exact h1
  · exact opsLe_OA.2.1 _ _ _ h1 (runN_le9 h2)
theorem run_sound (hsn : Snd l G d) (hfr : d + 1 ≤ R.frames) (hlo : 60 * d + 60 ≤ R.locals) (hnm : meth.name = (yM mi).name) (hr : meth.sig.returnType = rM mi) (hlocks : meth.locks = false) (F : FX G p s mth args c (cM mi) (xM mi) (clsN (oM mi))) (hRc : rr.2.1 - n0 ≤ R.cells ∧ rr.2.2.1 - s0 ≤ R.slots) : ∀ (n pc : Nat) (ls : Lo) (u : Mem), runN (OA Q0) (callF (OA Q0) prog heds d) (prog mi) (heds mi) n pc ls u = some rr → Wst G p l e R s mth args below meth c (MQ below (QcM G rr) args s (rr.2.1 - n0) (rr.2.2.1 - s0) (inA G)) (xM mi) n0 s0 pc ls [] u := by
  intro n
  induction n with
  | zero => intro pc ls u h; cases h
  | succ n ih =>
    have key : ∀ (g pc : Nat) (ls : Lo) (st : List Value) (u : Mem), blk (OA Q0) (callF (OA Q0) prog heds d) (prog mi) (heds mi) (runN (OA Q0) (callF (OA Q0) prog heds d) (prog mi) (heds mi) n) g pc ls st u = some rr → Wst G p l e R s mth args below meth c (MQ below (QcM G rr) args s (rr.2.1 - n0) (rr.2.2.1 - s0) (inA G)) (xM mi) n0 s0 pc ls st u := by
      intro g
      induction g with
      | zero => intro pc ls st u h; cases h
      | succ g ihg =>
        intro pc ls st u h
        have h : (match prog mi pc with
          | none => none
          | some row => stpK (OA Q0) (callF (OA Q0) prog heds d) (fun pc' ls' st' m' => match heds mi pc' with
            | none => blk (OA Q0) (callF (OA Q0) prog heds d) (prog mi) (heds mi) (runN (OA Q0) (callF (OA Q0) prog heds d) (prog mi) (heds mi) n) g pc' ls' st' m'
            | some bs => match st' with
              | [] => runN (OA Q0) (callF (OA Q0) prog heds d) (prog mi) (heds mi) n pc' (lmask bs ls') m'
              | _ => none) row ls st u) = some rr := h
        cases hf : prog mi pc with
        | none => rw [hf] at h; cases h
        | some row =>
          rw [hf] at h
          dsimp only at h
          refine step_sound hsn hfr hlo hnm hr hlocks F ?_ ?_ hRc (vAll hf) h
          · intro pc' ls' st' u' hk
            cases hh : heds mi pc' with
            | none =>
              rw [hh] at hk
              exact ihg _ _ _ _ hk
            | some bs =>
              rw [hh] at hk
              dsimp only at hk
              cases st' with
              | nil => exact fun H locs lsA hR hS hL h0 h3 => ih _ _ _ hk H locs lsA hR hS (hL.mask bs) h0 h3
              | cons w ws => cases hk
          · intro pc' ls' st' u' hk
            cases hh : heds mi pc' with
            | none =>
              rw [hh] at hk
              exact blk_le9 hk
            | some bs =>
              rw [hh] at hk
              dsimp only at hk
              cases st' with
              | nil => exact runN_le9 hk
              | cons w ws => cases hk
    intro pc ls u h
    exact key 700 pc ls [] u h
end
theorem plain_at {mi : Nat} (h : has2 kCode mi = true) (h2 : (Nat.ble 210 mi && Nat.ble mi 212) = false) : plainName (yM mi).cls = true := by
  obtain ⟨w, hw⟩ := has2_spec h
  have h1 := List.all_eq_true.mp kNm2 _ hw
  rw [Bool.or_eq_true] at h1
  rcases h1 with h1 | h1
  · exact h1
  · rw [h2] at h1; cases h1
theorem snd_all (l : Launch) (G : Wd) : ∀ d, Snd l G d := by
  intro d
  induction d with
  | zero => intro mi as u rr _ _ _ h; cases h
  | succ d ih =>
    intro mi as u rr hcode hmath hlen h
    have h : runF (OA Q0) (callF (OA Q0) prog heds d) (prog mi) (heds mi) 0 (argsL as) u = some rr := h
    obtain ⟨n, hn⟩ := (runF_some _ _ _ _).mp h
    unfold cMet
    refine Met.ofW (cc := cM mi) (maxL := xM mi) (ret := rM mi) (plain_at hcode hmath) rfl ?_
    intro p e s m args below meth c s₁ B hml hv
    obtain ⟨rfl, hR, hE⟩ := hv
    have hts := atoms_spec (ws := wsM mi) B.pre
    have hown : s.vm.findClass (yM mi).cls = some m.cls := findClass_of_methodNamed B.named
    rw [(nm_at hcode).1] at hown
    have F : FX G p s m (as.map (cvv G)).toArray c (cM mi) (xM mi) (clsN (oM mi)) := ⟨B.exec, B.bytes, hml, hown, fun w hw => hts w (List.mem_cons_of_mem _ hw), hE⟩
    have hl := lv_entry (as.map (cvv G)) (n := xM mi) (by rw [argsL_len G hE.cat]; exact hlen)
    rw [lg_entry_eq]
    generalize (lg_sl (as.map (cvv G)) ++ List.replicate (xM mi - (lg_sl (as.map (cvv G))).length) Slot.unset).toArray = lsA at hl ⊢
    have hL : LR G lsA (xM mi) (argsL as) := ⟨hl.1, hl.2.1, fun i v hi => by
      have := argsL_at v as i 0 hi G hE.cat
      rw [Nat.add_zero] at this
      exact hl.2.2 _ this⟩
    have K := run_sound (p := p) (l := l) (e := e) (R := (headSpec (wsM mi) (rmM (d + 1) (rr.2.1 - u.1) (rr.2.2.1 - u.2.1))).room) (s := s) (mth := m) (args := (as.map (cvv G)).toArray) (below := below) (meth := meth) (c := c) (n0 := u.1) (s0 := u.2.1) (rr := rr) ih (show d + 1 ≤ d + 1 by omega) (show 60 * d + 60 ≤ 60 * (d + 1) by omega) (name_of_methodNamed B.named B.method).1 B.returns B.notSynchronized F ⟨Nat.le_refl _, Nat.le_refl _⟩ n 0 (argsL as) u hn s.heap [] lsA hR va_S.rf hL (Nat.le_refl _) (Nat.le_refl _)
    rw [Nat.sub_self, Nat.sub_self] at K
    exact K
