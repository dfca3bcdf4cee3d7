/-! The law's own run is one of the machine: as part 24, for a class without fields. -/
theorem kFld15 : kFld.all (fun q => !Nat.beq q.1 15) = true := by decide +kernel
theorem no_put {mi pc xi nx a b cc0 : Nat} {v : Int32} {sw : List (Int32 × Nat)} (h : oM mi = 15) : ¬ vOK mi pc (.putfield xi, nx, a, b, cc0, v, sw) = true := by
  intro hv
  have hv : (dk (cM mi) pc (.putfield xi) 3 nx && (Nat.ble a 9 && (fndF (oM mi) xi a b && _))) = true := hv
  rw [Bool.and_eq_true, Bool.and_eq_true, Bool.and_eq_true] at hv
  have h2 := hv.2.2.1
  rw [h] at h2
  unfold fndF at h2
  rw [List.any_eq_true] at h2
  obtain ⟨q, hq, h3⟩ := h2
  rw [Bool.and_eq_true] at h3
  have h4 := List.all_eq_true.mp kFld15 q hq
  rw [h3.1] at h4
  cases h4
section
variable {G : Wd} {p : Program} {l : Launch} {e : Env} {R : Room} {s : State} {mth : MethodId} {args : Array Value} {below : List Frame} {meth : Method} {c : Code} {n0 s0 mi pc d : Nat} {k : Nat → Lo → List Value → Mem → Rs Mem} {ls : Lo} {st : List Value} {u : Mem} {rr : Option Value × Mem} {nx a b cc0 : Nat} {v : Int32} {sw : List (Int32 × Nat)} {cf : Nat → List Value → Mem → Rs Mem}
theorem step_soundL {row : Row} (hsn : Snd l G d) (hfr : d + 1 ≤ R.frames) (hlo : 60 * d + 60 ≤ R.locals) (hnm : oM mi = 15) (hr : meth.sig.returnType = rM mi) (hlocks : meth.locks = false) (F : FX G p s mth args c (cM mi) (xM mi) (clsN (oM mi))) (hk : ∀ pc' ls' st' u', k pc' ls' st' u' = some rr → Wst G p l e R s mth args below meth c (MQ below (QcM G rr) args s (rr.2.1 - n0) (rr.2.2.1 - s0) (inA G)) (xM mi) n0 s0 pc' ls' st' u') (hm : ∀ pc' ls' st' u', k pc' ls' st' u' = some rr → u'.1 ≤ rr.2.1 ∧ u'.2.1 ≤ rr.2.2.1) (hRc : rr.2.1 - n0 ≤ R.cells ∧ rr.2.2.1 - s0 ≤ R.slots) (hv : vOK mi pc row = true) (hs : stpK (OA Q0) (callF (OA Q0) prog heds d) k row ls st u = some rr) : Wst G p l e R s mth args below meth c (MQ below (QcM G rr) args s (rr.2.1 - n0) (rr.2.2.1 - s0) (inA G)) (xM mi) n0 s0 pc ls st u := by
  obtain ⟨i, nx, a, b, cc0, v, sw⟩ := row
  cases i with
  | iload => exact so_iload F hk hv hs
  | iload_n => exact so_iload_n F hk hv hs
  | lload => exact so_lload F hk hv hs
  | lload_n => exact so_lload_n F hk hv hs
  | iconst => exact so_iconst F hk hv hs
  | bipush => exact so_bipush F hk hv hs
  | sipush => exact so_sipush F hk hv hs
  | lconst => exact so_lconst F hk hv hs
  | iadd => exact so_iadd F hk hv hs
  | isub => exact so_isub F hk hv hs
  | imul => exact so_imul F hk hv hs
  | iand => exact so_iand F hk hv hs
  | ior => exact so_ior F hk hv hs
  | ixor => exact so_ixor F hk hv hs
  | ishl => exact so_ishl F hk hv hs
  | ishr => exact so_ishr F hk hv hs
  | ineg => exact so_ineg F hk hv hs
  | land => exact so_land F hk hv hs
  | lor => exact so_lor F hk hv hs
  | iushr => exact so_iushr F hk hv hs
  | i2l => exact so_i2l F hk hv hs
  | l2i => exact so_l2i F hk hv hs
  | i2b => exact so_i2b F hk hv hs
  | i2s => exact so_i2s F hk hv hs
  | i2c => exact so_i2c F hk hv hs
  | lshl => exact so_lshl F hk hv hs
  | idiv => exact so_idiv F hk hv hs
  | irem => exact so_irem F hk hv hs
  | lcmp => exact so_lcmp F hk hv hs
  | pop => exact so_pop F hk hv hs
  | dup => exact so_dup F hk hv hs
  | dup2 => exact so_dup2 F hk hv hs
  | goto => exact so_goto F hk hv hs
  | aload => exact so_aload F hk hv hs
  | aload_n => exact so_aload_n F hk hv hs
  | istore => exact so_istore F hk hv hs
  | istore_n => exact so_istore_n F hk hv hs
  | astore => exact so_astore F hk hv hs
  | astore_n => exact so_astore_n F hk hv hs
  | iinc => exact so_iinc F hk hv hs
  | ldc => exact so_ldc F hk hv hs
  | ldc_w => exact so_ldc_w F hk hv hs
  | ldc2_w => exact so_ldc2_w F hk hv hs
  | iaload => exact so_iaload F hk hv hs
  | baload => exact so_baload F hk hv hs
  | laload => exact so_laload F hk hv hs
  | aaload => exact so_aaload F hk hv hs
  | iastore => exact so_iastore F hk hv hs
  | lastore => exact so_lastore F hk hv hs
  | bastore => exact so_bastore F hk hv hs
  | aastore => exact so_aastore F hk hv hs
  | getfield => exact so_getfield F hk hv hs
  | arraylength => exact so_arraylength F hk hv hs
  | lookupswitch => exact so_lookupswitch F hk hv hs
  | tableswitch => exact so_tableswitch F hk hv hs
  | getstatic => exact so_getstatic F hk hv hs
  | ifCond q j =>
    cases q with
    | eq => exact so_if_eq F hk hv hs
    | ne => exact so_if_ne F hk hv hs
    | lt => exact so_if_lt F hk hv hs
    | ge => exact so_if_ge F hk hv hs
    | gt => exact so_if_gt F hk hv hs
    | le => exact so_if_le F hk hv hs
  | if_icmp q j =>
    cases q with
    | eq => exact so_icmp_eq F hk hv hs
    | ne => exact so_icmp_ne F hk hv hs
    | lt => exact so_icmp_lt F hk hv hs
    | ge => exact so_icmp_ge F hk hv hs
    | gt => exact so_icmp_gt F hk hv hs
    | le => exact so_icmp_le F hk hv hs
  | putfield x => exact absurd hv (no_put hnm)
  | new x => exact so_new F hk hm hRc hv hs
  | newarray x => exact so_newarray F hk hm hRc hv hs
  | anewarray x => exact so_anewarray F hk hm hRc hv hs
  | invokevirtual x => exact so_invokevirtual hsn hfr hlo F hk hm hRc hv hs
  | invokespecial x =>
    by_cases h0 : cc0 = 0
    · subst h0
      exact so_objInit (by omega) (by omega) F hk hv hs
    · exact so_invokespecial h0 hsn hfr hlo F hk hm hRc hv hs
  | invokestatic x =>
    by_cases h0 : cc0 = 0
    · subst h0
      exact so_invokestatic hsn hfr hlo F hk hm hRc hv hs
    · exact so_copy h0 (by omega) (by omega) F hk hv hs
  | ireturn => exact so_ireturn hr hlocks F hv hs
  | lreturn => exact so_lreturn hr hlocks F hv hs
  | areturn => exact so_areturn hr hlocks F hv hs
  | return_ => exact so_return hr hlocks F hv hs
  | _ => cases hv
end
section
variable {G : Wd} {p : Program} {l : Launch} {e : Env} {R : Room} {s : State} {mth : MethodId} {args : Array Value} {below : List Frame} {meth : Method} {c : Code} {n0 s0 mi d : Nat} {rr : Option Value × Mem}
theorem run_soundL (hsn : Snd l G d) (hfr : d + 1 ≤ R.frames) (hlo : 60 * d + 60 ≤ R.locals) (hnm : oM mi = 15) (hr : meth.sig.returnType = rM mi) (hlocks : meth.locks = false) (F : FX G p s mth args c (cM mi) (xM mi) (clsN (oM mi))) (hRc : rr.2.1 - n0 ≤ R.cells ∧ rr.2.2.1 - s0 ≤ R.slots) : ∀ (n pc : Nat) (ls : Lo) (u : Mem), runN (OA Q0) (callF (OA Q0) prog heds d) (prog mi) (heds mi) n pc ls u = some rr → Wst G p l e R s mth args below meth c (MQ below (QcM G rr) args s (rr.2.1 - n0) (rr.2.2.1 - s0) (inA G)) (xM mi) n0 s0 pc ls [] u := by
  intro n
  induction n with
  | zero => intro pc ls u h; cases h
  | succ n ih =>
    have key : ∀ (g pc : Nat) (ls : Lo) (st : List Value) (u : Mem), blk (OA Q0) (callF (OA Q0) prog heds d) (prog mi) (heds mi) (runN (OA Q0) (callF (OA Q0) prog heds d) (prog mi) (heds mi) n) g pc ls st u = some rr → Wst G p l e R s mth args below meth c (MQ below (QcM G rr) args s (rr.2.1 - n0) (rr.2.2.1 - s0) (inA G)) (xM mi) n0 s0 pc ls st u := by
      intro g
      induction g with
      | zero => intro pc ls st u h; cases h
      | succ g ihg =>
        intro pc ls st u h
        have h : (match prog mi pc with
          | none => none
          | some row => stpK (OA Q0) (callF (OA Q0) prog heds d) (fun pc' ls' st' m' => match heds mi pc' with
            | none => blk (OA Q0) (callF (OA Q0) prog heds d) (prog mi) (heds mi) (runN (OA Q0) (callF (OA Q0) prog heds d) (prog mi) (heds mi) n) g pc' ls' st' m'
            | some bs => match st' with
              | [] => runN (OA Q0) (callF (OA Q0) prog heds d) (prog mi) (heds mi) n pc' (lmask bs ls') m'
              | _ => none) row ls st u) = some rr := h
        cases hf : prog mi pc with
        | none => rw [hf] at h; cases h
        | some row =>
          rw [hf] at h
          dsimp only at h
          refine step_soundL hsn hfr hlo hnm hr hlocks F ?_ ?_ hRc (vAll hf) h
          · intro pc' ls' st' u' hk
            cases hh : heds mi pc' with
            | none =>
              rw [hh] at hk
              exact ihg _ _ _ _ hk
            | some bs =>
              rw [hh] at hk
              dsimp only at hk
              cases st' with
              | nil => exact fun H locs lsA hR hS hL h0 h3 => ih _ _ _ hk H locs lsA hR hS (hL.mask bs) h0 h3
              | cons w ws => cases hk
          · intro pc' ls' st' u' hk
            cases hh : heds mi pc' with
            | none =>
              rw [hh] at hk
              exact blk_le9 hk
            | some bs =>
              rw [hh] at hk
              dsimp only at hk
              cases st' with
              | nil => exact runN_le9 hk
              | cons w ws => cases hk
    intro pc ls u h
    exact key 700 pc ls [] u h
end
