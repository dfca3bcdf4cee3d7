/-! The environment of a run, and what holds at one place of a frame. -/
noncomputable def wG : List Cond := lw_tbl.filter goodWord
theorem wG_mem {w : Cond} (h : w ∈ lw_tbl) (g : goodWord w = true) : w ∈ wG := List.mem_filter.mpr ⟨h, g⟩
theorem kAt_mem {q : Nat} {w : Cond} (h : kAt q w = true) : w ∈ wG := by
  unfold kAt at h
  rw [Bool.and_eq_true, decide_eq_true_eq] at h
  exact wG_mem (List.mem_of_getElem? h.1) h.2
theorem wG_good : ∀ w ∈ wG, w ∈ wG ∧ ((w.onTables && w.keeps) = true ∨ ∃ ty, w = .arrayClass ty) := fun w h => ⟨h, good_of_word (List.mem_filter.mp h).2⟩
def GL (G : Wd) (U : State) : Prop :=
  ((wZ G = .null ∨ ∃ t, wZ G = .ref t) ∧ wO G 0 < wB G ∧ wB G ≤ U.heap.size) ∧
  (∀ j, j < 4 → va_Z RX8 (stN j) "[I" (.ref (wO G (j + 1))) (inA G) U U.heap ∧ va_T .int (wO G (j + 1)) 7 (fun i => .int ((stV j).getD i 0)) (inA G) U U.heap) ∧
  va_Z "java/lang/String" "COMPACT_STRINGS" "Z" (.int 1) (inA G) U U.heap ∧
  va_Z "jdk/internal/util/Preconditions" "SIOOBE_FORMATTER" "Ljava/util/function/BiFunction;" (wZ G) (inA G) U U.heap ∧
  (∀ i, i < 5 → vk_R RX6 (skK i) (skT i) (wO G (10 + i)) U) ∧
  vk_S 5 skL skB (fun i => wO G (10 + i)) (fun i => wO G (20 + i)) (inA G) U U.heap ∧
  (∀ q ∈ kNst, va_Nw (.methodLinkNest (clsN q.1) q.2.1 (yM q.2.2.1) RX8) U) ∧
  (∀ j, j < 3 → va_Nw (.fieldLinkNest RX0 (nfK j) RX8 (stN j) "[I" RX8) U) ∧
  (va_AO RX1 U ∧ va_AO RX7 U ∧ va_AO RX5 U) ∧
  va_X (wO G 0) (wL G) (wX G) U U.heap ∧ va_K (wD G) vwCl (tysW G) U
theorem GL.next {G : Wd} {s U : State} {H : Heap} {locs : List Loc} (h : GL G s) (hU : U.heap = H) (hW : s.WarmedH U.vm) (hS : va_S (inA G) s.heap H locs) : GL G U := by
  obtain ⟨⟨h1, h2, h3⟩, h4, h5, h6, h7, h8, h9, h10, ⟨h11, h12, h13⟩, h14, h15⟩ := h
  subst hU
  have hvm := hW.alike
  have hk := hS.2.1
  have hX : ¬ inA G (wO G 0) := fun q => by
    have q : wB G ≤ wO G 0 := q
    omega
  refine ⟨⟨h1, h2, Nat.le_trans h3 hS.1⟩, fun j hj => ⟨va_Z.moved hvm ((h4 j hj).1.kept hk), va_T.moved hvm ((h4 j hj).2.kept hk)⟩, va_Z.moved hvm (h5.kept hk), va_Z.moved hvm (h6.kept hk), fun i hi => (h7 i hi).warm hW, vk_S.moved hvm (h8.kept hk), fun q hq => va_Nw.warmM hW (h9 q hq), fun j hj => va_Nw.warmF hW (h10 j hj), ⟨h11.moved hvm, h12.moved hvm, h13.moved hvm⟩, va_X.moved hvm (h14.kept (hk _ (by omega) hX)), va_K.moved hvm h15⟩
theorem GL.cat {G : Wd} {U : State} (h : GL G U) : (wZ G).category = 1 := by
  rcases h.1.1 with q | ⟨t, q⟩ <;> rw [q] <;> rfl
theorem GL.ref {G : Wd} {U : State} (h : GL G U) (x : Nat) : cvv G (.ref x) = .null ∨ ∃ t, cvv G (.ref x) = .ref t := by
  show bT (Nat.beq x 1999) (wZ G) (.ref (adr G x)) = .null ∨ ∃ t, bT (Nat.beq x 1999) (wZ G) (.ref (adr G x)) = .ref t
  cases Nat.beq x 1999
  · exact Or.inr ⟨_, rfl⟩
  · exact h.1.1
/-- the frame of one method -/
def FX (G : Wd) (p : Program) (s : State) (mth : MethodId) (args : Array Value) (c : Code) (cc : ByteArray) (nL : Nat) (own : String) : Prop :=
  p.tables.exec = Jvm.exec ∧ c.code = cc ∧ c.maxLocals = nL ∧ s.vm.findClass own = some mth.cls ∧ (∀ w ∈ wG, w.before args s = true) ∧ GL G s
section
variable {G : Wd} {p : Program} {l : Launch} {e : Env} {R : Room} {s : State} {mth : MethodId} {args : Array Value} {below : List Frame} {meth : Method} {c : Code} {Q : State → Prop} {cc : ByteArray} {nL n0 s0 : Nat} {own : String}
/-- from this place the machine comes to Q -/
def Wst (G : Wd) (p : Program) (l : Launch) (e : Env) (R : Room) (s : State) (mth : MethodId) (args : Array Value) (below : List Frame) (meth : Method) (c : Code) (Q : State → Prop) (nL n0 s0 : Nat) (pc : Nat) (ls : Lo) (st : List Value) (u : Mem) : Prop :=
  ∀ (H : Heap) (locs : List Loc) (lsA : Array Slot), HR G u H → va_S (inA G) s.heap H locs → LR G lsA nL ls → n0 ≤ u.1 → s0 ≤ u.2.1 → W p l e R s mth args below meth c H locs (u.1 - n0) (u.2.1 - s0) Q (F0 mth pc lsA (st.map (cvv G)))
theorem Wst.of {pc nx : Nat} {ls : Lo} {st st' : List Value} {u : Mem} (h : ∀ {H : Heap} {locs : List Loc} {k n : Nat} {lsA : Array Slot}, W p l e R s mth args below meth c H locs k n Q (F0 mth nx lsA (st'.map (cvv G))) → W p l e R s mth args below meth c H locs k n Q (F0 mth pc lsA (st.map (cvv G)))) (k : Wst G p l e R s mth args below meth c Q nL n0 s0 nx ls st' u) : Wst G p l e R s mth args below meth c Q nL n0 s0 pc ls st u :=
  fun H locs lsA hR hS hL h0 h1 => h (k H locs lsA hR hS hL h0 h1)
end
