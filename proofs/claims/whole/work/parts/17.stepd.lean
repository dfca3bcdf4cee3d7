/-! steps: writes of the memory -/
theorem bM_some {M : Type} {r : Option M} {f : M → Rs M} {x : Option Value × M} (h : bM r f = some x) : ∃ q, r = some q ∧ f q = some x := by
  cases r with
  | none => cases h
  | some q => exact ⟨q, rfl, h⟩
theorem up2_row {α : Type} {f : Nat → Nat → α} {k i j : Nat} {v : α} (h : j ≠ k) : up2 f k i v j = f j := by
  funext b
  unfold up2
  rw [if_neg h]
theorem up2_self {α : Type} (f : Nat → Nat → α) (k i : Nat) (v : α) : up2 f k i v k = fun j => if j = i then v else f k j := by
  funext b
  unfold up2
  rw [if_pos rfl]
theorem cel_congr {G : Wd} {u v : Mem} {j : Nat} (h1 : mH v j = mH u j) (h2 : mI v j = mI u j) (h3 : mL v j = mL u j) (h4 : mR v j = mR u j) : cel G v j = cel G u j := by
  have f : ∀ c, fvl G v c j = fvl G u c j := fun c => by
    funext i
    unfold fvl
    rw [h2, h4]
  have g : ∀ t, cont G v t j = cont G u t j := fun t => by
    unfold cont
    rw [h2, h3, h4]
  unfold cel
  rw [h1]
  split
  · rw [f]
  · rw [g]
theorem WF.putI {G : Wd} {u : Mem} (h : WF G u) {k : Nat} (hk : k < u.1) (i : Nat) (x : Int32) : WF G (mPutI u k i x) := by
  refine ⟨h.1, h.2.1, fun q hq => ⟨(h.2.2 q hq).1, fun j => ?_, (h.2.2 q hq).2.2⟩⟩
  have := h.1.1
  show up2 (mI u) k i x q j = _
  rw [up2_row (by omega)]
  exact (h.2.2 q hq).2.1 j
theorem WF.putL {G : Wd} {u : Mem} (h : WF G u) (k i : Nat) (x : Int64) : WF G (mPutL u k i x) := ⟨h.1, h.2.1, h.2.2⟩
theorem WF.putR {G : Wd} {u : Mem} (h : WF G u) {k : Nat} (hk : k < u.1) (i : Nat) {x : Nat} (hx : x ≠ 1999) : WF G (mPutR u k i x) := by
  have h0 := h.1.1
  refine ⟨⟨h.1.1, h.1.2.1, fun a b q hq => ?_⟩, h.2.1, fun q hq => ⟨(h.2.2 q hq).1, (h.2.2 q hq).2.1, ?_⟩⟩
  · have hq : up2 (mR u) k i (some x) a b = some q := hq
    unfold up2 at hq
    split at hq
    · split at hq
      · cases hq
        exact hx
      · exact h.1.2.2 _ _ _ hq
    · exact h.1.2.2 _ _ _ hq
  · show up2 (mR u) k i (some x) q 0 = _
    rw [up2_row (by omega)]
    exact (h.2.2 q hq).2.2
theorem HR.put {G : Wd} {u v : Mem} {H H1 : Heap} {k : Nat} (hR : HR G u H) (hk : k < u.1) (hW : WF G v) (hn : v.1 = u.1) (ho : ∀ j, j ≠ k → cel G v j = cel G u j) (z : H1.size = H.size) (oq : ∀ q : Nat, q ≠ wB G + k → H1[q]? = H[q]?) (e : va_at (wD G) vwCl (wB G + k, cel G v k) H1) : HR G v H1 := by
  refine ⟨by rw [z, hn]; exact hR.1, hW, ?_⟩
  have h := hR.2.2.set (pw_D G u) (pw_get hk) e oq
  rw [pw_set hn hk rfl ho] at h
  exact h
