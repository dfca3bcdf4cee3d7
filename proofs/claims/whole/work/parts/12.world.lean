/-! The general memory: cells are made; slots from 1000 on were there before, and are never written. -/
abbrev Mem : Type := Nat × Nat × (Nat → Sh) × (Nat → Nat → Int32) × (Nat → Nat → Int64) × (Nat → Nat → Option Nat)
def mH (u : Mem) : Nat → Sh := u.2.2.1
def mI (u : Mem) : Nat → Nat → Int32 := u.2.2.2.1
def mL (u : Mem) : Nat → Nat → Int64 := u.2.2.2.2.1
def mR (u : Mem) : Nat → Nat → Option Nat := u.2.2.2.2.2
def mNew (u : Mem) (s : Sh) (n : Nat) : Mem := (u.1 + 1, u.2.1 + n, upR (mH u) u.1 s, upR (mI u) u.1 (fun _ => 0), upR (mL u) u.1 (fun _ => 0), upR (mR u) u.1 (fun _ => none))
def mPutI (u : Mem) (k i : Nat) (v : Int32) : Mem := (u.1, u.2.1, mH u, up2 (mI u) k i v, mL u, mR u)
def mPutL (u : Mem) (k i : Nat) (v : Int64) : Mem := (u.1, u.2.1, mH u, mI u, up2 (mL u) k i v, mR u)
def mPutR (u : Mem) (k i q : Nat) : Mem := (u.1, u.2.1, mH u, mI u, mL u, up2 (mR u) k i (some q))
def mCpy (u : Mem) (t rs sp rd dp n : Nat) : Mem := match t with
  | 0 => (u.1, u.2.1, mH u, upR (mI u) rd (va_cpy (mI u rs) (mI u rd) sp dp n), mL u, mR u)
  | _ => (u.1, u.2.1, mH u, mI u, upR (mL u) rd (va_cpy (mL u rs) (mL u rd) sp dp n), mR u)
def OA (Q : Qs) : Ops Mem := (Q, mH, mI, mL, mR, mPutI, mPutL, fun u k i q => bT (Nat.beq q 1999) none (some (mPutR u k i q)), fun u s n => bT (Nat.ble 1000 u.1) none (some (u.1, mNew u s n)), mCpy)
/-- what the run is over: the first address of the cells made, the addresses of the cells that were there, a static that is only carried, the classes' numbers, the array classes -/
abbrev Wd : Type := Nat × (Nat → Nat) × Value × va_G × (Nat → ClassId) × Nat × (Nat → Int32)
def wB (G : Wd) : Nat := G.1
def wO (G : Wd) : Nat → Nat := G.2.1
def wZ (G : Wd) : Value := G.2.2.1
def wD (G : Wd) : va_G := G.2.2.2.1
def wA (G : Wd) : Nat → ClassId := G.2.2.2.2.1
def wL (G : Wd) : Nat := G.2.2.2.2.2.1
def wX (G : Wd) : Nat → Int32 := G.2.2.2.2.2.2
def adr (G : Wd) (k : Nat) : Nat := bT (Nat.ble 1000 k) (wO G (k - 1000)) (wB G + k)
def cvv (G : Wd) (v : Value) : Value := match v with
  | .ref k => bT (Nat.beq k 1999) (wZ G) (.ref (adr G k))
  | v => v
def fvl (G : Wd) (u : Mem) (c k i : Nat) : Value := bT (isRf (tyF c i)) (va_rf ((mR u k i).map (adr G))) (.int (mI u k i))
def cont (G : Wd) (u : Mem) (t k : Nat) : (Nat → Int32) ⊕ (Nat → Int64) ⊕ (Nat → UInt32) ⊕ (Nat → UInt64) ⊕ (Nat → Option Nat) := match t with
  | 2 => .inr (.inl (mL u k))
  | 4 => .inr (.inr (.inr (.inr fun j => (mR u k j).map (adr G))))
  | 5 => .inr (.inr (.inr (.inr fun j => (mR u k j).map (adr G))))
  | 6 => .inr (.inr (.inr (.inr fun j => (mR u k j).map (adr G))))
  | _ => .inl (mI u k)
def cel (G : Wd) (u : Mem) (k : Nat) : va_E := match mH u k with
  | .inl c => .inr (c, (List.range (nF c)).map (fvl G u c k))
  | .inr (t, n) => .inl (wA G t, n, cont G u t k)
def pw (G : Wd) (u : Mem) : va_W := (List.range u.1).map fun k => (wB G + k, cel G u k)
def tysW (G : Wd) : List (ClassId × FieldType) := (List.range 7).map fun t => (wA G t, tyA t)
def inA (G : Wd) : Nat → Prop := fun q => wB G ≤ q
theorem pw_get {G : Wd} {u : Mem} {k : Nat} (h : k < u.1) : (pw G u)[k]? = some (wB G + k, cel G u k) := by simp [pw, h]
theorem pw_len (G : Wd) (u : Mem) : (pw G u).length = u.1 := by simp [pw]
theorem pw_D (G : Wd) (u : Mem) : va_D (inA G) (pw G u) := by
  refine ⟨fun i j a b hi hj e => ?_, fun k q hk => ?_⟩
  · have h1 : i < u.1 := by rw [← pw_len G u]; exact (List.getElem?_eq_some_iff.mp hi).1
    have h2 : j < u.1 := by rw [← pw_len G u]; exact (List.getElem?_eq_some_iff.mp hj).1
    rw [pw_get h1] at hi
    rw [pw_get h2] at hj
    cases hi
    cases hj
    simp only at e
    omega
  · have h1 : k < u.1 := by rw [← pw_len G u]; exact (List.getElem?_eq_some_iff.mp hk).1
    rw [pw_get h1] at hk
    cases hk
    show wB G ≤ wB G + k
    omega
theorem pw_set {G : Wd} {u v : Mem} {k : Nat} {e : va_E} (hn : v.1 = u.1) (hk : k < u.1) (he : cel G v k = e) (ho : ∀ j, j ≠ k → cel G v j = cel G u j) : (pw G u).set k (wB G + k, e) = pw G v := by
  apply List.ext_getElem?
  intro j
  by_cases h : j = k
  · subst h
    rw [List.getElem?_set_self (by rw [pw_len]; exact hk), pw_get (by omega), he]
  · rw [List.getElem?_set_ne (Ne.symm h)]
    by_cases hj : j < u.1
    · rw [pw_get hj, pw_get (by omega), ho j h]
    · rw [List.getElem?_eq_none (by rw [pw_len]; omega), List.getElem?_eq_none (by rw [pw_len]; omega)]
theorem pw_push {G : Wd} {u v : Mem} {e : va_E} (hn : v.1 = u.1 + 1) (he : cel G v u.1 = e) (ho : ∀ j, j < u.1 → cel G v j = cel G u j) : pw G u ++ [(wB G + u.1, e)] = pw G v := by
  apply List.ext_getElem?
  intro j
  by_cases hj : j < u.1
  · rw [List.getElem?_append_left (by rw [pw_len]; exact hj), pw_get hj, pw_get (by omega), ho j hj]
  · rw [List.getElem?_append_right (by rw [pw_len]; omega), pw_len]
    by_cases h : j = u.1
    · subst h
      rw [Nat.sub_self, pw_get (by omega), he]
      rfl
    · have h9 : (pw G v)[j]? = none := List.getElem?_eq_none (by rw [pw_len]; omega)
      have h8 : ([(wB G + u.1, e)] : va_W)[j - u.1]? = none := List.getElem?_eq_none (by show 1 ≤ j - u.1; omega)
      rw [h9, h8]
/-- locals -/
def LR (G : Wd) (lsA : Array Slot) (nL : Nat) (ls : Lo) : Prop := lsA.size = nL ∧ lv_wf lsA ∧ ∀ (i : Nat) (v : Value), ls[i]? = some (some v) → lsA[i]? = some (.val (cvv G v))
def asc (G : Wd) (ls : Lo) : List (Nat × Value) := (List.range ls.length).filterMap fun i => match ls[i]? with
  | some (some v) => some (i, cvv G v)
  | _ => none
theorem asc_mem {G : Wd} {ls : Lo} {q : Nat × Value} : q ∈ asc G ls ↔ ∃ v, ls[q.1]? = some (some v) ∧ q.2 = cvv G v := by
  unfold asc
  rw [List.mem_filterMap]
  constructor
  · rintro ⟨i, hi, h⟩
    split at h
    · rename_i v hv
      cases h
      exact ⟨v, hv, rfl⟩
    · cases h
  · rintro ⟨v, hv, hq⟩
    refine ⟨q.1, List.mem_range.mpr (List.getElem?_eq_some_iff.mp hv).1, ?_⟩
    rw [hv]
    simp [← hq]
theorem LR.has {G : Wd} {lsA : Array Slot} {nL : Nat} {ls : Lo} (h : LR G lsA nL ls) : lv_has lsA nL (asc G ls) := ⟨h.1, h.2.1, fun q hq => by
  obtain ⟨v, hv, e⟩ := asc_mem.mp hq
  rw [e]
  exact h.2.2 _ _ hv⟩
theorem lset_get (v : Option Value) : ∀ (l : Lo) (i j : Nat) (w : Value), (lset l i v)[j]? = some (some w) → (j = i ∧ v = some w) ∨ (j ≠ i ∧ l[j]? = some (some w))
  | [], 0, j, w, h => by
    cases j with
    | zero => left; simpa [lset] using h
    | succ j => simp [lset] at h
  | [], n + 1, j, w, h => by
    cases j with
    | zero => simp [lset] at h
    | succ j =>
      have h' : (lset [] n v)[j]? = some (some w) := by simpa [lset] using h
      rcases lset_get v [] n j w h' with ⟨a, b⟩ | ⟨a, b⟩
      · exact Or.inl ⟨by omega, b⟩
      · simp at b
  | x :: l, 0, j, w, h => by
    cases j with
    | zero => left; simpa [lset] using h
    | succ j => right; exact ⟨by omega, by simpa [lset] using h⟩
  | x :: l, n + 1, j, w, h => by
    cases j with
    | zero => right; exact ⟨by omega, by simpa [lset] using h⟩
    | succ j =>
      have h' : (lset l n v)[j]? = some (some w) := by simpa [lset] using h
      rcases lset_get v l n j w h' with ⟨a, b⟩ | ⟨a, b⟩
      · exact Or.inl ⟨by omega, b⟩
      · exact Or.inr ⟨by omega, by simpa using b⟩
theorem lkill_get {l : Lo} {i j : Nat} {w : Value} (h : (lkill l i)[j]? = some (some w)) : l[j]? = some (some w) ∧ ¬ (j + 1 = i ∧ w.category = 2) := by
  cases i with
  | zero => exact ⟨h, by omega⟩
  | succ i =>
    unfold lkill at h
    dsimp only at h
    split at h
    · rename_i x hx
      rcases lset_get none l i j w h with ⟨a, b⟩ | ⟨a, b⟩
      · cases b
      · exact ⟨b, by omega⟩
    · rename_i x hx
      rcases lset_get none l i j w h with ⟨a, b⟩ | ⟨a, b⟩
      · cases b
      · exact ⟨b, by omega⟩
    · rename_i h1 h2
      refine ⟨h, fun ⟨e, hc⟩ => ?_⟩
      have e2 : j = i := by omega
      subst e2
      cases w with
      | long x => exact h1 x h
      | double x => exact h2 x h
      | _ => simp [Value.category] at hc
theorem cvv_cat (G : Wd) (hZ : (wZ G).category = 1) (v : Value) : (cvv G v).category = v.category := by
  cases v <;> try rfl
  rename_i k
  show (bT (Nat.beq k 1999) (wZ G) (.ref (adr G k))).category = 1
  cases Nat.beq k 1999
  · rfl
  · exact hZ
theorem LR.store {G : Wd} {ls' : Array Slot} {nL : Nat} {ls : Lo} {i : Nat} {v : Value} (hZ : (wZ G).category = 1) (h : lv_has ls' nL ((i, cvv G v) :: (asc G ls).filter (fun q => !(q.1 == i) && !(q.1 + 1 == i && q.2.category == 2)))) : LR G ls' nL (lst1 ls i v) := by
  refine ⟨h.1, h.2.1, fun j w hw => ?_⟩
  rcases lset_get _ _ _ _ _ hw with ⟨a, b⟩ | ⟨a, b⟩
  · cases b
    subst a
    exact h.2.2 (j, cvv G v) List.mem_cons_self
  · obtain ⟨g1, g2⟩ := lkill_get b
    refine h.2.2 (j, cvv G w) (List.mem_cons_of_mem _ (List.mem_filter.mpr ⟨asc_mem.mpr ⟨w, g1, rfl⟩, ?_⟩))
    simp only [Bool.and_eq_true, Bool.not_eq_true', beq_eq_false_iff_ne, ne_eq, Bool.and_eq_false_iff]
    refine ⟨a, ?_⟩
    by_cases e : j + 1 = i
    · right
      rw [cvv_cat G hZ]
      exact fun hc => g2 ⟨e, hc⟩
    · left; exact e
theorem lmask_get : ∀ (bs : List Bool) (l : Lo) (j : Nat) (w : Value), (lmask bs l)[j]? = some (some w) → l[j]? = some (some w)
  | [], _, j, w, h => by simp [lmask] at h
  | _ :: bs, [], 0, w, h => by simp [lmask] at h
  | _ :: bs, [], j + 1, w, h => by
    have := lmask_get bs [] j w (by simpa [lmask] using h)
    simp at this
  | true :: bs, v :: l, 0, w, h => by simpa [lmask] using h
  | false :: bs, v :: l, 0, w, h => by simp [lmask] at h
  | true :: bs, v :: l, j + 1, w, h => by simpa using lmask_get bs l j w (by simpa [lmask] using h)
  | false :: bs, v :: l, j + 1, w, h => by simpa using lmask_get bs l j w (by simpa [lmask] using h)
theorem LR.mask {G : Wd} {lsA : Array Slot} {nL : Nat} {ls : Lo} (h : LR G lsA nL ls) (bs : List Bool) : LR G lsA nL (lmask bs ls) := ⟨h.1, h.2.1, fun j w hw => h.2.2 j w (lmask_get bs ls j w hw)⟩
/-! the cells that were there -/
def stN (j : Nat) : String := match j with
  | 0 => "CURLS"
  | 1 => "NODS"
  | 2 => "TELLS"
  | _ => "ABOVE"
def stV (j : Nat) : List Int32 := match j with
  | 0 => [10, 10, 30, 10, 50, 30, 71]
  | 1 => [11, 20, 11, 11, 51, 11, 70]
  | 2 => [12, 12, 12, 40, 12, 60, 40]
  | _ => [-1, 0, 0, 0, 1, 2, 3]
def skL : List Nat := [4, 4, 4, 6, 3]
def skB : List (List Int32) := [[119, 97, 114, 109], [99, 111, 111, 108], [114, 97, 105, 110], [112, 107, 118, 99, 108, 110], [60, 61, 62]]
def roH (G : Wd) (k : Nat) : Sh := bT (Nat.beq k 1000) (.inr (10, wL G)) (bT (Nat.ble k 1004) (.inr (10, 7)) (bT (Nat.ble k 1009) (.inl 99) (bT (Nat.ble k 1014) (.inl 10) (bT (Nat.ble k 1019) (.inl 99) (bT (Nat.ble k 1024) (.inr (11, skL.getD (k - 1020) 0)) (.inl 99))))))
def roI (G : Wd) (k j : Nat) : Int32 := bT (Nat.beq k 1000) (wX G j) (bT (Nat.ble k 1004) ((stV (k - 1001)).getD j 0) (bT (Nat.ble k 1019) 0 ((skB.getD (k - 1020) []).getD j 0)))
def roR (k : Nat) : Option Nat := bT (Nat.ble 1010 k && Nat.ble k 1014) (some (k + 10)) none
def okSh (s : Sh) : Prop := match s with
  | .inl c => c < 10
  | .inr (t, _) => t < 7
def WF (G : Wd) (u : Mem) : Prop := (u.1 ≤ 1000 ∧ (∀ k, k < u.1 → okSh (mH u k)) ∧ ∀ k i q, mR u k i = some q → q ≠ 1999) ∧ (∀ k, u.1 ≤ k → k < 1000 → mH u k = .inl 99) ∧ ∀ k, 1000 ≤ k → mH u k = roH G k ∧ (∀ j, mI u k j = roI G k j) ∧ mR u k 0 = roR k
theorem roH_cases (G : Wd) (k : Nat) : roH G k = .inl 99 ∨ (k = 1000 ∧ roH G k = .inr (10, wL G)) ∨ (k ≤ 1004 ∧ k ≠ 1000 ∧ roH G k = .inr (10, 7)) ∨ (1010 ≤ k ∧ k ≤ 1014 ∧ roH G k = .inl 10) ∨ (1020 ≤ k ∧ k ≤ 1024 ∧ roH G k = .inr (11, skL.getD (k - 1020) 0)) := by
  have A : ∀ (x y : Nat), Nat.ble x y = false → y < x := fun x y z => Nat.lt_of_not_le fun w => by rw [Nat.ble_eq_true_of_le w] at z; cases z
  unfold roH
  cases e1 : Nat.beq k 1000
  · have n1 : k ≠ 1000 := fun e => by rw [e] at e1; cases e1
    cases e2 : Nat.ble k 1004
    · cases e3 : Nat.ble k 1009
      · cases e4 : Nat.ble k 1014
        · cases e5 : Nat.ble k 1019
          · cases e6 : Nat.ble k 1024
            · exact Or.inl rfl
            · exact Or.inr (Or.inr (Or.inr (Or.inr ⟨A _ _ e5, Nat.le_of_ble_eq_true e6, rfl⟩)))
          · exact Or.inl rfl
        · exact Or.inr (Or.inr (Or.inr (Or.inl ⟨A _ _ e3, Nat.le_of_ble_eq_true e4, rfl⟩)))
      · exact Or.inl rfl
    · exact Or.inr (Or.inr (Or.inl ⟨Nat.le_of_ble_eq_true e2, n1, rfl⟩))
  · exact Or.inr (Or.inl ⟨Nat.eq_of_beq_eq_true e1, rfl⟩)
theorem WF.own {G : Wd} {u : Mem} (h : WF G u) {k c : Nat} (hc : mH u k = .inl c) (h10 : c < 10) : k < u.1 := by
  rcases Nat.lt_or_ge k u.1 with q | q
  · exact q
  · rcases Nat.lt_or_ge k 1000 with q2 | q2
    · rw [h.2.1 k q q2] at hc; cases hc; omega
    · rw [(h.2.2 k q2).1] at hc
      rcases roH_cases G k with e | ⟨-, e⟩ | ⟨-, -, e⟩ | ⟨-, -, e⟩ | ⟨-, -, e⟩ <;> rw [e] at hc <;> cases hc <;> omega
theorem WF.ownA {G : Wd} {u : Mem} (h : WF G u) {k t n : Nat} (hc : mH u k = .inr (t, n)) (h10 : t < 10) : k < u.1 := by
  rcases Nat.lt_or_ge k u.1 with q | q
  · exact q
  · rcases Nat.lt_or_ge k 1000 with q2 | q2
    · rw [h.2.1 k q q2] at hc; cases hc
    · rw [(h.2.2 k q2).1] at hc
      rcases roH_cases G k with e | ⟨-, e⟩ | ⟨-, -, e⟩ | ⟨-, -, e⟩ | ⟨-, -, e⟩ <;> rw [e] at hc <;> cases hc <;> omega
theorem WF.roA {G : Wd} {u : Mem} (h : WF G u) {k t n : Nat} (hc : mH u k = .inr (t, n)) (hk : u.1 ≤ k) : (k = 1000 ∧ t = 10 ∧ n = wL G) ∨ (1001 ≤ k ∧ k ≤ 1004 ∧ t = 10 ∧ n = 7) ∨ (1020 ≤ k ∧ k ≤ 1024 ∧ t = 11 ∧ n = skL.getD (k - 1020) 0) := by
  rcases Nat.lt_or_ge k 1000 with q2 | q2
  · rw [h.2.1 k hk q2] at hc; cases hc
  · rw [(h.2.2 k q2).1] at hc
    rcases roH_cases G k with e | ⟨g, e⟩ | ⟨g1, g2, e⟩ | ⟨-, -, e⟩ | ⟨g1, g2, e⟩ <;> rw [e] at hc <;> cases hc
    · exact Or.inl ⟨g, rfl, rfl⟩
    · exact Or.inr (Or.inl ⟨by omega, g1, rfl, rfl⟩)
    · exact Or.inr (Or.inr ⟨g1, g2, rfl, rfl⟩)
theorem WF.ro10 {G : Wd} {u : Mem} (h : WF G u) {k n : Nat} (hc : mH u k = .inr (10, n)) (hk : u.1 ≤ k) : (k = 1000 ∧ n = wL G) ∨ (1001 ≤ k ∧ k ≤ 1004 ∧ n = 7) := by
  rcases h.roA hc hk with ⟨a, -, b⟩ | ⟨a, b, -, d⟩ | ⟨-, -, b, -⟩
  · exact Or.inl ⟨a, b⟩
  · exact Or.inr ⟨a, b, d⟩
  · omega
theorem WF.ro11 {G : Wd} {u : Mem} (h : WF G u) {k n : Nat} (hc : mH u k = .inr (11, n)) (hk : u.1 ≤ k) : 1020 ≤ k ∧ k ≤ 1024 ∧ n = skL.getD (k - 1020) 0 := by
  rcases h.roA hc hk with ⟨-, b, -⟩ | ⟨-, -, b, -⟩ | ⟨a, b, -, d⟩
  · omega
  · omega
  · exact ⟨a, b, d⟩
theorem WF.ro0 {G : Wd} {u : Mem} (h : WF G u) {k : Nat} (hc : mH u k = .inl 10) (hk : u.1 ≤ k) : 1010 ≤ k ∧ k ≤ 1014 := by
  rcases Nat.lt_or_ge k 1000 with q2 | q2
  · rw [h.2.1 k hk q2] at hc; cases hc
  · rw [(h.2.2 k q2).1] at hc
    rcases roH_cases G k with e | ⟨g, e⟩ | ⟨g1, g2, e⟩ | ⟨g1, g2, e⟩ | ⟨g1, g2, e⟩ <;> rw [e] at hc <;> cases hc
    exact ⟨g1, g2⟩
def HR (G : Wd) (u : Mem) (H : Heap) : Prop := H.size = wB G + u.1 ∧ WF G u ∧ va_P (wD G) vwCl (pw G u) H
