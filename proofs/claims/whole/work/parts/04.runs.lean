/-- a step stops, or goes on at one place -/
def StC {M : Type} (Le : M → M → Prop) (f : (Nat → Lo → List Value → M → Rs M) → Rs M) (m : M) : Prop := ∀ k r, f k = some r → (Le m r.2 ∧ ∀ k', f k' = some r) ∨ ∃ pc' ls' st' m', Le m m' ∧ (∀ k', f k' = k' pc' ls' st' m') ∧ k pc' ls' st' m' = some r
section
variable {M : Type} {Le : M → M → Prop}
theorem StC.nil {m : M} : StC Le (fun _ => none) m := fun k r h => by cases h
theorem StC.go {m m' : M} {pc : Nat} {ls : Lo} {st : List Value} (h : Le m m') : StC Le (fun k => k pc ls st m') m := fun k r hr => Or.inr ⟨pc, ls, st, m', h, fun _ => rfl, hr⟩
theorem StC.stop {m m' : M} {o : Option Value} (h : Le m m') : StC Le (fun _ => some (o, m')) m := fun k r hr => by
  cases hr
  exact Or.inl ⟨h, fun _ => rfl⟩
theorem StC.ite {m : M} {c : Bool} {f g : (Nat → Lo → List Value → M → Rs M) → Rs M} (hf : StC Le f m) (hg : StC Le g m) : StC Le (fun k => bT c (f k) (g k)) m := by
  cases c
  · exact hg
  · exact hf
theorem StC.sw {m : M} {st : List Value} {ls : Lo} {Q : Qs} (hr : Le m m) (x : Int32) (d : Nat) : ∀ l : List (Int32 × Nat), StC Le (fun k => swK Q l d x fun t => k t ls st m) m
  | [] => StC.go hr
  | (c, t) :: l => StC.ite (StC.go hr) (StC.sw hr x d l)
theorem StC.cmp {m : M} {c : Jvm.ClassFile.Cond} {x y : Int32} {Q : Qs} {f g : (Nat → Lo → List Value → M → Rs M) → Rs M} (hf : StC Le f m) (hg : StC Le g m) : StC Le (fun k => cmpK Q c x y (f k) (g k)) m := by
  cases c <;> first | exact StC.ite hf hg | exact StC.ite hg hf
theorem StC.bM {m : M} {r : Option M} {f : M → (Nat → Lo → List Value → M → Rs M) → Rs M} (h : ∀ m', r = some m' → StC Le (f m') m) : StC Le (fun k => bM r fun m' => f m' k) m := by
  cases r with
  | none => exact StC.nil
  | some m' => exact h m' rfl
theorem StC.bN {m : M} {r : Option (Nat × M)} {f : Nat → M → (Nat → Lo → List Value → M → Rs M) → Rs M} (h : ∀ q m', r = some (q, m') → StC Le (f q m') m) : StC Le (fun k => bN r fun q m' => f q m' k) m := by
  rcases r with _ | ⟨q, m'⟩
  · exact StC.nil
  · exact h q m' rfl
theorem StC.bO {m : M} {r : Option Nat} {f : Nat → (Nat → Lo → List Value → M → Rs M) → Rs M} (h : ∀ q, StC Le (f q) m) : StC Le (fun k => bO r fun q => f q k) m := by
  cases r with
  | none => exact StC.nil
  | some q => exact h q
theorem StC.bS {m : M} {r : Sh} {f : Nat → (Nat → Lo → List Value → M → Rs M) → Rs M} (h : ∀ q, StC Le (f q) m) : StC Le (fun k => bS r fun q => f q k) m := by
  rcases r with _ | ⟨u, n⟩
  · exact StC.nil
  · exact h n
theorem StC.call {m : M} {q : Nat} {r : Rs M} {f : List Value → M → (Nat → Lo → List Value → M → Rs M) → Rs M} (h : ∀ o v m', r = some (v, m') → StC Le (f o m') m) : StC Le (fun k => callK q r fun o m' => f o m' k) m := by
  rcases r with _ | ⟨v, m'⟩
  · intro k r' h'
    match q with
    | 0 => cases h'
    | 1 => cases h'
    | 2 => cases h'
    | _ + 3 => cases h'
  · match q with
    | 0 => cases v with
      | none => exact h [] none m' rfl
      | some v => exact StC.nil
    | 1 => cases v with
      | none => exact StC.nil
      | some v => cases v <;> first | exact StC.nil | exact h _ _ m' rfl
    | 2 => cases v with
      | none => exact StC.nil
      | some v => cases v <;> first | exact StC.nil | exact h _ _ m' rfl
    | _ + 3 => cases v with
      | none => exact StC.nil
      | some v => cases v <;> first | exact StC.nil | exact h _ _ m' rfl
theorem StC.rcv {O : Ops M} {m : M} {c : Nat} {as : List Value} {f : (Nat → Lo → List Value → M → Rs M) → Rs M} (h : StC Le f m) : StC Le (fun k => rcvK O c as m (f k)) m := by
  match c, as with
  | 0, _ => exact h
  | _ + 1, [] => exact StC.nil
  | _ + 1, .ref r :: _ => exact StC.ite h StC.nil
  | _ + 1, .int _ :: _ => exact StC.nil
  | _ + 1, .long _ :: _ => exact StC.nil
  | _ + 1, .float _ :: _ => exact StC.nil
  | _ + 1, .double _ :: _ => exact StC.nil
  | _ + 1, .null :: _ => exact StC.nil
  | _ + 1, .retAddr _ :: _ => exact StC.nil
set_option maxHeartbeats 4000000 in
theorem stp_cases (O : Ops M) (cf : Nat → List Value → M → Rs M) (hO : OpsLe O Le) (hcf : CfLe cf Le) (row : Row) (ls : Lo) (st : List Value) (m : M) : StC Le (fun k => stpK O cf k row ls st m) m := by
  obtain ⟨h1, h2, h3, h4, h5, h6, h7⟩ := hO
  obtain ⟨i, nx, a, b, c, v, sw⟩ := row
  have hg : ∀ {pc ls st}, StC Le (fun k => k pc ls st m) m := StC.go (h1 m)
  cases i <;> simp only [stpK, bX] <;> (repeat' split) <;> first
    | exact StC.nil
    | exact hg
    | exact StC.stop (h1 m)
    | exact StC.ite hg StC.nil
    | exact StC.ite StC.nil hg
    | exact StC.ite (StC.stop (h1 m)) StC.nil
    | exact StC.ite StC.nil (StC.ite hg StC.nil)
    | exact StC.cmp hg hg
    | exact StC.sw (h1 m) _ _ _
    | exact StC.ite (StC.bO fun q => hg) StC.nil
    | exact StC.ite (StC.bM fun m' e => StC.go (h5 _ _ _ _ _ e)) StC.nil
    | exact StC.ite (StC.ite (StC.bM fun m' e => StC.go (h5 _ _ _ _ _ e)) StC.nil) StC.nil
    | exact StC.ite (StC.go (h3 _ _ _ _)) StC.nil
    | exact StC.ite (StC.ite (StC.go (h3 _ _ _ _)) StC.nil) StC.nil
    | exact StC.ite (StC.go (h4 _ _ _ _)) StC.nil
    | exact StC.bS fun q => hg
    | exact StC.bN fun q m' e => StC.go (h6 _ _ _ _ _ e)
    | exact StC.ite (StC.bN fun q m' e => StC.go (h6 _ _ _ _ _ e)) StC.nil
    | exact StC.ite (StC.rcv (StC.call fun o v m' e => StC.go (hcf _ _ _ _ _ e))) StC.nil
    | exact StC.ite (StC.call fun o v m' e => StC.go (hcf _ _ _ _ _ e)) StC.nil
    | exact StC.ite (StC.ite (StC.go (h7 _ _ _ _ _ _ _)) StC.nil) StC.nil
    | exact StC.bO fun q => hg
    | exact StC.bM fun m' e => StC.go (h5 _ _ _ _ _ e)
    | exact StC.go (h3 _ _ _ _)
    | exact StC.go (h4 _ _ _ _)
    | exact StC.go (h7 _ _ _ _ _ _ _)
    | exact StC.rcv (StC.call fun o v m' e => StC.go (hcf _ _ _ _ _ e))
    | exact StC.call fun o v m' e => StC.go (hcf _ _ _ _ _ e)
theorem blk_cases (O : Ops M) (cf : Nat → List Value → M → Rs M) (hO : OpsLe O Le) (hcf : CfLe cf Le) (fet : Nat → Option Row) (hd : Nat → Option (List Bool)) (rec : RecT M) (g : Nat) : ∀ (pc : Nat) (ls : Lo) (st : List Value) (m : M) (r : Option Value × M), blk O cf fet hd rec g pc ls st m = some r → (Le m r.2 ∧ ∀ rec' : RecT M, blk O cf fet hd rec' g pc ls st m = some r) ∨ ∃ pc' ls' m', Le m m' ∧ (∀ rec' : RecT M, blk O cf fet hd rec' g pc ls st m = rec' pc' ls' m') ∧ rec pc' ls' m' = some r := by
  induction g with
  | zero => intro pc ls st m r h; cases h
  | succ g ih =>
    intro pc ls st m r h
    have key : ∀ rec' : RecT M, blk O cf fet hd rec' (g + 1) pc ls st m = (match fet pc with
      | none => none
      | some row => stpK O cf (fun pc' ls' st' m' => match hd pc' with
        | none => blk O cf fet hd rec' g pc' ls' st' m'
        | some n => match st' with
          | [] => rec' pc' (lmask n ls') m'
          | _ => none) row ls st m) := fun _ => rfl
    rw [key] at h
    simp only [key]
    cases hf : fet pc with
    | none => rw [hf] at h; cases h
    | some row =>
      rw [hf] at h
      dsimp only at h ⊢
      rcases stp_cases O cf hO hcf row ls st m _ r h with ⟨hl, h1⟩ | ⟨pc', ls', st', m', hl, h1, h2⟩
      · exact Or.inl ⟨hl, fun rec' => h1 _⟩
      · simp only [h1]
        cases hh : hd pc' with
        | none =>
          rw [hh] at h2
          dsimp only at h2 ⊢
          rcases ih pc' ls' st' m' r h2 with ⟨g1, g2⟩ | ⟨pc2, ls2, m2, g1, g2, g3⟩
          · exact Or.inl ⟨hO.2.1 _ _ _ hl g1, g2⟩
          · exact Or.inr ⟨pc2, ls2, m2, hO.2.1 _ _ _ hl g1, g2, g3⟩
        | some n =>
          rw [hh] at h2
          dsimp only at h2 ⊢
          cases st' with
          | nil => exact Or.inr ⟨pc', lmask n ls', m', hl, fun _ => rfl, h2⟩
          | cons a b => cases h2
end
section
variable {M : Type}
theorem ops_true (O : Ops M) : OpsLe O (fun _ _ => True) := ⟨fun _ => trivial, fun _ _ _ _ _ => trivial, fun _ _ _ _ => trivial, fun _ _ _ _ => trivial, fun _ _ _ _ _ _ => trivial, fun _ _ _ _ _ _ => trivial, fun _ _ _ _ _ _ _ => trivial⟩
theorem cf_true (cf : Nat → List Value → M → Rs M) : CfLe cf (fun _ _ => True) := fun _ _ _ _ _ _ => trivial
variable (O : Ops M) (cf : Nat → List Value → M → Rs M) (fet : Nat → Option Row) (hd : Nat → Option (List Bool))
theorem runN_s (n pc : Nat) (ls : Lo) (m : M) : runN O cf fet hd (n + 1) pc ls m = blk O cf fet hd (runN O cf fet hd n) 700 pc ls [] m := rfl
theorem runN_succ (n : Nat) : ∀ (pc : Nat) (ls : Lo) (m : M) (r : Option Value × M), runN O cf fet hd n pc ls m = some r → runN O cf fet hd (n + 1) pc ls m = some r := by
  induction n with
  | zero => intro pc ls m r h; cases h
  | succ n ih =>
    intro pc ls m r h
    have h' : blk O cf fet hd (runN O cf fet hd n) 700 pc ls [] m = some r := h
    show blk O cf fet hd (runN O cf fet hd (n + 1)) 700 pc ls [] m = some r
    rcases blk_cases O cf (ops_true O) (cf_true cf) fet hd _ 700 pc ls [] m r h' with ⟨-, h1⟩ | ⟨pc', ls', m', -, h1, h2⟩
    · exact h1 _
    · rw [h1]
      exact ih _ _ _ _ h2
theorem runN_le {n n' : Nat} (hn : n ≤ n') {pc : Nat} {ls : Lo} {m : M} {r : Option Value × M} (h : runN O cf fet hd n pc ls m = some r) : runN O cf fet hd n' pc ls m = some r := by
  induction hn with
  | refl => exact h
  | step _ ih => exact runN_succ O cf fet hd _ _ _ _ _ ih
theorem runF_some {pc : Nat} {ls : Lo} {m : M} {r : Option Value × M} : runF O cf fet hd pc ls m = some r ↔ ∃ n, runN O cf fet hd n pc ls m = some r := by
  unfold runF
  constructor
  · intro h
    by_cases he : ∃ r, ∃ n, runN O cf fet hd n pc ls m = some r
    · rw [dif_pos he] at h
      cases h
      exact Classical.choose_spec he
    · rw [dif_neg he] at h
      cases h
  · rintro ⟨n, h⟩
    have he : ∃ r, ∃ n, runN O cf fet hd n pc ls m = some r := ⟨r, n, h⟩
    rw [dif_pos he]
    obtain ⟨n', h'⟩ := Classical.choose_spec he
    have a := runN_le O cf fet hd (Nat.le_max_left n n') h
    have b := runN_le O cf fet hd (Nat.le_max_right n n') h'
    exact b.symm.trans a
theorem runF_eq (pc : Nat) (ls : Lo) (m : M) : runF O cf fet hd pc ls m = blk O cf fet hd (runF O cf fet hd) 700 pc ls [] m := by
  apply Option.ext
  intro r
  constructor
  · intro h
    obtain ⟨n, h⟩ := (runF_some O cf fet hd).mp h
    cases n with
    | zero => cases h
    | succ n =>
      have h' : blk O cf fet hd (runN O cf fet hd n) 700 pc ls [] m = some r := h
      rcases blk_cases O cf (ops_true O) (cf_true cf) fet hd _ 700 pc ls [] m r h' with ⟨-, h1⟩ | ⟨pc', ls', m', -, h1, h2⟩
      · exact h1 _
      · rw [h1]
        exact (runF_some O cf fet hd).mpr ⟨n, h2⟩
  · intro h
    rcases blk_cases O cf (ops_true O) (cf_true cf) fet hd _ 700 pc ls [] m r h with ⟨-, h1⟩ | ⟨pc', ls', m', -, h1, h2⟩
    · refine (runF_some O cf fet hd).mpr ⟨0 + 1, ?_⟩
      rw [runN_s]
      exact h1 _
    · obtain ⟨n, hn⟩ := (runF_some O cf fet hd).mp h2
      refine (runF_some O cf fet hd).mpr ⟨n + 1, ?_⟩
      show blk O cf fet hd (runN O cf fet hd n) 700 pc ls [] m = some r
      rw [h1]
      exact hn
theorem runF_mono {Le : M → M → Prop} (hO : OpsLe O Le) (hcf : CfLe cf Le) {pc : Nat} {ls : Lo} {m : M} {r : Option Value × M} (h : runF O cf fet hd pc ls m = some r) : Le m r.2 := by
  obtain ⟨n, hn⟩ := (runF_some O cf fet hd).mp h
  clear h
  induction n generalizing pc ls m with
  | zero => cases hn
  | succ n ih =>
    have h' : blk O cf fet hd (runN O cf fet hd n) 700 pc ls [] m = some r := hn
    rcases blk_cases O cf hO hcf fet hd _ 700 pc ls [] m r h' with ⟨h0, -⟩ | ⟨pc', ls', m', h0, h1, h2⟩
    · exact h0
    · exact hO.2.1 _ _ _ h0 (ih h2)
end
theorem callF_mono {M : Type} (O : Ops M) (prog : Nat → Nat → Option Row) (heds : Nat → Nat → Option (List Bool)) {Le : M → M → Prop} (hO : OpsLe O Le) (d : Nat) : CfLe (callF O prog heds d) Le := by
  induction d with
  | zero => intro i as m o m' h; cases h
  | succ d ih => intro i as m o m' h; exact runF_mono O _ _ _ hO ih (r := (o, m')) h
/-! the steady machine: the constructors are through, nothing is made -/
abbrev SM : Type := (Nat → Nat → Int32) × (Nat → Nat → Int64)
def up2 {α : Type} (f : Nat → Nat → α) (k i : Nat) (v : α) : Nat → Nat → α := fun a b => if a = k then (if b = i then v else f a b) else f a b
def upR {α : Type} (f : Nat → α) (k : Nat) (v : α) : Nat → α := fun a => if a = k then v else f a
noncomputable def OB (Q : Qs) : Ops SM := (Q, fun _ k => SHt k, fun m k i => m.1 k i, fun m k i => m.2 k i, fun _ k i => GRt k i, fun m k i v => (up2 m.1 k i v, m.2), fun m k i v => (m.1, up2 m.2 k i v), fun _ _ _ _ => none, fun _ _ _ => none, fun m t rs sp rd dp n => match t with
  | 0 => (upR m.1 rd (va_cpy (m.1 rs) (m.1 rd) sp dp n), m.2)
  | _ => (m.1, upR m.2 rd (va_cpy (m.2 rs) (m.2 rd) sp dp n)))
noncomputable def rB (Q : Qs) (mi : Nat) (cf : Nat → List Value → SM → Rs SM) : RecT SM := runF (OB Q) cf (prog mi) (heds mi)
theorem rB_eq (Q : Qs) (mi : Nat) (cf : Nat → List Value → SM → Rs SM) (pc : Nat) (ls : Lo) (m : SM) : rB Q mi cf pc ls m = blk (OB Q) cf (prog mi) (heds mi) (rB Q mi cf) 700 pc ls [] m := runF_eq _ _ _ _ _ _ _
noncomputable def cB (Q : Qs) (d : Nat) : Nat → List Value → SM → Rs SM := callF (OB Q) prog heds d
theorem cB_eq (Q : Qs) (d mi : Nat) (as : List Value) (m : SM) : cB Q (d + 1) mi as m = rB Q mi (cB Q d) 0 (argsL as) m := rfl
