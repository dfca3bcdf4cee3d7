/-! IN TIME, the order of dues -/
def insR (du : Int → Int) (p : Int) : List Int → List Int
  | [] => [p]
  | x :: R => if du x ≤ du p then p :: x :: R else x :: insR du p R
theorem insR_s {du : Int → Int} {p x : Int} {R : List Int} : insR du p (x :: R) = if du x ≤ du p then p :: x :: R else x :: insR du p R := rfl
def ordL (du : Int → Int) : Nat → List Int
  | 0 => []
  | n + 1 => insR du n (ordL du n)
theorem ordL_s {du : Int → Int} {n : Nat} : ordL du (n + 1) = insR du n (ordL du n) := rfl
theorem insR_len (du : Int → Int) (p : Int) : ∀ R, (insR du p R).length = R.length + 1
  | [] => rfl
  | x :: R => by
    rw [insR_s]
    split
    · rfl
    · rw [List.length_cons, insR_len du p R]; rfl
theorem insR_mem (du : Int → Int) (p y : Int) : ∀ R, y ∈ insR du p R ↔ y = p ∨ y ∈ R
  | [] => by simp [insR]
  | x :: R => by
    rw [insR_s]
    split
    · simp
    · simp only [List.mem_cons, insR_mem du p y R]
      constructor
      · rintro (h | h | h)
        · exact Or.inr (Or.inl h)
        · exact Or.inl h
        · exact Or.inr (Or.inr h)
      · rintro (h | h | h)
        · exact Or.inr (Or.inl h)
        · exact Or.inl h
        · exact Or.inr (Or.inr h)
theorem ordL_len (du : Int → Int) : ∀ n, (ordL du n).length = n
  | 0 => rfl
  | n + 1 => by rw [ordL_s, insR_len, ordL_len du n]
theorem ordL_mem (du : Int → Int) (y : Int) : ∀ n : Nat, y ∈ ordL du n ↔ 0 ≤ y ∧ y < n
  | 0 => by
    constructor
    · intro h; exact absurd h List.not_mem_nil
    · intro h; omega
  | n + 1 => by
    rw [ordL_s, insR_mem, ordL_mem du y n]
    omega
def sumL (f : Int → Int) : List Int → Int
  | [] => 0
  | x :: R => f x + sumL f R
theorem sumL_s {f : Int → Int} {x : Int} {R : List Int} : sumL f (x :: R) = f x + sumL f R := rfl
theorem insR_sum (f : Int → Int) (du : Int → Int) (p : Int) : ∀ R, sumL f (insR du p R) = f p + sumL f R
  | [] => rfl
  | x :: R => by
    rw [insR_s]
    split
    · rfl
    · rw [sumL_s, sumL_s, insR_sum f du p R]
      omega
theorem sumF_snoc (f : Int → Int) : ∀ (n : Nat) (c : Int), sumF f c (n + 1) = sumF f c n + f (c + n)
  | 0, c => by simp [sumF]
  | n + 1, c => by
    have e1 : sumF f c (n + 1 + 1) = f c + sumF f (c + 1) (n + 1) := rfl
    have e2 : sumF f c (n + 1) = f c + sumF f (c + 1) n := rfl
    rw [e1, sumF_snoc f n (c + 1), e2, show c + 1 + (n : Int) = c + ((n + 1 : Nat) : Int) by omega]
    omega
theorem ordL_sum (f : Int → Int) (du : Int → Int) : ∀ n, sumL f (ordL du n) = sumF f 0 n
  | 0 => rfl
  | n + 1 => by
    rw [ordL_s, insR_sum, ordL_sum f du n, sumF_snoc, Int.zero_add]
    omega
def Srt (du : Int → Int) : List Int → Prop
  | [] => True
  | x :: R => (∀ y, y ∈ R → du y < du x ∨ (du y = du x ∧ y < x)) ∧ Srt du R
theorem insR_srt (du : Int → Int) (p : Int) : ∀ R, Srt du R → (∀ y, y ∈ R → y < p) → Srt du (insR du p R)
  | [], _, _ => ⟨fun y h => absurd h List.not_mem_nil, trivial⟩
  | x :: R, h, hp => by
    rw [insR_s]
    split
    next c =>
      refine ⟨fun y hy => ?_, h⟩
      rcases List.mem_cons.mp hy with rfl | hy
      · have := hp y (List.mem_cons_self ..)
        omega
      · have := h.1 y hy
        have := hp y (List.mem_cons_of_mem _ hy)
        omega
    next c =>
      refine ⟨fun y hy => ?_, insR_srt du p R h.2 fun y hy => hp y (List.mem_cons_of_mem _ hy)⟩
      rcases (insR_mem du p y R).mp hy with rfl | hy
      · omega
      · exact h.1 y hy
theorem ordL_srt (du : Int → Int) : ∀ n, Srt du (ordL du n)
  | 0 => trivial
  | n + 1 => by
    rw [ordL_s]
    exact insR_srt du n _ (ordL_srt du n) fun y hy => ((ordL_mem du y n).mp hy).2
def scT (du nd : Int → Int) (b : Int) : List Int → Int → Bool
  | [], _ => true
  | x :: T, c => if bitP b x = 1 then (if c + nd x ≤ du x then scT du nd b T (c + nd x) else false) else scT du nd b T c
theorem scT_s {du nd : Int → Int} {b x c : Int} {T : List Int} : scT du nd b (x :: T) c = if bitP b x = 1 then (if c + nd x ≤ du x then scT du nd b T (c + nd x) else false) else scT du nd b T c := rfl
def bndF (nd : Int → Int) (b q : Int) : Int := if bitP b q = 1 then nd q else 0
def okR (du nd : Int → Int) (b : Int) : List Int → Prop
  | [] => True
  | x :: R => okR du nd b R ∧ (bitP b x = 1 → sumL (bndF nd b) R + nd x ≤ du x)
theorem scT_rev (du nd : Int → Int) (b : Int) : ∀ R T, scT du nd b (List.reverseAux R T) 0 = true ↔ okR du nd b R ∧ scT du nd b T (sumL (bndF nd b) R) = true
  | [], T => by simp [List.reverseAux, okR, sumL]
  | x :: R, T => by
    show scT du nd b (List.reverseAux R (x :: T)) 0 = true ↔ (okR du nd b R ∧ (bitP b x = 1 → sumL (bndF nd b) R + nd x ≤ du x)) ∧ _
    rw [scT_rev du nd b R (x :: T), scT_s, sumL_s]
    unfold bndF
    by_cases c1 : bitP b x = 1
    · rw [if_pos c1, if_pos c1]
      by_cases c2 : sumL (fun q => if bitP b q = 1 then nd q else 0) R + nd x ≤ du x
      · rw [if_pos c2, Int.add_comm (nd x)]
        exact ⟨fun h => ⟨⟨h.1, fun _ => c2⟩, h.2⟩, fun h => ⟨h.1.1, h.2⟩⟩
      · rw [if_neg c2]
        exact ⟨fun h => absurd h.2 (by simp), fun h => absurd (h.1.2 c1) c2⟩
    · rw [if_neg c1, if_neg c1, Int.zero_add]
      exact ⟨fun h => ⟨⟨h.1, fun z => absurd z c1⟩, h.2⟩, fun h => ⟨h.1.1, h.2⟩⟩
theorem sumL_congr {f g : Int → Int} : ∀ R, (∀ y, y ∈ R → f y = g y) → sumL f R = sumL g R
  | [], _ => rfl
  | x :: R, h => by
    rw [sumL_s, sumL_s, h x (List.mem_cons_self ..), sumL_congr R fun y hy => h y (List.mem_cons_of_mem _ hy)]
theorem okR_iff (du nd : Int → Int) (b : Int) : ∀ R, Srt du R → (okR du nd b R ↔ ∀ x, x ∈ R → bitP b x = 1 → sumL (uptF du nd b x) R ≤ du x)
  | [], _ => ⟨fun _ x h => absurd h List.not_mem_nil, fun _ => trivial⟩
  | x :: R, h => by
    have ih := okR_iff du nd b R h.2
    show (okR du nd b R ∧ (bitP b x = 1 → sumL (bndF nd b) R + nd x ≤ du x)) ↔ _
    rw [ih]
    have e1 : sumL (uptF du nd b x) R = sumL (bndF nd b) R := sumL_congr R fun y hy => by
      have := h.1 y hy
      unfold uptF bndF
      by_cases c : bitP b y = 1
      · rw [if_pos c, if_pos ⟨c, by omega⟩]
      · rw [if_neg c, if_neg (fun z => c z.1)]
    have e2 : bitP b x = 1 → uptF du nd b x x = nd x := fun c => if_pos ⟨c, by omega⟩
    have e3 : ∀ y, y ∈ R → uptF du nd b y x = 0 := fun y hy => if_neg fun z => by
      have := h.1 y hy
      omega
    constructor
    · rintro ⟨h1, h2⟩ y hy c
      rw [sumL_s]
      rcases List.mem_cons.mp hy with rfl | hy
      · rw [e2 c, e1]
        have := h2 c
        omega
      · rw [e3 y hy, Int.zero_add]
        exact h1 y hy c
    · intro h1
      refine ⟨fun y hy c => ?_, fun c => ?_⟩
      · have := h1 y (List.mem_cons_of_mem _ hy) c
        rw [sumL_s, e3 y hy, Int.zero_add] at this
        exact this
      · have := h1 x (List.mem_cons_self ..) c
        rw [sumL_s, e2 c, e1] at this
        omega
theorem areF_iff {n : Int} {du nd : Int → Int} {b : Int} : ∀ (N : Nat) (p : Int), areF n du nd b N p = true ↔ ∀ x, p ≤ x → x < p + N → bitP b x = 1 → sumF (uptF du nd b x) 0 n.toNat ≤ du x
  | 0, p => ⟨fun _ x h1 h2 => by omega, fun _ => rfl⟩
  | N + 1, p => by
    rw [areF_s]
    have ih := areF_iff (n := n) (du := du) (nd := nd) (b := b) N (p + 1)
    have hs : (∀ x, p ≤ x → x < p + (N + 1 : Nat) → bitP b x = 1 → sumF (uptF du nd b x) 0 n.toNat ≤ du x) ↔ (bitP b p = 1 → sumF (uptF du nd b p) 0 n.toNat ≤ du p) ∧ areF n du nd b N (p + 1) = true := by
      rw [ih]
      constructor
      · intro h
        exact ⟨h p (Int.le_refl _) (by omega), fun x h1 h2 => h x (by omega) (by omega)⟩
      · rintro ⟨h1, h2⟩ x h3 h4
        by_cases c : x = p
        · rw [c]; exact h1
        · exact h2 x (by omega) (by omega)
    rw [hs]
    by_cases c1 : bitP b p = 1
    · rw [if_pos c1]
      by_cases c2 : sumF (uptF du nd b p) 0 n.toNat ≤ du p
      · rw [if_pos c2]
        exact ⟨fun h => ⟨fun _ => c2, h⟩, fun h => h.2⟩
      · rw [if_neg c2]
        exact ⟨fun h => absurd h (by simp), fun h => absurd (h.1 c1) c2⟩
    · rw [if_neg c1]
      exact ⟨fun h => ⟨fun z => absurd z c1, h⟩, fun h => h.2⟩
theorem sc_are {n : Nat} {du nd : Int → Int} {b : Int} : scT du nd b (ordL du n).reverse 0 = areF n du nd b n 0 := by
  have e : scT du nd b (ordL du n).reverse 0 = true ↔ areF n du nd b n 0 = true := by
    rw [List.reverse, scT_rev, okR_iff du nd b _ (ordL_srt du n), areF_iff]
    rw [Int.toNat_natCast]
    constructor
    · rintro ⟨h, -⟩ x h1 h2 c
      rw [← ordL_sum _ du]
      exact h x ((ordL_mem du x n).mpr (by omega)) c
    · intro h
      refine ⟨fun x hx c => ?_, rfl⟩
      have := (ordL_mem du x n).mp hx
      rw [ordL_sum]
      exact h x this.1 (by omega) c
  cases h1 : scT du nd b (ordL du n).reverse 0 <;> cases h2 : areF n du nd b n 0 <;> simp_all
