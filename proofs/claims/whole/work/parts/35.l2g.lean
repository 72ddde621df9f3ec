/-! the document's words of one CLASS: who is in it, G -/
def anyB (f : Nat → Bool) : Nat → Bool
  | 0 => false
  | k + 1 => anyB f k || f k
theorem anyB_iff (f : Nat → Bool) : ∀ n, anyB f n = true ↔ ∃ k, k < n ∧ f k = true
  | 0 => by simp [anyB]
  | n + 1 => by
    simp only [anyB, Bool.or_eq_true, anyB_iff f n]
    constructor
    · rintro (⟨k, h1, h2⟩ | h)
      · exact ⟨k, by omega, h2⟩
      · exact ⟨n, by omega, h⟩
    · rintro ⟨k, h1, h2⟩
      by_cases e : k = n
      · subst e; exact Or.inr h2
      · exact Or.inl ⟨k, by omega, h2⟩
theorem anyB_f {f : Nat → Bool} {n : Nat} : anyB f n = false ↔ ∀ k, k < n → f k = false := by
  constructor
  · intro h k hk
    cases e : f k with
    | false => rfl
    | true => have := (anyB_iff f n).mpr ⟨k, hk, e⟩; rw [h] at this; cases this
  · intro h
    cases e : anyB f n with
    | false => rfl
    | true => obtain ⟨k, hk, e2⟩ := (anyB_iff f n).mp e; rw [h k hk] at e2; cases e2
def wishB (B : Mem) (c o : Nat) : Bool := anyB (fun p => decide (B 86 (3 * c + p) = (o : Int))) 3
def inG (B : Mem) (G : Nat → Bool) : Int := cnt (fun c => G c = true) (nK B)
def holdG (B : Mem) (known : Int) (row : Nat) (G : Nat → Bool) : Int := cnt (fun c => G c = true ∧ holdB B known row c = true) (nK B)
def noPair (B : Mem) (G : Nat → Bool) : Prop := ∀ a, a < nK B → G a = true → ∀ b, b < nK B → G b = true → B 88 (14 * a + b) ≠ 1 ∧ (howS B (nS B) = 1 → B 89 (14 * a + b) ≠ 1)
def fitG (B : Mem) (known : Int) (G : Nat → Bool) (s : Nat) : Prop :=
  (B 97 s = 5 → ∀ a, a < nK B → G a = true → holdB B known (2 * s) a = true → ∀ b, b < nK B → G b = true → b ≠ a → holdB B known (2 * s + 1) b = false) ∧
  (B 97 s = 6 → holdG B known (2 * s) G ≤ B 98 s)
def standG (B : Mem) (known : Int) (k : Nat) (G : Nat → Bool) : Prop :=
  inG B G ≤ B 91 k ∧ (∀ c, c < nK B → G c = true → B 90 (3 * c + k) ≠ 1) ∧ noPair B G ∧ ∀ s, s < nS B → fitG B known G s
/-- twins that are joined: of those in A none is out of G -/
def joinG (B : Mem) (G A : Nat → Bool) : Prop := howS B (nS B) = 2 → ∀ a, a < nK B → G a = true → ∀ b, b < nK B → A b = true → B 89 (14 * a + b) = 1 → G b = true
def lackG (B : Mem) (known : Int) (G : Nat → Bool) : Int := fb_si (fun s => if B 97 s = 7 then pos0 (B 98 s - holdG B known (2 * s) G) else 0) (nS B)
def leftG (B : Mem) (G : Nat → Bool) : Int := fb_si (fun c => if G c = true ∧ (∀ o, o < 14 → wishB B c o = true → G o = false) then 1 + B 85 c else 0) (nK B)
def regretG (B : Mem) (G : Nat → Bool) : Int := fb_si (fun a => if G a = true then fb_si (fun b => if G b = true then B 87 (14 * a + b) else 0) a else 0) (nK B)
def addG (B : Mem) (known : Int) (G : Nat → Bool) (s : Nat) : Int :=
  if B 97 s = 2 then B 98 s * leftG B G else if B 97 s = 3 then (if holdG B known (2 * s) G = 1 then B 98 s else 0) else if B 97 s = 4 then B 98 s * regretG B G else 0
def wOf (B : Mem) (known : Int) (s c : Nat) : Int := if B 97 s = 1 then toldS B known c (B 99 s).toNat else if holdB B known (2 * s) c = true then 1 else 0
def wtG (B : Mem) (known : Int) (s : Nat) (G : Nat → Bool) : Int := fb_si (fun c => if G c = true then wOf B known s c else 0) (nK B)
def servedG (B : Mem) (G : Nat → Bool) (c : Nat) : Nat :=
  if B 86 (3 * c) ≠ -1 ∧ G (B 86 (3 * c)).toNat = true then 0 else if B 86 (3 * c + 1) ≠ -1 ∧ G (B 86 (3 * c + 1)).toNat = true then 1 else if B 86 (3 * c + 2) ≠ -1 ∧ G (B 86 (3 * c + 2)).toNat = true then 2 else 3
theorem inG_congr {B : Mem} {G H : Nat → Bool} (e : ∀ c, c < nK B → G c = H c) : inG B G = inG B H := cnt_congr (fun c hc => by rw [e c hc])
theorem holdG_congr {B : Mem} {known : Int} {row : Nat} {G H : Nat → Bool} (e : ∀ c, c < nK B → G c = H c) : holdG B known row G = holdG B known row H := cnt_congr (fun c hc => by rw [e c hc])
theorem holdG_b (B : Mem) (known : Int) (row : Nat) (G : Nat → Bool) : 0 ≤ holdG B known row G ∧ holdG B known row G ≤ nK B := cnt_b _ _
theorem inG_b (B : Mem) (G : Nat → Bool) : 0 ≤ inG B G ∧ inG B G ≤ nK B := cnt_b _ _
theorem si_nn {f : Nat → Int} {b : Int} : ∀ {n : Nat}, (∀ k, k < n → 0 ≤ f k ∧ f k ≤ b) → 0 ≤ fb_si f n ∧ fb_si f n ≤ n * b
  | 0, _ => ⟨Int.le_refl _, by show (0 : Int) ≤ _; omega⟩
  | n + 1, h => by
    have ih := si_nn (n := n) (fun k hk => h k (by omega))
    have h1 := h n (by omega)
    rw [fb_si_succ]
    have : ((n + 1 : Nat) : Int) * b = n * b + b := by rw [Int.natCast_succ, Int.add_mul, Int.one_mul]
    omega
theorem wishes_b {B : Mem} (c : Nat) : 0 ≤ wishesS B c ∧ wishesS B c ≤ 3 := cnt_b _ _
theorem named_b {B : Mem} (c : Nat) : 0 ≤ namedS B c ∧ namedS B c ≤ ((3 * nK B : Nat) : Int) := cnt_b _ _
theorem told_b {B : Mem} (h : Fa B) (known : Int) {c : Nat} (hc : c < nK B) (j : Nat) : 0 ≤ toldS B known c j ∧ toldS B known c j ≤ 99 := by
  have hn := h.n
  have h14 := h.n14
  obtain ⟨q1, q2, -⟩ := h.c1 c (by omega)
  have q3 := (h.c2 c (by omega)).1
  have g0 := together_b B h14 c 0 known
  have g1 := together_b B h14 c 1 known
  have w := wishes_b (B := B) c
  have nm := named_b (B := B) c
  unfold toldS orFive
  repeat' split
  all_goals omega
theorem wOf_b {B : Mem} (h : Fa B) (known : Int) (s : Nat) {c : Nat} (hc : c < nK B) : 0 ≤ wOf B known s c ∧ wOf B known s c ≤ 99 := by
  unfold wOf
  have := told_b h known hc (B 99 s).toNat
  repeat' split
  all_goals omega
theorem wtG_b {B : Mem} (h : Fa B) (known : Int) (s : Nat) (G : Nat → Bool) : 0 ≤ wtG B known s G ∧ wtG B known s G ≤ 1386 := by
  have q := si_nn (f := fun c => if G c = true then wOf B known s c else 0) (b := 99) (n := nK B) (fun k hk => by
    have := wOf_b h known s hk
    try dsimp only
    split <;> omega)
  have := h.n14
  unfold wtG
  omega
theorem leftG_b {B : Mem} (h : Fa B) (G : Nat → Bool) : 0 ≤ leftG B G ∧ leftG B G ≤ 1400 := by
  have h14 := h.n14
  have q := si_nn (f := fun c => if G c = true ∧ (∀ o, o < 14 → wishB B c o = true → G o = false) then 1 + B 85 c else 0) (b := 100) (n := nK B) (fun k hk => by
    have := (h.c2 k (by omega)).1
    try dsimp only
    split <;> omega)
  unfold leftG
  omega
theorem regretG_b {B : Mem} (h : Fa B) (G : Nat → Bool) : 0 ≤ regretG B G ∧ regretG B G ≤ 19404 := by
  have h14 := h.n14
  have q := si_nn (f := fun a => if G a = true then fb_si (fun b => if G b = true then B 87 (14 * a + b) else 0) a else 0) (b := 1386) (n := nK B) (fun a ha => by
    try dsimp only
    split
    · have q := si_nn (f := fun b => if G b = true then B 87 (14 * a + b) else 0) (b := 99) (n := a) (fun b hb => by
        have := (h.c4 a b (by omega) (by omega)).1
        try dsimp only
        split <;> omega)
      omega
    · omega)
  unfold regretG
  omega
theorem mul_b {x y a b : Int} (hx : 0 ≤ x) (hxa : x ≤ a) (hy : 0 ≤ y) (hyb : y ≤ b) : 0 ≤ x * y ∧ x * y ≤ a * b :=
  ⟨Int.mul_nonneg hx hy, Int.mul_le_mul hxa hyb hy (Int.le_trans hx hxa)⟩
theorem addG_b {B M : Mem} (h : CF B M) (known : Int) (G : Nat → Bool) {s : Nat} (hs : s < nS B) : 0 ≤ addG B known G s ∧ addG B known G s ≤ 1920996 := by
  unfold addG
  have l := leftG_b h.1 G
  have r := regretG_b h.1 G
  split
  · have nb := h.nb hs (by omega) (by omega)
    have := mul_b nb.1 nb.2 l.1 l.2
    omega
  split
  · have nb := h.nb hs (by omega) (by omega)
    split <;> omega
  split
  · have nb := h.nb hs (by omega) (by omega)
    have := mul_b nb.1 nb.2 r.1 r.2
    omega
  · omega
theorem lackG_b {B M : Mem} (h : CF B M) (known : Int) (G : Nat → Bool) : 0 ≤ lackG B known G ∧ lackG B known G ≤ 1584 := by
  have h16 := h.1.s16
  have q := si_nn (f := fun s => if B 97 s = 7 then pos0 (B 98 s - holdG B known (2 * s) G) else 0) (b := 99) (n := nS B) (fun s hs => by
    try dsimp only
    have hb := holdG_b B known (2 * s) G
    split
    · have nb := h.nb hs (by omega) (by omega)
      unfold pos0
      split <;> omega
    · omega)
  unfold lackG
  omega
