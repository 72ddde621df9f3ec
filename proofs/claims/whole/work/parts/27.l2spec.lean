/-! what the document's words are, over the model's facts -/
/-- which places are facts: what a plan's worth hangs on -/
def isF (c i : Nat) : Prop := (81 ≤ c ∧ c ≤ 96) ∨ (97 ≤ c ∧ c ≤ 99 ∧ i < 16) ∨ (c = 100 ∧ i < 32) ∨ (101 ≤ c ∧ c ≤ 104 ∧ i < 128) ∨ (c = 80 ∧ (i = 1 ∨ i = 12 ∨ i = 15 ∨ i = 21))
def FE (M M' : Mem) : Prop := ∀ c i, isF c i → M' c i = M c i
theorem FE.rf (M : Mem) : FE M M := fun _ _ _ => rfl
theorem FE.tr {M1 M2 M3 : Mem} (h : FE M1 M2) (h2 : FE M2 M3) : FE M1 M3 := fun c i q => (h2 c i q).trans (h c i q)
theorem FE.up {M M' : Mem} (h : FE M M') {c i : Nat} (hc : ¬ isF c i) (v : Int) : FE M (mup M' c i v) := by
  intro c' i' q
  unfold mup
  rw [if_neg (fun z => hc (by rw [z.1, z.2] at q; exact q))]
  exact h c' i' q
theorem FE.row {M M' : Mem} (h : FE M M') (c i : Nat) (hc : 81 ≤ c ∧ c ≤ 96) : M' c i = M c i := h c i (Or.inl hc)
theorem fe_nK {M M' : Mem} (h : FE M M') : nK M' = nK M := by
  unfold nK; rw [h 80 1 (by unfold isF; omega)]
theorem fe_nMk {M M' : Mem} (h : FE M M') : nMk M' = nMk M := by
  unfold nMk; rw [h 80 15 (by unfold isF; omega)]
theorem fe_raw {M M' : Mem} (h : FE M M') (t c q known : Int) : rawM M' t c q known = rawM M t c q known := by
  have key : ∀ k, rawS M' t c q known k = rawS M t c q known k := by
    intro k
    induction k with
    | zero => rfl
    | succ k ih =>
      show (if _ then _ else _) = (if _ then _ else _)
      rw [ih, h.row 92 k (by omega), h.row 93 k (by omega), h.row 94 k (by omega), h.row 95 k (by omega), h.row 96 k (by omega)]
  show rawS M' t c q known (nMk M') = rawS M t c q known (nMk M)
  rw [fe_nMk h, key]
theorem fe_scaled {M M' : Mem} (h : FE M M') (t c q known : Int) : scaledS M' t c q known = scaledS M t c q known := by
  unfold scaledS scAll scLow
  simp only [fe_raw h, fe_nK h]
theorem fe_together {M M' : Mem} (h : FE M M') (c q known : Int) : togetherS M' c q known = togetherS M c q known := by
  unfold togetherS tgSum tgCnt
  simp only [fe_scaled h]
def wishesS (M : Mem) (c : Nat) : Int := cnt (fun p => M 86 (3 * c + p) ≠ -1) 3
def namedS (M : Mem) (c : Nat) : Int := cnt (fun k => M 86 k = (c : Int)) (3 * nK M)
def toldS (M : Mem) (known : Int) (c j : Nat) : Int :=
  if j = 0 then M 81 c else if j = 1 then M 82 c else if j = 2 then orFive (togetherS M c 0 known) else if j = 3 then orFive (togetherS M c 1 known) else if j = 4 then M 85 c else if j = 5 then wishesS M c else namedS M c
theorem fe_told {M M' : Mem} (h : FE M M') (known : Int) (c j : Nat) : toldS M' known c j = toldS M known c j := by
  unfold toldS wishesS namedS
  simp only [fe_together h, fe_nK h, fun i => h.row 81 i (by omega), fun i => h.row 82 i (by omega), fun i => h.row 85 i (by omega), fun i => h.row 86 i (by omega)]
/-- a TERM, at place t of the rows of terms, of child c: 1 or 0 without its 'not' -/
def termZ (M : Mem) (known : Int) (t c : Nat) : Int :=
  if M 102 t = 7 then (if band (bshr (M 83 c) (M 104 t)) 1 = 1 then 1 else 0)
  else if M 103 t = 0 then (if M 104 t ≤ toldS M known c (M 102 t).toNat then 0 else 1)
  else if M 103 t = 1 then (if toldS M known c (M 102 t).toNat = M 104 t then 1 else 0)
  else (if toldS M known c (M 102 t).toNat ≤ M 104 t then 0 else 1)
def allB (f : Nat → Bool) : Nat → Bool
  | 0 => true
  | k + 1 => allB f k && f k
theorem allB_iff (f : Nat → Bool) : ∀ n, allB f n = true ↔ ∀ k, k < n → f k = true
  | 0 => by simp [allB]
  | n + 1 => by
    simp only [allB, Bool.and_eq_true, allB_iff f n]
    constructor
    · intro h k hk
      by_cases e : k = n
      · subst e; exact h.2
      · exact h.1 k (by omega)
    · intro h; exact ⟨fun k hk => h k (by omega), h n (by omega)⟩
theorem allB_congr {f g : Nat → Bool} : ∀ {n : Nat}, (∀ k, k < n → f k = g k) → allB f n = allB g n
  | 0, _ => rfl
  | n + 1, h => by
    show (allB f n && f n) = (allB g n && g n)
    rw [allB_congr (fun k hk => h k (by omega)), h n (by omega)]
/-- TERMS of row hold for c (without some: NONE in the row, they don't) -/
def termsB (M : Mem) (known : Int) (row c n : Nat) : Bool := allB (fun k => decide (termZ M known (4 * row + k) c ≠ M 101 (4 * row + k))) n
def holdB (M : Mem) (known : Int) (row c : Nat) : Bool := decide (M 100 row ≠ -1) && termsB M known row c (M 100 row).toNat
theorem fe_term {M M' : Mem} (h : FE M M') (known : Int) {t : Nat} (ht : t < 128) (c : Nat) : termZ M' known t c = termZ M known t c := by
  unfold termZ
  rw [h 102 t (by unfold isF; omega), h 103 t (by unfold isF; omega), h 104 t (by unfold isF; omega), h.row 83 c (by omega), fe_told h]
theorem fe_hold {M M' : Mem} (h : FE M M') (known : Int) {row : Nat} (hr : row < 32) (h4 : M 100 row ≤ 4) (c : Nat) : holdB M' known row c = holdB M known row c := by
  unfold holdB termsB
  rw [h 100 row (by unfold isF; omega)]
  congr 1
  refine allB_congr (fun k hk => ?_)
  rw [fe_term h known (by omega), h 101 (4 * row + k) (by unfold isF; omega)]
/-- a PLAN: P c the CLASS of c, -1 if it is in none -/
def holdN (M : Mem) (known : Int) (row : Nat) (P : Nat → Int) (k : Int) : Int := cnt (fun c => P c = k ∧ holdB M known row c = true) (nK M)
def inCl (M : Mem) (P : Nat → Int) (k : Int) : Int := cnt (fun c => P c = k) (nK M)
/-- how twins are, by the last twins STATEMENT -/
def howS (M : Mem) : Nat → Int
  | 0 => 0
  | s + 1 => if M 97 s = 8 then M 98 s else howS M s
def nS (M : Mem) : Nat := (M 80 21).toNat
def nC (M : Mem) : Nat := (M 80 12).toNat
def pairOk (M : Mem) (P : Nat → Int) (a b : Nat) : Prop := P b ≠ -1 → ¬ (P a = P b ∧ M 88 (14 * a + b) = 1) ∧ ¬ (M 89 (14 * a + b) = 1 ∧ ((howS M (nS M) = 1 ∧ P a = P b) ∨ (howS M (nS M) = 2 ∧ P a ≠ P b)))
def metS (M : Mem) (known : Int) (P : Nat → Int) (s : Nat) : Prop :=
  (M 97 s = 6 → ∀ k : Nat, k < nC M → holdN M known (2 * s) P k ≤ M 98 s) ∧
  (M 97 s = 5 → ∀ a : Nat, a < nK M → P a ≠ -1 → holdB M known (2 * s) a = true → ∀ b : Nat, b < nK M → b ≠ a → P b = P a → holdB M known (2 * s + 1) b = false)
def soundS (M : Mem) (known : Int) (P : Nat → Int) : Prop :=
  (∀ k : Nat, k < nC M → inCl M P k ≤ M 91 k) ∧
  (∀ a : Nat, a < nK M → P a ≠ -1 → M 90 (3 * a + (P a).toNat) = 0 ∧ ∀ b : Nat, b < a → pairOk M P a b) ∧
  (∀ s : Nat, s < nS M → metS M known P s)
def pos0 (x : Int) : Int := if 0 < x then x else 0
def lackS (M : Mem) (known : Int) (P : Nat → Int) : Int := fb_si (fun s => if M 97 s = 7 then fb_si (fun k => pos0 (M 98 s - holdN M known (2 * s) P k)) (nC M) else 0) (nS M)
def servedS (M : Mem) (P : Nat → Int) (c : Nat) : Nat :=
  if M 86 (3 * c) ≠ -1 ∧ P (M 86 (3 * c)).toNat = P c then 0 else if M 86 (3 * c + 1) ≠ -1 ∧ P (M 86 (3 * c + 1)).toNat = P c then 1 else if M 86 (3 * c + 2) ≠ -1 ∧ P (M 86 (3 * c + 2)).toNat = P c then 2 else 3
def sumIn (M : Mem) (known : Int) (j : Nat) (P : Nat → Int) (k : Int) : Int := fb_si (fun c => if P c = k then toldS M known c j else 0) (nK M)
/-- the least and the greatest of a row of numbers that aren't negative (none: a great number, 0) -/
def minS (f : Nat → Int) : Nat → Int
  | 0 => 1000000000
  | k + 1 => if f k < minS f k then f k else minS f k
def maxS (f : Nat → Int) : Nat → Int
  | 0 => 0
  | k + 1 => if maxS f k < f k then f k else maxS f k
def wtS (M : Mem) (known : Int) (s : Nat) (P : Nat → Int) (k : Nat) : Int := if M 97 s = 0 then holdN M known (2 * s) P k else sumIn M known (M 99 s).toNat P k
def harmOfS (M : Mem) (known : Int) (P : Nat → Int) (s : Nat) : Int :=
  if M 97 s = 0 ∨ M 97 s = 1 then M 98 s * (maxS (wtS M known s P) (nC M) - minS (wtS M known s P) (nC M))
  else if M 97 s = 2 then M 98 s * fb_si (fun c => if P c ≠ -1 ∧ servedS M P c = 3 then 1 + M 85 c else 0) (nK M)
  else if M 97 s = 3 then M 98 s * cnt (fun c => P c ≠ -1 ∧ holdB M known (2 * s) c = true ∧ holdN M known (2 * s) P (P c) = 1) (nK M)
  else if M 97 s = 4 then M 98 s * fb_si (fun a => fb_si (fun b => if P a ≠ -1 ∧ P a = P b then M 87 (14 * a + b) else 0) a) (nK M)
  else 0
def harmS (M : Mem) (known : Int) (P : Nat → Int) : Int := fb_si (harmOfS M known P) (nS M)
