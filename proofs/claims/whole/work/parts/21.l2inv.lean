/-! what holds between two calls: the class's cells (below 80) say what the model's say (80 and on) -/
def InvA (M : Mem) : Prop :=
  (0 ≤ M 80 1 ∧ M 80 1 ≤ 14 ∧ M 3 0 = M 80 1) ∧ (M 3 13 = M 80 12 ∧ (M 80 12 = 2 ∨ M 80 12 = 3)) ∧ (M 0 13 = M 80 14 ∧ 0 ≤ M 80 14 ∧ M 80 14 ≤ 100000) ∧
  (M 17 0 = M 80 15 ∧ 0 ≤ M 80 15 ∧ M 80 15 ≤ 300) ∧ M 0 14 = M 80 55 ∧ M 0 15 = M 80 48 ∧ (M 51 0 = M 80 50 ∧ 0 ≤ M 80 50 ∧ M 80 50 ≤ 6) ∧
  (M 57 0 = M 80 56 ∧ 0 ≤ M 80 56 ∧ M 80 56 ≤ 400) ∧ (M 24 0 = M 80 32 ∧ 0 ≤ M 80 32 ∧ M 80 32 ≤ 400) ∧ M 29 1 = M 80 34
/-- rows that are kept alike: the class's, the model's -/
def pairsB : List (Nat × Nat) := [(4, 81), (5, 82), (6, 83), (7, 84), (8, 85), (9, 86), (13, 87), (14, 114), (15, 115), (16, 91), (18, 92), (19, 93), (20, 94), (21, 95), (22, 96), (1, 110), (52, 112), (58, 116), (59, 118), (60, 117), (61, 119)]
def InvB (M : Mem) : Prop := ∀ q ∈ pairsB, ∀ i, M q.1 i = M q.2 i
/-- ranges -/
def InvC (M : Mem) : Prop :=
  (∀ c : Nat, (c : Int) < M 80 1 → (M 81 c = 0 ∨ M 81 c = 1) ∧ (1 ≤ M 82 c ∧ M 82 c ≤ 12) ∧ (0 ≤ M 83 c ∧ M 83 c ≤ 255) ∧ (0 ≤ M 84 c ∧ M 84 c ≤ M 80 14) ∧ ∀ d : Nat, c ≤ d → (d : Int) < M 80 1 → M 84 c ≤ M 84 d) ∧
  (∀ c : Nat, c < 14 → (0 ≤ M 85 c ∧ M 85 c ≤ 99) ∧ (-1 ≤ M 110 c ∧ M 110 c < M 80 12) ∧ (M 80 1 ≤ (c : Int) → M 110 c = -1) ∧ (-1 ≤ M 114 c ∧ M 114 c ≤ 10) ∧ (-1 ≤ M 115 c ∧ M 115 c ≤ 5)) ∧
  (∀ k : Nat, k < 42 → (-1 ≤ M 86 k ∧ M 86 k < M 80 1 ∧ M 86 k ≠ ((k / 3 : Nat) : Int) ∧ (3 * M 80 1 ≤ (k : Int) → M 86 k = -1))) ∧
  (∀ a b : Nat, a < 14 → b < 14 → (0 ≤ M 87 (14 * a + b) ∧ M 87 (14 * a + b) ≤ 99) ∧ M 87 (14 * a + b) = M 87 (14 * b + a)) ∧
  (∀ k : Nat, k < 3 → 0 ≤ M 91 k ∧ M 91 k ≤ 14) ∧
  (∀ i : Nat, (i : Int) < M 80 15 → (0 ≤ M 92 i ∧ M 92 i ≤ 3) ∧ (0 ≤ M 93 i ∧ M 93 i < M 80 1) ∧ (0 ≤ M 94 i ∧ M 94 i ≤ 1) ∧ (0 ≤ M 95 i ∧ M 95 i ≤ 100) ∧ (0 ≤ M 96 i ∧ M 96 i ≤ M 80 14)) ∧
  (∀ i : Nat, (i : Int) < M 80 50 → 1 ≤ M 112 i ∧ M 112 i ≤ 60) ∧
  (∀ i : Nat, (i : Int) < M 80 56 → (0 ≤ M 116 i ∧ M 116 i < 14))
/-- a row of masks, and a row of flags -/
def bitsAre (x : Int) (n : Nat) (f : Nat → Int) : Prop := 0 ≤ x ∧ x < 16384 ∧ ∀ b : Nat, b < n → (x.toNat.testBit b = true ↔ f b = 1)
def InvD (M : Mem) : Prop :=
  (∀ a : Nat, a < 14 → bitsAre (M 10 a) 14 (fun b => M 88 (14 * a + b)) ∧ bitsAre (M 11 a) 14 (fun b => M 89 (14 * a + b))) ∧
  (∀ k : Nat, k < 3 → bitsAre (M 12 k) 14 (fun c => M 90 (3 * c + k))) ∧
  (∀ a b : Nat, a < 14 → b < 14 → isZ (M 88 (14 * a + b)) ∧ isZ (M 89 (14 * a + b)) ∧ M 88 (14 * a + b) = M 88 (14 * b + a) ∧ M 89 (14 * a + b) = M 89 (14 * b + a) ∧ (a = b ∨ M 80 1 ≤ (a : Int) ∨ M 80 1 ≤ (b : Int) → M 88 (14 * a + b) = 0 ∧ M 89 (14 * a + b) = 0)) ∧
  (∀ c k : Nat, c < 14 → k < 3 → isZ (M 90 (3 * c + k)) ∧ (M 80 1 ≤ (c : Int) → M 90 (3 * c + k) = 0))
