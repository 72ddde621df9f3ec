/-! what holds between two calls: the class's cells (below 80) say what the model's say (80 and on) -/
def eqp (a b : Nat) (M : Mem) : Prop := ∀ i, M a i = M b i
def A1 (M : Mem) : Prop := 0 ≤ M 80 1 ∧ M 80 1 ≤ 14 ∧ M 3 0 = M 80 1
def A2 (M : Mem) : Prop := M 3 13 = M 80 12 ∧ (M 80 12 = 2 ∨ M 80 12 = 3)
def A3 (M : Mem) : Prop := M 0 13 = M 80 14 ∧ 0 ≤ M 80 14 ∧ M 80 14 ≤ 100000
def A4 (M : Mem) : Prop := M 17 0 = M 80 15 ∧ 0 ≤ M 80 15 ∧ M 80 15 ≤ 300
def A5 (M : Mem) : Prop := M 0 14 = M 80 55
def A6 (M : Mem) : Prop := M 0 15 = M 80 48
def A7 (M : Mem) : Prop := M 51 0 = M 80 50 ∧ 0 ≤ M 80 50 ∧ M 80 50 ≤ 6
def A8 (M : Mem) : Prop := M 57 0 = M 80 56 ∧ 0 ≤ M 80 56 ∧ M 80 56 ≤ 400
def A9 (M : Mem) : Prop := M 24 0 = M 80 32 ∧ 0 ≤ M 80 32 ∧ M 80 32 ≤ 400
def A10 (M : Mem) : Prop := M 29 1 = M 80 34
/-- ranges -/
def C1 (M : Mem) : Prop := ∀ c : Nat, (c : Int) < M 80 1 → (M 81 c = 0 ∨ M 81 c = 1) ∧ (1 ≤ M 82 c ∧ M 82 c ≤ 12) ∧ (0 ≤ M 83 c ∧ M 83 c ≤ 255) ∧ (0 ≤ M 84 c ∧ M 84 c ≤ M 80 14) ∧ ∀ d : Nat, c ≤ d → (d : Int) < M 80 1 → M 84 c ≤ M 84 d
def C2 (M : Mem) : Prop := ∀ c : Nat, c < 14 → (0 ≤ M 85 c ∧ M 85 c ≤ 99) ∧ (-1 ≤ M 110 c ∧ M 110 c < M 80 12) ∧ (M 80 1 ≤ (c : Int) → M 110 c = -1 ∧ M 85 c = 0 ∧ M 114 c = -1) ∧ (-1 ≤ M 114 c ∧ M 114 c ≤ 10) ∧ (-1 ≤ M 115 c ∧ M 115 c ≤ 5)
def C3 (M : Mem) : Prop := ∀ k : Nat, k < 42 → -1 ≤ M 86 k ∧ M 86 k < M 80 1 ∧ M 86 k ≠ ((k / 3 : Nat) : Int) ∧ (3 * M 80 1 ≤ (k : Int) → M 86 k = -1)
def C4 (M : Mem) : Prop := ∀ a b : Nat, a < 14 → b < 14 → (0 ≤ M 87 (14 * a + b) ∧ M 87 (14 * a + b) ≤ 99) ∧ M 87 (14 * a + b) = M 87 (14 * b + a)
def C5 (M : Mem) : Prop := ∀ k : Nat, k < 3 → 0 ≤ M 91 k ∧ M 91 k ≤ 14
def C6 (M : Mem) : Prop := ∀ i : Nat, (i : Int) < M 80 15 → (0 ≤ M 92 i ∧ M 92 i ≤ 3) ∧ (0 ≤ M 93 i ∧ M 93 i < M 80 1) ∧ (0 ≤ M 94 i ∧ M 94 i ≤ 1) ∧ (0 ≤ M 95 i ∧ M 95 i ≤ 100) ∧ (0 ≤ M 96 i ∧ M 96 i ≤ M 80 14)
def C7 (M : Mem) : Prop := ∀ i : Nat, (i : Int) < M 80 50 → 1 ≤ M 112 i ∧ M 112 i ≤ 60
/-- a row of masks, and a row of flags -/
def bitsAre (x : Int) (f : Nat → Int) : Prop := 0 ≤ x ∧ x < 16384 ∧ ∀ b : Nat, b < 14 → (x.toNat.testBit b = true ↔ f b = 1)
def D1 (x y : Nat) (M : Mem) : Prop := ∀ a : Nat, a < 14 → bitsAre (M x a) (fun b => M y (14 * a + b))
def D2 (M : Mem) : Prop := ∀ k : Nat, k < 3 → bitsAre (M 12 k) (fun c => M 90 (3 * c + k))
def D3 (y : Nat) (M : Mem) : Prop := ∀ a b : Nat, a < 14 → b < 14 → isZ (M y (14 * a + b)) ∧ M y (14 * a + b) = M y (14 * b + a) ∧ (a = b ∨ M 80 1 ≤ (a : Int) ∨ M 80 1 ≤ (b : Int) → M y (14 * a + b) = 0)
def D4 (M : Mem) : Prop := ∀ c k : Nat, c < 14 → k < 3 → isZ (M 90 (3 * c + k)) ∧ (M 80 1 ≤ (c : Int) → M 90 (3 * c + k) = 0)
/-- the RULE: the class's one (at r), the model's -/
def R1 (M : Mem) : Prop := isRu (M 0 11) ∧ isRu (M 0 12) ∧ M 0 11 ≠ M 0 12 ∧ M (M 0 11).toNat 0 = M 80 21 ∧ 0 ≤ M 80 21 ∧ M 80 21 ≤ 16
/-- what model statement s is, and that the class's at r is the same -/
def stIs (r : Nat) (s : Nat) (M : Mem) : Prop :=
  (0 ≤ M 97 s ∧ M 97 s ≤ 8 ∧ M (r + 1) s = M 97 s + 8) ∧
  (M 97 s ≠ 5 → M 97 s ≠ 8 → 0 ≤ M 98 s ∧ M 98 s ≤ 99 ∧ M (r + 2) s = M 98 s) ∧
  (M 97 s = 8 → (M 98 s = 0 ∧ M (r + 3) s = 18) ∨ (M 98 s = 1 ∧ M (r + 3) s = 13) ∨ (M 98 s = 2 ∧ M (r + 3) s = 17)) ∧
  (M 97 s = 1 → 0 ≤ M 99 s ∧ M 99 s ≤ 6 ∧ M (r + 3) s = M 99 s) ∧
  (∀ w : Nat, w < 2 → ((M 97 s = 5 ∨ (w = 0 ∧ (M 97 s = 0 ∨ M 97 s = 3 ∨ M 97 s = 6 ∨ M 97 s = 7))) → 0 ≤ M 100 (2 * s + w) ∧ M 100 (2 * s + w) ≤ 4 ∧ M (r + 4) (2 * s + w) = M 100 (2 * s + w)) ∧
    (¬ (M 97 s = 5 ∨ (w = 0 ∧ (M 97 s = 0 ∨ M 97 s = 3 ∨ M 97 s = 6 ∨ M 97 s = 7))) → M 100 (2 * s + w) = -1 ∧ M (r + 4) (2 * s + w) = 0)) ∧
  (∀ w t : Nat, w < 2 → t < 4 → (t : Int) < M 100 (2 * s + w) → isZ (M 101 (4 * (2 * s + w) + t)) ∧ M (r + 5) (4 * (2 * s + w) + t) = M 101 (4 * (2 * s + w) + t) ∧ (0 ≤ M 102 (4 * (2 * s + w) + t) ∧ M 102 (4 * (2 * s + w) + t) ≤ 7) ∧ M (r + 6) (4 * (2 * s + w) + t) = M 102 (4 * (2 * s + w) + t) ∧
    (M 102 (4 * (2 * s + w) + t) ≠ 7 → 0 ≤ M 103 (4 * (2 * s + w) + t) ∧ M 103 (4 * (2 * s + w) + t) ≤ 2 ∧ M (r + 7) (4 * (2 * s + w) + t) = M 103 (4 * (2 * s + w) + t) + 60) ∧
    (0 ≤ M 104 (4 * (2 * s + w) + t) ∧ M 104 (4 * (2 * s + w) + t) ≤ 99) ∧ (M 102 (4 * (2 * s + w) + t) = 7 → M 104 (4 * (2 * s + w) + t) ≤ 7) ∧ M (r + 8) (4 * (2 * s + w) + t) = M 104 (4 * (2 * s + w) + t))
def R2 (M : Mem) : Prop := ∀ s : Nat, (s : Int) < M 80 21 → stIs (M 0 11).toNat s M
/-- the TAPE -/
def T1 (M : Mem) : Prop := ∀ i : Nat, (i : Int) < M 80 32 → 0 ≤ M 25 i ∧ M 25 i ≤ 255 ∧ band (M 105 i) 255 = M 25 i
