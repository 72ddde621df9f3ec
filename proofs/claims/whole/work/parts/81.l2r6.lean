/-! swaps, swap: over all pairs -/
def qg (n : Nat) (g : Nat → Nat → Bool) (y : Nat) : Bool := decide (y / 14 < y % 14 ∧ y % 14 < n) && g (y / 14) (y % 14)
theorem qg_no {n : Nat} {g : Nat → Nat → Bool} {y : Nat} (h : ¬ (y / 14 < y % 14 ∧ y % 14 < n)) : qg n g y = false := by
  unfold qg; rw [decide_eq_false h, Bool.false_and]
theorem qg_at {n : Nat} {g : Nat → Nat → Bool} {a b : Nat} (hab : a < b) (hb : b < n) (hn : n ≤ 14) : qg n g (14 * a + b) = g a b := by
  unfold qg
  rw [show (14 * a + b) / 14 = a by omega, show (14 * a + b) % 14 = b by omega, decide_eq_true ⟨hab, hb⟩, Bool.true_and]
theorem ct_gap {q : Nat → Bool} {x : Nat} : ∀ (d : Nat), (∀ y, x ≤ y → y < x + d → q y = false) → fb_ct q (x + d) = fb_ct q x := by
  intro d
  induction d with
  | zero => intro _; rfl
  | succ d ih =>
    intro h
    rw [← Nat.add_assoc, fb_ct_succ, h (x + d) (by omega) (by omega), ih (fun y h1 h2 => h y h1 (by omega))]
    rfl
theorem row_end {n a : Nat} {g : Nat → Nat → Bool} (ha : a < n) (hn : n ≤ 14) : fb_ct (qg n g) (14 * (a + 1) + (a + 2)) = fb_ct (qg n g) (14 * a + n) := by
  have := ct_gap (q := qg n g) (x := 14 * a + n) (14 * (a + 1) + (a + 2) - (14 * a + n)) (fun y h1 h2 => qg_no (by omega))
  rw [← this]
  exact congrArg _ (by omega)
