/-! short answers -/
theorem b2i_congr {p q : Prop} [Decidable p] [Decidable q] (h : p ↔ q) : b2i p = b2i q := by unfold b2i; by_cases hp : p <;> simp [hp, h.symm, h.mp, ← h]
theorem m_within (a b c : Int) (M : Mem) : f_X11_within a b c M = some (b2i (b ≤ a ∧ a ≤ c)) := by
  unfold f_X11_within b2i
  by_cases h1 : a < b
  · rw [if_pos h1, if_neg (by omega)]
  · rw [if_neg h1]
    by_cases h2 : c < a
    · rw [if_pos h2, if_neg (by omega)]
    · rw [if_neg h2, if_pos (by omega)]
theorem c_within (a b c : Int) (M : Mem) : f_X10_within a b c M = some (b2i (b ≤ a ∧ a ≤ c)) := m_within a b c M
theorem m_isChild {M : Mem} (h : A1 M) (c : Int) : f_X11_isChild c M = some (b2i (0 ≤ c ∧ c < M 80 1)) := by
  unfold f_X11_isChild
  rw [m_within, obn_s, gd_z, wrap_of (by have := h.1; omega) (by have := h.2.1; omega)]
  rw [b2i_congr (show (0 ≤ c ∧ c ≤ M 80 1 - 1) ↔ (0 ≤ c ∧ c < M 80 1) by omega)]
theorem c_has {M : Mem} (h : A1 M) (c : Int) : f_X1_has c M = some (b2i (0 ≤ c ∧ c < M 80 1)) := by
  unfold f_X1_has b2i
  rw [h.2.2]
  by_cases h1 : c < 0
  · rw [if_pos h1, if_neg (by omega)]
  · rw [if_neg h1]
    by_cases h2 : M 80 1 ≤ c
    · rw [if_pos h2, if_neg (by omega)]
    · rw [if_neg h2, if_pos (by omega)]
theorem m_areTwo {M : Mem} (h : A1 M) (a b : Int) : f_X11_areTwo a b M = some (b2i ((0 ≤ a ∧ a < M 80 1) ∧ (0 ≤ b ∧ b < M 80 1) ∧ a ≠ b)) := by
  unfold f_X11_areTwo
  rw [m_isChild h, obn_s]
  by_cases h1 : 0 ≤ a ∧ a < M 80 1
  · rw [b2i_t h1, if_neg (by decide), m_isChild h, obn_s]
    by_cases h2 : 0 ≤ b ∧ b < M 80 1
    · rw [b2i_t h2, if_neg (by decide)]
      by_cases h3 : a = b
      · rw [if_pos h3, b2i_f (fun q => q.2.2 h3)]
      · rw [if_neg h3, b2i_t ⟨h1, h2, h3⟩]
    · rw [b2i_f h2, if_pos rfl, b2i_f (fun q => h2 q.2.1)]
  · rw [b2i_f h1, if_pos rfl, b2i_f (fun q => h1 q.1)]
theorem c_areTwo {M : Mem} (h : A1 M) (a b : Int) : f_X1_areTwo a b M = some (b2i ((0 ≤ a ∧ a < M 80 1) ∧ (0 ≤ b ∧ b < M 80 1) ∧ a ≠ b)) := by
  unfold f_X1_areTwo
  rw [c_has h, obn_s]
  by_cases h1 : 0 ≤ a ∧ a < M 80 1
  · rw [b2i_t h1, if_neg (by decide), c_has h, obn_s]
    by_cases h2 : 0 ≤ b ∧ b < M 80 1
    · rw [b2i_t h2, if_neg (by decide)]
      by_cases h3 : a = b
      · rw [if_pos h3, b2i_f (fun q => q.2.2 h3)]
      · rw [if_neg h3, b2i_t ⟨h1, h2, h3⟩]
    · rw [b2i_f h2, if_pos rfl, b2i_f (fun q => h2 q.2.1)]
  · rw [b2i_f h1, if_pos rfl, b2i_f (fun q => h1 q.1)]
theorem c_isDay {M : Mem} (h : A3 M) (k : Int) : f_X10_isDay k M = some (b2i (0 ≤ k ∧ k ≤ M 80 14)) := by
  unfold f_X10_isDay
  rw [c_within, obn_s, gd_z, h.1]
