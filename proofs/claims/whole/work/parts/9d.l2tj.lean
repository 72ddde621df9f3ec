/-! rule: the TAPE and its TOKENS -/
abbrev isLt (x : Int) : Prop := 97 ≤ x ∧ x ≤ 122
abbrev isDg (x : Int) : Prop := 48 ≤ x ∧ x ≤ 57
abbrev isBl (x : Int) : Prop := x = 32 ∨ x = 10
abbrev isSg (x : Int) : Prop := x = 59 ∨ x = 58 ∨ x = 60 ∨ x = 61 ∨ x = 62
/-- as far as q holds, at most so many places -/
def runE (q : Nat → Bool) : Nat → Nat → Nat
  | 0, p => p
  | n + 1, p => if q p then runE q n (p + 1) else p
theorem runE_eq {q : Nat → Bool} : ∀ {n p e : Nat}, p ≤ e → e ≤ p + n → (∀ j, p ≤ j → j < e → q j = true) → (e < p + n → q e = false) → runE q n p = e := by
  intro n
  induction n with
  | zero => intro p e h1 h2 _ _; show p = e; omega
  | succ n ih =>
    intro p e h1 h2 h3 h4
    show (if q p then runE q n (p + 1) else p) = e
    by_cases z : p = e
    · subst z
      rw [h4 (by omega)]; rfl
    · rw [h3 p (by omega) (by omega)]
      exact ih (by omega) (by omega) (fun j a b => h3 j (by omega) b) (fun a => h4 (by omega))
theorem runE_sp (q : Nat → Bool) : ∀ n p, p ≤ runE q n p ∧ runE q n p ≤ p + n ∧ (∀ j, p ≤ j → j < runE q n p → q j = true) ∧ (runE q n p < p + n → q (runE q n p) = false) := by
  intro n
  induction n with
  | zero => intro p; exact ⟨Nat.le_refl _, Nat.le_refl _, fun j a b => absurd b (by show ¬ j < p; omega), fun a => absurd a (by show ¬ p < p + 0; omega)⟩
  | succ n ih =>
    intro p
    show p ≤ (if q p then runE q n (p + 1) else p) ∧ (if q p then runE q n (p + 1) else p) ≤ p + (n + 1) ∧ (∀ j, p ≤ j → j < (if q p then runE q n (p + 1) else p) → q j = true) ∧ ((if q p then runE q n (p + 1) else p) < p + (n + 1) → q (if q p then runE q n (p + 1) else p) = false)
    by_cases z : q p = true
    · rw [if_pos z]
      obtain ⟨a, b, c, d⟩ := ih (p + 1)
      refine ⟨by omega, by omega, fun j h1 h2 => ?_, fun h => d (by omega)⟩
      by_cases e : j = p
      · rw [e]; exact z
      · exact c j (by omega) h2
    · rw [if_neg z]
      exact ⟨Nat.le_refl _, by omega, fun j h1 h2 => absurd h1 (by omega), fun _ => Bool.eq_false_iff.mpr z⟩
section LEX
variable (b : Nat → Int) (L : Nat)
def skp (p : Nat) : Nat := runE (fun i => decide (isBl (b i))) (L - p) p
def ltE (p : Nat) : Nat := runE (fun i => decide (isLt (b i))) (L - p) p
def dgE (p : Nat) : Nat := runE (fun i => decide (isDg (b i))) (L - p) p
/-- where the TOKEN at f ends -/
def teE (f : Nat) : Nat := if L ≤ f then f else if isLt (b f) then ltE b L f else if isDg (b f) then dgE b L f else f + 1
def nvE (f e : Nat) : Int := if e = f + 1 then b f - 48 else 10 * (b f - 48) + (b (f + 1) - 48)
/-- the k-th word, as a String constant -/
def wI (k : Nat) : Nat := ([16, 17, 18, 19, 20, 21, 22, 15, 5, 6, 7, 8, 9, 10, 11, 12, 13, 25, 26, 14, 23, 24] : List Nat).getD k 0
def mtW (f n k : Nat) : Prop := n = sLen (wI k) ∧ ∀ m, m < n → b (f + m) = sAt (wI k) m
noncomputable def wdC (f n : Nat) : Int := @dite Int (∃ k, k < 22 ∧ mtW b f n k) (Classical.propDecidable _) (fun h => ((Classical.choose h : Nat) : Int)) (fun _ => -2)
noncomputable def cdE (f : Nat) : Int := if L ≤ f then -1 else if isLt (b f) then wdC b f (ltE b L f - f) else if isDg (b f) then (if dgE b L f ≤ f + 2 then -3 else -2) else if isSg (b f) then b f else -2
def nmE (f : Nat) : Int := if f < L ∧ ¬ isLt (b f) ∧ isDg (b f) then nvE b f (dgE b L f) else 0
def stk : Nat → Nat
  | 0 => skp b L 0
  | i + 1 => skp b L (teE b L (stk i))
end LEX
theorem w_one : ∀ k, k < 22 → ∀ k', k' < 22 → k ≠ k' → sLen (wI k) ≠ sLen (wI k') ∨ ∃ m, m < sLen (wI k) ∧ sAt (wI k) m ≠ sAt (wI k') m := by decide +kernel
theorem mtW_one {b : Nat → Int} {f n k k' : Nat} (hk : k < 22) (hk' : k' < 22) (h : mtW b f n k) (g : mtW b f n k') : k = k' := by
  apply Classical.byContradiction
  intro z
  rcases w_one k hk k' hk' z with q | ⟨m, hm, q⟩
  · exact q (h.1.symm.trans g.1)
  · exact q ((h.2 m (by rw [h.1]; exact hm)).symm.trans (g.2 m (by rw [h.1]; exact hm)))
theorem wdC_of {b : Nat → Int} {f n k : Nat} (hk : k < 22) (h : mtW b f n k) : wdC b f n = (k : Int) := by
  have hx : ∃ k, k < 22 ∧ mtW b f n k := ⟨k, hk, h⟩
  unfold wdC
  rw [dif_pos hx]
  have s := Classical.choose_spec hx
  exact congrArg Int.ofNat (mtW_one s.1 hk s.2 h)
theorem wdC_no {b : Nat → Int} {f n : Nat} (h : ∀ k, k < 22 → ¬ mtW b f n k) : wdC b f n = -2 := by
  unfold wdC
  rw [dif_neg (fun ⟨k, h1, h2⟩ => h k h1 h2)]
theorem wdC_iff {b : Nat → Int} {f n k : Nat} (hk : k < 22) : wdC b f n = (k : Int) ↔ mtW b f n k := by
  constructor
  · intro e
    by_cases hx : ∃ k, k < 22 ∧ mtW b f n k
    · obtain ⟨k', h1, h2⟩ := hx
      rw [wdC_of h1 h2] at e
      have : k' = k := by omega
      rw [← this]; exact h2
    · rw [wdC_no (fun k h1 h2 => hx ⟨k, h1, h2⟩)] at e
      omega
  · exact wdC_of hk
theorem wdC_b (b : Nat → Int) (f n : Nat) : wdC b f n = -2 ∨ (0 ≤ wdC b f n ∧ wdC b f n < 22) := by
  by_cases hx : ∃ k, k < 22 ∧ mtW b f n k
  · obtain ⟨k', h1, h2⟩ := hx
    rw [wdC_of h1 h2]; omega
  · exact Or.inl (wdC_no (fun k h1 h2 => hx ⟨k, h1, h2⟩))
/-- where in the class's words: which word, where it begins -/
def wN : Nat → Nat
  | 0 => 0
  | i + 1 => if sAt 0 i = 32 then wN i + 1 else wN i
def wB : Nat → Nat
  | 0 => 0
  | i + 1 => if sAt 0 i = 32 then i + 1 else wB i
theorem w_t1 : ∀ i, i < 119 → sAt 0 i = 32 → sLen (wI (wN i)) = i - wB i ∧ wN i < 22 := by decide +kernel
theorem w_t2 : ∀ i, i < 119 → sAt 0 i ≠ 32 → sAt 0 i = sAt (wI (wN i)) (i - wB i) := by decide +kernel
theorem w_t3 : wN 119 = 22 := by decide +kernel
theorem w_t4 : ∀ i, i < 120 → wB i ≤ i := by decide +kernel
theorem w_t5 : sLen 0 = 119 := by decide +kernel
section SCAN
variable {b : Nat → Int} {L : Nat} {M : Mem}
/-- the class's TAPE -/
def TP (b : Nat → Int) (L : Nat) (M : Mem) : Prop := M 24 0 = (L : Int) ∧ L ≤ 400 ∧ ∀ i, i < L → M 25 i = b i ∧ 0 ≤ b i ∧ b i ≤ 255
theorem c_isLetter (x : Int) : f_X9_isLetter x M = some (b2i (isLt x)) := by
  unfold f_X9_isLetter
  by_cases h1 : x < 97
  · rw [if_pos h1, b2i_f (by omega)]
  · rw [if_neg h1]
    by_cases h2 : 122 < x
    · rw [if_pos h2, b2i_f (by omega)]
    · rw [if_neg h2, b2i_t (by omega)]
theorem c_isDigit (x : Int) : f_X9_isDigit x M = some (b2i (isDg x)) := by
  unfold f_X9_isDigit
  by_cases h1 : x < 48
  · rw [if_pos h1, b2i_f (by omega)]
  · rw [if_neg h1]
    by_cases h2 : 57 < x
    · rw [if_pos h2, b2i_f (by omega)]
    · rw [if_neg h2, b2i_t (by omega)]
theorem c_wordCode (T : TP b L M) {f n : Nat} (hf : f + n ≤ L) : f_X9_wordCode (f : Int) (n : Int) M = some (wdC b f n, M) := by
  obtain ⟨h1, h2, h3⟩ := T
  apply ok_to
  unfold f_X9_wordCode
  refine ok_lpr (P := fun s => (∀ k, k < 22 → ¬ mtW b f n k) ∧ s.2.2.2 = M) (P2 := fun q => q = (wdC b f n, M)) ?_ (fun s hs => ?_) (fun t ht => ok_some ht)
  · unfold f_X9_wordCode_l8
    refine ok_whl 119 (fun i s => s.1 = (wN i : Int) ∧ ((s.2.1 = ((i - wB i : Nat) : Int) ∧ i - wB i ≤ n ∧ ∀ m, m < i - wB i → b (f + m) = sAt (wI (wN i)) m) ∨ (s.2.1 = -1 ∧ ¬ (i - wB i ≤ n ∧ ∀ m, m < i - wB i → b (f + m) = sAt (wI (wN i)) m))) ∧ s.2.2.1 = (i : Int) ∧ s.2.2.2 = M ∧ ∀ k, k < wN i → ¬ mtW b f n k) (FU_big (by omega)) ⟨rfl, Or.inl ⟨rfl, Nat.zero_le _, fun m hm => absurd hm (by show ¬ m < 0; omega)⟩, rfl, rfl, fun k hk => absurd hk (by show ¬ k < 0; omega)⟩ ?_
    rintro i ⟨w, ft, j, N⟩ hi ⟨hw, hft, hj, hN, hno⟩
    dsimp only at hw hft hj hN hno ⊢
    subst hj hN
    have hB := w_t4 i (by omega)
    unfold f_X9_wordCode_s8
    rw [w_t5, toN]
    refine ok_ite (fun z => ?_) (fun z => ?_)
    · have e : i = 119 := by omega
      subst e
      rw [w_t3] at hno
      exact ok_some ⟨hno, rfl⟩
    have hi2 : i < 119 := by omega
    have hwb : wN i ≤ 22 := by
      have : ∀ i, i < 120 → wN i ≤ 22 := by decide +kernel
      exact this i (by omega)
    refine ok_gd (by omega) (ok_lt (ok_ite (fun h32 => ?_) (fun h32 => ?_)))
    · obtain ⟨t1, t2⟩ := w_t1 i hi2 h32
      have eN : wN (i + 1) = wN i + 1 := if_pos h32
      have eB : wB (i + 1) = i + 1 := if_pos h32
      refine ok_ite (fun e => ?_) (fun e => ?_)
      · have hm : mtW b f n (wN i) := by
          rcases hft with ⟨a1, a2, a3⟩ | ⟨a1, a2⟩
          · exact ⟨by omega, fun m hm => a3 m (by omega)⟩
          · omega
        refine ok_some ?_
        show (w, N) = _
        rw [wdC_of t2 hm, hw]
      · have hm : ¬ mtW b f n (wN i) := fun hm => by
          rcases hft with ⟨a1, a2, a3⟩ | ⟨a1, a2⟩
          · have := hm.1; omega
          · exact a2 ⟨by have := hm.1; omega, fun m h => hm.2 m (by have := hm.1; omega)⟩
        rw [hw, wrap_n1 (by omega), wrap_n1 (by omega)]
        refine ok_lt (ok_lt (ok_some ⟨hi2, by rw [eN], Or.inl ⟨by rw [eB]; show (0 : Int) = _; omega, by rw [eB]; omega, fun m h => absurd h (by rw [eB]; omega)⟩, rfl, rfl, fun k hk => ?_⟩))
        rw [eN] at hk
        by_cases e2 : k = wN i
        · rw [e2]; exact hm
        · exact hno k (by omega)
    · have t2 := w_t2 i hi2 h32
      have eN : wN (i + 1) = wN i := if_neg h32
      have eB : wB (i + 1) = wB i := if_neg h32
      rw [wrap_n1 (by omega)]
      have nx : ¬ (i + 1 - wB i ≤ n ∧ ∀ m, m < i + 1 - wB i → b (f + m) = sAt (wI (wN i)) m) → Okk (lt ((i + 1 : Nat) : Int) fun v5_2 => (some (.inl (w, (-1 : Int), v5_2, N)) : Option ((Int × Int × Int × Mem) ⊕ ((Int × Int × Int × Mem) ⊕ (Int × Mem))))) (inS (fun s => i < 119 ∧ s.1 = (wN (i + 1) : Int) ∧ ((s.2.1 = ((i + 1 - wB (i + 1) : Nat) : Int) ∧ i + 1 - wB (i + 1) ≤ n ∧ ∀ m, m < i + 1 - wB (i + 1) → b (f + m) = sAt (wI (wN (i + 1))) m) ∨ (s.2.1 = -1 ∧ ¬ (i + 1 - wB (i + 1) ≤ n ∧ ∀ m, m < i + 1 - wB (i + 1) → b (f + m) = sAt (wI (wN (i + 1))) m))) ∧ s.2.2.1 = ((i + 1 : Nat) : Int) ∧ s.2.2.2 = N ∧ ∀ k, k < wN (i + 1) → ¬ mtW b f n k) (inS (fun s => (∀ k, k < 22 → ¬ mtW b f n k) ∧ s.2.2.2 = N) (fun q => q = (wdC b f n, N)))) := fun hn => by
        rw [eN, eB]
        exact ok_lt (ok_some ⟨hi2, hw, Or.inr ⟨rfl, hn⟩, rfl, rfl, hno⟩)
      refine ok_ite (fun e => nx (fun q => ?_)) (fun e => ok_ite (fun e2 => nx (fun q => ?_)) (fun e2 => ?_))
      · rcases hft with ⟨a1, a2, a3⟩ | ⟨a1, a2⟩
        · omega
        · exact a2 ⟨by omega, fun m hm => q.2 m (by omega)⟩
      · rcases hft with ⟨a1, a2, a3⟩ | ⟨a1, a2⟩
        · omega
        · omega
      · rcases hft with ⟨a1, a2, a3⟩ | ⟨a1, a2⟩
        · obtain ⟨p, hp⟩ : ∃ p : Nat, p = i - wB i := ⟨_, rfl⟩
          rw [← hp] at a1 a2 a3 t2
          rw [a1, nA, wrap_of (by omega) (by omega), toN, (h3 (f + p) (by omega)).1, t2, wrap_n1 (by omega)]
          refine ok_gd (by omega) (ok_ite (fun e3 => ?_) (fun e3 => nx (fun q => e3 (q.2 p (by omega)))))
          rw [eN, eB]
          refine ok_lt (ok_lt (ok_some ⟨hi2, hw, Or.inl ⟨by show ((p + 1 : Nat) : Int) = _; omega, by omega, fun m hm => ?_⟩, rfl, rfl, hno⟩))
          by_cases e4 : m = p
          · rw [e4]; exact e3
          · exact a3 m (by omega)
        · omega
  · unfold f_X9_wordCode_j91
    refine ok_some ?_
    rw [wdC_no hs.1, hs.2]
end SCAN
