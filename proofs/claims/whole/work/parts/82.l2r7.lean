/-! swaps, swap: the class's loops -/
section LOOPS
variable {Good : Mem → Prop} {g : Nat → Nat → Bool} {n : Nat} {p : Int}
/-- what a search for the p-th gain has come to: x is the place where it stands -/
def soFar (n : Nat) (g : Nat → Nat → Bool) (p : Int) (x : Nat) : Prop := ∀ y, y < x → qg n g y = true → (fb_ct (qg n g) y : Int) ≠ p
def found (n : Nat) (g : Nat → Nat → Bool) (p : Int) (r : Int) : Prop := ∃ x : Nat, r = (x : Int) ∧ x < 196 ∧ qg n g x = true ∧ (fb_ct (qg n g) x : Int) = p
theorem soFar_gap {x d : Nat} (h : soFar n g p x) (k : ∀ y, x ≤ y → y < x + d → qg n g y = false) : soFar n g p (x + d) := fun y h1 h2 => by
  by_cases z : y < x
  · exact h y z h2
  · rw [k y (by omega) h1] at h2; exact absurd h2 (by decide)
theorem ct_le (q : Nat → Bool) : ∀ x, fb_ct q x ≤ x := by
  intro x
  induction x with
  | zero => exact Nat.le_refl _
  | succ x ih =>
    rw [fb_ct_succ]
    by_cases z : q x = true
    · rw [if_pos z]; omega
    · rw [if_neg z]; omega
theorem c_row {a : Nat} {M : Mem} (hn : n ≤ 14) (ha : a < n) (h3 : ∀ N, Good N → N 3 0 = (n : Int)) (hg : ∀ N, Good N → ∀ a b : Nat, a < b → b < n → Okk (f_X10_bettersBoth a b N) (fun q => isB q.1 (g a b = true) ∧ Good q.2)) (hM : Good M) (hs : soFar n g p (14 * a + (a + 1))) : Okk (f_X10_searchSwaps_l39 p a ((fb_ct (qg n g) (14 * a + (a + 1)) : Nat) : Int) ((a + 1 : Nat) : Int) M) (inS (fun s => s.1 = ((fb_ct (qg n g) (14 * a + n) : Nat) : Int) ∧ Good s.2.2 ∧ soFar n g p (14 * a + n)) (fun r => found n g p r.1 ∧ Good r.2)) := by
  unfold f_X10_searchSwaps_l39
  refine ok_whl (n - (a + 1)) (fun k (q : Int × Int × Mem) => q.1 = ((fb_ct (qg n g) (14 * a + (a + 1 + k)) : Nat) : Int) ∧ q.2.1 = ((a + 1 + k : Nat) : Int) ∧ Good q.2.2 ∧ soFar n g p (14 * a + (a + 1 + k))) (FU_big (by omega)) ⟨rfl, rfl, hM, hs⟩ ?_
  rintro k ⟨u, v, N⟩ hk ⟨hu, hv, hN, hS⟩
  dsimp only at hu hv hN hS ⊢
  unfold f_X10_searchSwaps_s39
  rw [h3 N hN]
  refine ok_ite (fun z => ok_some ?_) (fun z => ?_)
  · have e : a + 1 + k = n := by omega
    rw [e] at hu hS
    exact ⟨hu, hN, hS⟩
  subst hv
  have hb : a + 1 + k < n := by omega
  have eq1 := qg_at (g := g) (a := a) (b := a + 1 + k) (by omega) hb hn
  have es := fb_ct_succ (qg n g) (14 * a + (a + 1 + k))
  have le := ct_le (qg n g) (14 * a + (a + 1 + k))
  have nx : 14 * a + (a + 1 + k) + 1 = 14 * a + (a + 1 + (k + 1)) := by omega
  refine ok_bnd (hg N hN a (a + 1 + k) (by omega) hb) (fun r N2 hr => ?_)
  obtain ⟨hr, hG⟩ := hr
  dsimp only at hr hG ⊢
  refine ok_ite (fun r0 => ?_) (fun r0 => ?_)
  · have gf : g a (a + 1 + k) = false := by
      rcases hr with w | w
      · omega
      · exact Bool.eq_false_iff.mpr w.2
    rw [wrap_n1 (by omega)]
    refine ok_lt (ok_some ⟨by omega, ?_, by show ((a + 1 + k + 1 : Nat) : Int) = _; omega, hG, ?_⟩)
    · try dsimp only
      rw [← nx, es, eq1, gf, hu]; rfl
    · try dsimp only
      rw [← nx]
      exact soFar_gap hS (fun y y1 y2 => by rw [show y = 14 * a + (a + 1 + k) by omega, eq1, gf])
  · have gt : g a (a + 1 + k) = true := by
      rcases hr with w | w
      · exact w.2
      · omega
    refine ok_ite (fun hp => ok_some ⟨⟨14 * a + (a + 1 + k), ?_, by omega, by rw [eq1, gt], by rw [← hu]; exact hp⟩, hG⟩) (fun hp => ?_)
    · try dsimp only
      rw [wrap_of (x := (a : Int) * 14) (by omega) (by omega), wrap_of (by omega) (by omega)]; omega
    · rw [hu, wrap_n1 (by omega), wrap_n1 (by omega)]
      refine ok_lt (ok_lt (ok_some ⟨by omega, ?_, by show ((a + 1 + k + 1 : Nat) : Int) = _; omega, hG, ?_⟩))
      · try dsimp only
        rw [← nx, es, eq1, gt]; rfl
      · try dsimp only
        rw [← nx]
        intro y y1 y2
        by_cases e : y = 14 * a + (a + 1 + k)
        · rw [e, ← hu]; exact hp
        · exact hS y (by omega) y2
end LOOPS
