/-! swaps, swap: all rows of the class -/
section LOOPS
variable {Good : Mem → Prop} {g : Nat → Nat → Bool} {n : Nat} {p : Int}
theorem c_rows {M : Mem} (hn : n ≤ 14) (h3 : ∀ N, Good N → N 3 0 = (n : Int)) (hg : ∀ N, Good N → ∀ a b : Nat, a < b → b < n → Okk (f_X10_bettersBoth a b N) (fun q => isB q.1 (g a b = true) ∧ Good q.2)) (hM : Good M) : Okk (f_X10_searchSwaps_l23 p 0 0 M) (inS (fun s => s.1 = ((fb_ct (qg n g) 196 : Nat) : Int) ∧ Good s.2.2 ∧ soFar n g p 196) (fun r => found n g p r.1 ∧ Good r.2)) := by
  have z0 : fb_ct (qg n g) (14 * 0 + (0 + 1)) = 0 := ct_gap (q := qg n g) (x := 0) 1 (fun y _ _ => qg_no (by omega))
  unfold f_X10_searchSwaps_l23
  refine ok_whl n (fun k (q : Int × Int × Mem) => q.1 = ((fb_ct (qg n g) (14 * k + (k + 1)) : Nat) : Int) ∧ q.2.1 = (k : Int) ∧ Good q.2.2 ∧ soFar n g p (14 * k + (k + 1))) (FU_big (by omega)) ⟨by show (0 : Int) = _; rw [z0]; rfl, rfl, hM, fun y y1 y2 => by rw [qg_no (by omega)] at y2; exact absurd y2 (by decide)⟩ ?_
  rintro k ⟨u, v, N⟩ hk ⟨hu, hv, hN, hS⟩
  dsimp only at hu hv hN hS ⊢
  subst hv
  unfold f_X10_searchSwaps_s23
  rw [h3 N hN]
  refine ok_ite (fun z => ok_some ?_) (fun z => ?_)
  · have e : k = n := by omega
    subst e
    by_cases w : k = 14
    · subst w
      have hS2 : soFar 14 g p 196 := fun y y1 y2 => hS y (by omega) y2
      have : fb_ct (qg 14 g) (196 + 15) = fb_ct (qg 14 g) 196 := ct_gap 15 (fun y y1 y2 => qg_no (by omega))
      exact ⟨by rw [hu]; show ((fb_ct (qg 14 g) (196 + 15) : Nat) : Int) = _; rw [this], hN, hS2⟩
    · have gp : ∀ y, 14 * k + (k + 1) ≤ y → y < 14 * k + (k + 1) + (196 - (14 * k + (k + 1))) → qg k g y = false := fun y y1 y2 => qg_no (by omega)
      have e1 := ct_gap (q := qg k g) (196 - (14 * k + (k + 1))) gp
      have e2 := soFar_gap hS gp
      rw [show 14 * k + (k + 1) + (196 - (14 * k + (k + 1))) = 196 by omega] at e1 e2
      exact ⟨by rw [hu, e1], hN, e2⟩
  have hkn : k < n := by omega
  rw [wrap_n1 (by omega), hu]
  refine ok_lt (ok_lpr (c_row hn hkn h3 hg hN hS) (fun s hs => ?_) (fun t ht => ok_some ht))
  obtain ⟨s1, s2, s3⟩ := hs
  unfold f_X10_searchSwaps_j83k23
  rw [wrap_n1 (by omega)]
  have gp : ∀ y, 14 * k + n ≤ y → y < 14 * k + n + (14 * (k + 1) + (k + 2) - (14 * k + n)) → qg n g y = false := fun y y1 y2 => qg_no (by omega)
  have e2 := soFar_gap s3 gp
  rw [show 14 * k + n + (14 * (k + 1) + (k + 2) - (14 * k + n)) = 14 * (k + 1) + (k + 1 + 1) by omega] at e2
  exact ok_lt (ok_some ⟨hkn, by show s.1 = _; rw [s1, ← row_end hkn hn], rfl, s2, e2⟩)
end LOOPS
