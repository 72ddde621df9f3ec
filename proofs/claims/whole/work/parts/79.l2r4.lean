/-! swaps: the class judges an exchange -/
section GAIN
variable {B M : Mem} {known : Int}
theorem GP_congr2 {L : Nat → Int} {a b ka kb k : Nat} (ha : a < nK B) (hb : b < nK B) (hab : a ≠ b) (hka : L a = (ka : Int)) (hkb : L b = (kb : Int)) (h1 : k ≠ ka) (h2 : k ≠ kb) : GP B (swL L a b) k = GP B L k := by
  funext c
  unfold GP
  have e1 : decide ((ka : Int) = (k : Int)) = false := decide_eq_false (by omega)
  have e2 : decide ((kb : Int) = (k : Int)) = false := decide_eq_false (by omega)
  by_cases h3 : c = a
  · rw [h3, swL_a, hka, hkb, e1, e2]
  · by_cases h4 : c = b
    · rw [h4, swL_b hab, hka, hkb, e1, e2]
    · rw [swL_o h3 h4]
theorem c_back {L : Nat → Int} {a b ka kb : Nat} {s : Int} (hs : s = 0 ∨ s = 1) (h14 : nK B ≤ 14) (ha : a < nK B) (hb : b < nK B) (hab : a ≠ b) (hka : L a = (ka : Int)) (hkb : L b = (kb : Int)) (hk : ka ≠ kb) (hk3 : ka < 3) (hk4 : kb < 3) (hg : ∀ k, k < 3 → gIs B (M 2 k) (GP B L k)) : Okk (f_X10_bettersBoth_j157 ka kb (bor (bshl 1 (a : Int)) (bshl 1 (b : Int))) s M) (fun q => q.1 = s ∧ (∀ c i, c ≠ 2 → q.2 c i = M c i) ∧ ∀ k, k < 3 → gIs B (q.2 2 k) (GP B (swL L a b) k)) := by
  obtain ⟨M2, e2, f2, v2⟩ := mup_gen M 2 ka (bxor (M 2 ka) (bor (bshl 1 (a : Int)) (bshl 1 (b : Int))))
  obtain ⟨M3, e3, f3, v3⟩ := mup_gen M2 2 kb (bxor (M2 2 kb) (bor (bshl 1 (a : Int)) (bshl 1 (b : Int))))
  unfold f_X10_bettersBoth_j157
  rw [toN, toN]
  refine ok_gd (by omega) (ok_gd (by omega) (ok_lt ?_))
  rw [e2]
  refine ok_gd (by omega) (ok_gd (by omega) (ok_lt ?_))
  rw [e3]
  refine ok_gd (by unfold isZ; omega) (ok_some ⟨rfl, fun c i q => by
    try dsimp only
    rw [f3 c i (by omega), f2 c i (by omega)], fun k hk' => ?_⟩)
  try dsimp only
  by_cases h1 : k = ka
  · rw [h1, f3 2 ka (by omega), v2]
    exact grp_swap h14 ha hb hab (Or.inl ⟨hka, by omega⟩) (hg ka hk3)
  · by_cases h2 : k = kb
    · rw [h2, v3, f2 2 kb (by omega)]
      exact grp_swap h14 ha hb hab (Or.inr ⟨hkb, by omega⟩) (hg kb hk4)
    · rw [f3 2 k (by omega), f2 2 k (by omega)]
      have e : GP B (swL L a b) k = GP B L k := GP_congr2 ha hb hab hka hkb h1 h2
      rw [e]; exact hg k hk'
theorem c_back2 {L : Nat → Int} {a b ka kb : Nat} {s : Int} (hs : s = 0 ∨ s = 1) (h14 : nK B ≤ 14) (ha : a < nK B) (hb : b < nK B) (hab : a ≠ b) (hka : L a = (kb : Int)) (hkb : L b = (ka : Int)) (hk : ka ≠ kb) (hk3 : ka < 3) (hk4 : kb < 3) (hg : ∀ k, k < 3 → gIs B (M 2 k) (GP B L k)) : Okk (f_X10_bettersBoth_j157 ka kb (bor (bshl 1 (a : Int)) (bshl 1 (b : Int))) s M) (fun q => q.1 = s ∧ (∀ c i, c ≠ 2 → q.2 c i = M c i) ∧ ∀ k, k < 3 → gIs B (q.2 2 k) (GP B (swL L a b) k)) := by
  obtain ⟨M2, e2, f2, v2⟩ := mup_gen M 2 ka (bxor (M 2 ka) (bor (bshl 1 (a : Int)) (bshl 1 (b : Int))))
  obtain ⟨M3, e3, f3, v3⟩ := mup_gen M2 2 kb (bxor (M2 2 kb) (bor (bshl 1 (a : Int)) (bshl 1 (b : Int))))
  unfold f_X10_bettersBoth_j157
  rw [toN, toN]
  refine ok_gd (by omega) (ok_gd (by omega) (ok_lt ?_))
  rw [e2]
  refine ok_gd (by omega) (ok_gd (by omega) (ok_lt ?_))
  rw [e3]
  refine ok_gd (by unfold isZ; omega) (ok_some ⟨rfl, fun c i q => by
    try dsimp only
    rw [f3 c i (by omega), f2 c i (by omega)], fun k hk' => ?_⟩)
  try dsimp only
  by_cases h1 : k = ka
  · rw [h1, f3 2 ka (by omega), v2]
    exact grp_swap h14 ha hb hab (Or.inr ⟨hkb, by omega⟩) (hg ka hk3)
  · by_cases h2 : k = kb
    · rw [h2, v3, f2 2 kb (by omega)]
      exact grp_swap h14 ha hb hab (Or.inl ⟨hka, by omega⟩) (hg kb hk4)
    · rw [f3 2 k (by omega), f2 2 k (by omega)]
      have e : GP B (swL L a b) k = GP B L k := GP_congr2 ha hb hab hka hkb h2 h1
      rw [e]; exact hg k hk'
end GAIN
