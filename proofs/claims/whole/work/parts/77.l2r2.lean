/-! swaps: two children change places -/
def swL (L : Nat → Int) (a b : Nat) : Nat → Int := fun c => if c = a then L b else if c = b then L a else L c
theorem swL_a {L : Nat → Int} {a b : Nat} : swL L a b a = L b := if_pos rfl
theorem swL_b {L : Nat → Int} {a b : Nat} (h : a ≠ b) : swL L a b b = L a := by unfold swL; rw [if_neg (fun e => h e.symm), if_pos rfl]
theorem swL_o {L : Nat → Int} {a b c : Nat} (h1 : c ≠ a) (h2 : c ≠ b) : swL L a b c = L c := by unfold swL; rw [if_neg h1, if_neg h2]
theorem swL_sw {L : Nat → Int} {a b : Nat} (h : a ≠ b) : swL (swL L a b) a b = L := by
  funext c
  by_cases h1 : c = a
  · rw [h1, swL_a, swL_b h]
  · by_cases h2 : c = b
    · rw [h2, swL_b h, swL_a]
    · rw [swL_o h1 h2, swL_o h1 h2]
theorem two_mask {a b : Nat} (ha : a < 14) (hb : b < 14) : mIs (bor (bshl 1 (a : Int)) (bshl 1 (b : Int))) (fun c => decide (c = a) || decide (c = b)) := mIs_or (mIs_1 ha) (mIs_1 hb)
theorem grp_swap {B : Mem} {L : Nat → Int} {a b k : Nat} {v : Int} (h14 : nK B ≤ 14) (ha : a < nK B) (hb : b < nK B) (hab : a ≠ b) (hk : (L a = (k : Int) ∧ L b ≠ (k : Int)) ∨ (L b = (k : Int) ∧ L a ≠ (k : Int))) (h : gIs B v (GP B L k)) : gIs B (bxor v (bor (bshl 1 (a : Int)) (bshl 1 (b : Int)))) (GP B (swL L a b) k) := by
  refine ⟨(mIs_xor h.1 (two_mask (by omega) (by omega))).congr (fun c hc => ?_), fun c h1 h2 => ?_⟩
  · unfold GP
    by_cases h1 : c = a
    · subst h1
      rw [swL_a]
      rcases hk with ⟨x, y⟩ | ⟨x, y⟩ <;> simp [x, y, ha, hab]
    · by_cases h2 : c = b
      · subst h2
        rw [swL_b hab]
        rcases hk with ⟨x, y⟩ | ⟨x, y⟩ <;> simp [x, y, hb, h1]
      · rw [swL_o h1 h2]
        simp [h1, h2]
  · unfold GP
    rw [decide_eq_false (by omega), Bool.false_and]
theorem m_swp {M : Mem} {L : Nat → Int} {n a b : Nat} (hn : n ≤ 14) (ha : a < n) (hb : b < n) (hab : a ≠ b) (hp : ∀ c, c < n → M 108 c = L c) : Okk (f_X11_swaps a b M) (fun M' => (∀ c i, ¬ (c = 108 ∧ i < n) → M' c i = M c i) ∧ ∀ c, c < n → M' 108 c = swL L a b c) := by
  unfold f_X11_swaps
  rw [toN, toN, hp a ha, hp b hb]
  obtain ⟨M2, e2, f2, v2⟩ := mup_gen M 108 a (L b)
  obtain ⟨M3, e3, f3, v3⟩ := mup_gen M2 108 b (L a)
  refine ok_gd (by omega) (ok_lt (ok_gd (by omega) (ok_gd (by omega) (ok_lt ?_))))
  rw [e2]
  refine ok_gd (by omega) (ok_lt ?_)
  rw [e3]
  refine ok_some ⟨fun c i q => by rw [f3 c i (by omega), f2 c i (by omega)], fun c hc => ?_⟩
  by_cases h1 : c = a
  · rw [h1, swL_a, f3 108 a (by omega)]; exact v2
  · by_cases h2 : c = b
    · rw [h2, swL_b hab]; exact v3
    · rw [swL_o h1 h2, f3 108 c (by omega), f2 108 c (by omega)]; exact hp c hc
