/-! swaps, swap: the model's loops -/
section LOOPS
variable {Good : Mem → Prop} {g : Nat → Nat → Bool} {n : Nat} {p : Int}
theorem m_row {a : Nat} {M : Mem} (hn : n ≤ 14) (ha : a < n) (h1 : ∀ N, Good N → N 80 1 = (n : Int)) (hg : ∀ N, Good N → ∀ a b : Nat, a < b → b < n → Okk (f_X11_isGain a b N) (fun q => isB q.1 (g a b = true) ∧ Good q.2)) (hM : Good M) : Okk (f_X11_swaps__l25 a ((fb_ct (qg n g) (14 * a + (a + 1)) : Nat) : Int) ((a + 1 : Nat) : Int) M) (fun s => s.1 = ((fb_ct (qg n g) (14 * a + n) : Nat) : Int) ∧ Good s.2.2) := by
  unfold f_X11_swaps__l25
  refine ok_whl (n - (a + 1)) (fun k (q : Int × Int × Mem) => q.1 = ((fb_ct (qg n g) (14 * a + (a + 1 + k)) : Nat) : Int) ∧ q.2.1 = ((a + 1 + k : Nat) : Int) ∧ Good q.2.2) (FU_big (by omega)) ⟨rfl, rfl, hM⟩ ?_
  rintro k ⟨u, v, N⟩ hk ⟨hu, hv, hN⟩
  dsimp only at hu hv hN ⊢
  unfold f_X11_swaps__s25
  rw [h1 N hN]
  refine ok_ite (fun z => ok_some ?_) (fun z => ?_)
  · have e : a + 1 + k = n := by omega
    rw [e] at hu
    exact ⟨hu, hN⟩
  subst hv
  have hb : a + 1 + k < n := by omega
  have eq1 := qg_at (g := g) (a := a) (b := a + 1 + k) (by omega) hb hn
  have es := fb_ct_succ (qg n g) (14 * a + (a + 1 + k))
  have le := ct_le (qg n g) (14 * a + (a + 1 + k))
  have nx : 14 * a + (a + 1 + k) + 1 = 14 * a + (a + 1 + (k + 1)) := by omega
  refine ok_bnd (hg N hN a (a + 1 + k) (by omega) hb) (fun r N2 hr => ?_)
  obtain ⟨hr, hG⟩ := hr
  dsimp only at hr hG ⊢
  refine ok_ite (fun r0 => ?_) (fun r0 => ?_)
  · have gf : g a (a + 1 + k) = false := by
      rcases hr with w | w
      · omega
      · exact Bool.eq_false_iff.mpr w.2
    rw [hu, Int.add_zero, wrap_of (by omega) (by omega), wrap_n1 (by omega)]
    refine ok_lt (ok_lt (ok_some ⟨by omega, ?_, by show ((a + 1 + k + 1 : Nat) : Int) = _; omega, hG⟩))
    try dsimp only
    rw [← nx, es, eq1, gf]; rfl
  · have gt : g a (a + 1 + k) = true := by
      rcases hr with w | w
      · exact w.2
      · omega
    rw [hu, wrap_n1 (by omega), wrap_n1 (by omega)]
    refine ok_lt (ok_lt (ok_some ⟨by omega, ?_, by show ((a + 1 + k + 1 : Nat) : Int) = _; omega, hG⟩))
    try dsimp only
    rw [← nx, es, eq1, gt]; rfl
theorem m_rows {M : Mem} (hn : n ≤ 14) (h1 : ∀ N, Good N → N 80 1 = (n : Int)) (hg : ∀ N, Good N → ∀ a b : Nat, a < b → b < n → Okk (f_X11_isGain a b N) (fun q => isB q.1 (g a b = true) ∧ Good q.2)) (hM : Good M) : Okk (f_X11_swaps__l13 0 0 M) (fun s => s.1 = ((fb_ct (qg n g) 196 : Nat) : Int) ∧ Good s.2.2) := by
  have z0 : fb_ct (qg n g) (14 * 0 + (0 + 1)) = 0 := ct_gap (q := qg n g) (x := 0) 1 (fun y _ _ => qg_no (by omega))
  unfold f_X11_swaps__l13
  refine ok_whl n (fun k (q : Int × Int × Mem) => q.1 = ((fb_ct (qg n g) (14 * k + (k + 1)) : Nat) : Int) ∧ q.2.1 = (k : Int) ∧ Good q.2.2) (FU_big (by omega)) ⟨by show (0 : Int) = _; rw [z0]; rfl, rfl, hM⟩ ?_
  rintro k ⟨u, v, N⟩ hk ⟨hu, hv, hN⟩
  dsimp only at hu hv hN ⊢
  subst hv
  unfold f_X11_swaps__s13
  rw [h1 N hN]
  refine ok_ite (fun z => ok_some ?_) (fun z => ?_)
  · have e : k = n := by omega
    subst e
    by_cases w : k = 14
    · subst w
      have : fb_ct (qg 14 g) (196 + 15) = fb_ct (qg 14 g) 196 := ct_gap 15 (fun y y1 y2 => qg_no (by omega))
      exact ⟨by rw [hu]; show ((fb_ct (qg 14 g) (196 + 15) : Nat) : Int) = _; rw [this], hN⟩
    · have gp : ∀ y, 14 * k + (k + 1) ≤ y → y < 14 * k + (k + 1) + (196 - (14 * k + (k + 1))) → qg k g y = false := fun y y1 y2 => qg_no (by omega)
      have e1 := ct_gap (q := qg k g) (196 - (14 * k + (k + 1))) gp
      rw [show 14 * k + (k + 1) + (196 - (14 * k + (k + 1))) = 196 by omega] at e1
      exact ⟨by rw [hu, e1], hN⟩
  have hkn : k < n := by omega
  rw [wrap_n1 (by omega), hu]
  refine ok_lt (ok_obn (m_row hn hkn h1 hg hN) (fun s hs => ?_))
  obtain ⟨s1, s2⟩ := hs
  unfold f_X11_swaps__j56k13
  rw [wrap_n1 (by omega)]
  exact ok_lt (ok_some ⟨hkn, by show s.1 = _; rw [s1, ← row_end hkn hn], rfl, s2⟩)
end LOOPS
