/-! swap: the model's rows -/
def vd (p : Int) (t : Nat) (v : Int) : Prop := (v = p - (t : Int) ∧ -2147483648 ≤ p - (t : Int)) ∨ (v = p - (t : Int) + 4294967296 ∧ p - (t : Int) < -2147483648)
theorem vd_step {p v : Int} {t : Nat} (hp : -2147483648 ≤ p ∧ p < 2147483648) (ht : t ≤ 300) (h : vd p t v) : vd p (t + 1) (wrap (v + (-1))) := by
  by_cases z : v = -2147483648
  · subst z
    have e : wrap (-2147483648 + (-1)) = 2147483647 := by decide +kernel
    rw [e]
    unfold vd at h ⊢
    omega
  · have b : -2147483648 ≤ v + (-1) ∧ v + (-1) < 2147483648 := by unfold vd at h; omega
    rw [wrap_of b.1 b.2]
    unfold vd at h ⊢
    omega
theorem vd_zero {p v : Int} {t : Nat} (hp : -2147483648 ≤ p ∧ p < 2147483648) (ht : t ≤ 300) (h : vd p t v) : v = 0 ↔ (t : Int) = p := by
  unfold vd at h
  omega
section LOOPS
variable {Good : Mem → Prop} {g : Nat → Nat → Bool} {n : Nat} {p : Int}
def foundM (n : Nat) (g : Nat → Nat → Bool) (p w : Int) (r : Int) : Prop := ∃ x : Nat, r = (if w = 0 then ((x / 14 : Nat) : Int) else ((x % 14 : Nat) : Int)) ∧ qg n g x = true ∧ (fb_ct (qg n g) x : Int) = p
theorem m_srow {a : Nat} {M : Mem} {w v0 : Int} (hpr : -2147483648 ≤ p ∧ p < 2147483648) (hn : n ≤ 14) (ha : a < n) (h1 : ∀ N, Good N → N 80 1 = (n : Int)) (hg : ∀ N, Good N → ∀ a b : Nat, a < b → b < n → Okk (f_X11_isGain a b N) (fun q => isB q.1 (g a b = true) ∧ Good q.2)) (hM : Good M) (hv0 : vd p (fb_ct (qg n g) (14 * a + (a + 1))) v0) (hs : soFar n g p (14 * a + (a + 1))) : Okk (f_X11_swap_l40 w a v0 ((a + 1 : Nat) : Int) M) (inS (fun s => vd p (fb_ct (qg n g) (14 * a + n)) s.1 ∧ Good s.2.2 ∧ soFar n g p (14 * a + n)) (fun r => foundM n g p w r.1 ∧ Good r.2)) := by
  unfold f_X11_swap_l40
  refine ok_whl (n - (a + 1)) (fun k (q : Int × Int × Mem) => vd p (fb_ct (qg n g) (14 * a + (a + 1 + k))) q.1 ∧ q.2.1 = ((a + 1 + k : Nat) : Int) ∧ Good q.2.2 ∧ soFar n g p (14 * a + (a + 1 + k))) (FU_big (by omega)) ⟨hv0, rfl, hM, hs⟩ ?_
  rintro k ⟨u, v, N⟩ hk ⟨hu, hv, hN, hS⟩
  dsimp only at hu hv hN hS ⊢
  unfold f_X11_swap_s40
  rw [h1 N hN]
  refine ok_ite (fun z => ok_some ?_) (fun z => ?_)
  · have e : a + 1 + k = n := by omega
    rw [e] at hu hS
    exact ⟨hu, hN, hS⟩
  subst hv
  have hb : a + 1 + k < n := by omega
  have eq1 := qg_at (g := g) (a := a) (b := a + 1 + k) (by omega) hb hn
  have es := fb_ct_succ (qg n g) (14 * a + (a + 1 + k))
  have le := ct_le (qg n g) (14 * a + (a + 1 + k))
  have nx : 14 * a + (a + 1 + k) + 1 = 14 * a + (a + 1 + (k + 1)) := by omega
  have vz := vd_zero hpr (by omega) hu
  refine ok_bnd (hg N hN a (a + 1 + k) (by omega) hb) (fun r N2 hr => ?_)
  obtain ⟨hr, hG⟩ := hr
  dsimp only at hr hG ⊢
  refine ok_ite (fun r0 => ?_) (fun r0 => ?_)
  · have gf : g a (a + 1 + k) = false := by
      rcases hr with w | w
      · omega
      · exact Bool.eq_false_iff.mpr w.2
    rw [wrap_n1 (by omega)]
    refine ok_lt (ok_some ⟨by omega, ?_, by show ((a + 1 + k + 1 : Nat) : Int) = _; omega, hG, ?_⟩)
    · try dsimp only
      rw [← nx, es, eq1, gf]; exact hu
    · try dsimp only
      rw [← nx]
      exact soFar_gap hS (fun y y1 y2 => by rw [show y = 14 * a + (a + 1 + k) by omega, eq1, gf])
  · have gt : g a (a + 1 + k) = true := by
      rcases hr with w | w
      · exact w.2
      · omega
    refine ok_ite (fun hp => ?_) (fun hp => ?_)
    · have ep := vz.mp hp
      refine ok_ite (fun w0 => ok_some ⟨⟨14 * a + (a + 1 + k), ?_, by rw [eq1, gt], ep⟩, hG⟩) (fun w0 => ok_some ⟨⟨14 * a + (a + 1 + k), ?_, by rw [eq1, gt], ep⟩, hG⟩)
      · try dsimp only
        rw [if_pos w0]; omega
      · try dsimp only
        rw [if_neg w0]; omega
    · rw [wrap_n1 (by omega)]
      refine ok_lt (ok_lt (ok_some ⟨by omega, ?_, by show ((a + 1 + k + 1 : Nat) : Int) = _; omega, hG, ?_⟩))
      · try dsimp only
        rw [← nx, es, eq1, gt]; exact vd_step hpr (by omega) hu
      · try dsimp only
        rw [← nx]
        intro y y1 y2
        by_cases e : y = 14 * a + (a + 1 + k)
        · rw [e]; exact fun q => hp (vz.mpr q)
        · exact hS y (by omega) y2
theorem m_srows {M : Mem} {w : Int} (hpr : -2147483648 ≤ p ∧ p < 2147483648) (hn : n ≤ 14) (h1 : ∀ N, Good N → N 80 1 = (n : Int)) (hg : ∀ N, Good N → ∀ a b : Nat, a < b → b < n → Okk (f_X11_isGain a b N) (fun q => isB q.1 (g a b = true) ∧ Good q.2)) (hM : Good M) : Okk (f_X11_swap_l25 w p 0 M) (inS (fun s => Good s.2.2 ∧ soFar n g p 196) (fun r => foundM n g p w r.1 ∧ Good r.2)) := by
  have z0 : fb_ct (qg n g) (14 * 0 + (0 + 1)) = 0 := ct_gap (q := qg n g) (x := 0) 1 (fun y _ _ => qg_no (by omega))
  unfold f_X11_swap_l25
  refine ok_whl n (fun k (q : Int × Int × Mem) => vd p (fb_ct (qg n g) (14 * k + (k + 1))) q.1 ∧ q.2.1 = (k : Int) ∧ Good q.2.2 ∧ soFar n g p (14 * k + (k + 1))) (FU_big (by omega)) ⟨by rw [z0]; exact Or.inl ⟨by show p = p - ((0 : Nat) : Int); omega, by omega⟩, rfl, hM, fun y y1 y2 => by rw [qg_no (by omega)] at y2; exact absurd y2 (by decide)⟩ ?_
  rintro k ⟨u, v, N⟩ hk ⟨hu, hv, hN, hS⟩
  dsimp only at hu hv hN hS ⊢
  subst hv
  unfold f_X11_swap_s25
  rw [h1 N hN]
  refine ok_ite (fun z => ok_some ?_) (fun z => ?_)
  · have e : k = n := by omega
    subst e
    by_cases w : k = 14
    · subst w
      exact ⟨hN, fun y y1 y2 => hS y (by omega) y2⟩
    · have gp : ∀ y, 14 * k + (k + 1) ≤ y → y < 14 * k + (k + 1) + (196 - (14 * k + (k + 1))) → qg k g y = false := fun y y1 y2 => qg_no (by omega)
      have e2 := soFar_gap hS gp
      rw [show 14 * k + (k + 1) + (196 - (14 * k + (k + 1))) = 196 by omega] at e2
      exact ⟨hN, e2⟩
  have hkn : k < n := by omega
  rw [wrap_n1 (by omega)]
  refine ok_lt (ok_lpr (m_srow hpr hn hkn h1 hg hN hu hS) (fun s hs => ?_) (fun t ht => ok_some ht))
  obtain ⟨s1, s2, s3⟩ := hs
  unfold f_X11_swap_j88k25
  rw [wrap_n1 (by omega)]
  have gp : ∀ y, 14 * k + n ≤ y → y < 14 * k + n + (14 * (k + 1) + (k + 2) - (14 * k + n)) → qg n g y = false := fun y y1 y2 => qg_no (by omega)
  have e2 := soFar_gap s3 gp
  rw [show 14 * k + n + (14 * (k + 1) + (k + 2) - (14 * k + n)) = 14 * (k + 1) + (k + 1 + 1) by omega] at e2
  exact ok_lt (ok_some ⟨hkn, by show vd p (fb_ct (qg n g) (14 * (k + 1) + (k + 2))) s.1; rw [row_end hkn hn]; exact s1, rfl, s2, e2⟩)
end LOOPS
