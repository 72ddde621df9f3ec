/-! loops that ask of each, and stop at the first that says no -/
theorem ok_all {step : Int → Option (Int ⊕ (Int ⊕ Int))} {n : Nat} (hn : n < 100000) (p : Nat → Prop)
    (hs : ∀ k : Nat, k < n → Okk (step (k : Int)) (fun o => (p k ∧ o = .inl ((k : Int) + 1)) ∨ (¬ p k ∧ o = .inr (.inr 0))))
    (he : Okk (step (n : Int)) (fun o => ∃ v, o = .inr (.inl v))) : Okk (whl step FU 0) (inS (fun _ => ∀ k, k < n → p k) (fun r => r = 0 ∧ ¬ ∀ k, k < n → p k)) := by
  refine ok_whl n (fun k s => s = (k : Int) ∧ ∀ j, j < k → p j) (FU_big (by omega)) ⟨rfl, fun j h => absurd h (by omega)⟩ ?_
  rintro k v hk ⟨rfl, hB⟩
  by_cases hkn : k < n
  · refine ok_mono (hs k hkn) (fun o ho => ?_)
    rcases ho with ⟨hp, rfl⟩ | ⟨hp, rfl⟩
    · refine ⟨hkn, by show (k : Int) + 1 = _; omega, fun j hj => ?_⟩
      by_cases e : j = k
      · subst e; exact hp
      · exact hB j (by omega)
    · exact ⟨rfl, fun z => hp (z k hkn)⟩
  · have e : k = n := by omega
    subst e
    refine ok_mono he (fun o ho => ?_)
    obtain ⟨v, rfl⟩ := ho
    exact hB
theorem m_isMet13 {M : Mem} (h1 : A1 M) (h2 : A2 M) {known : Int} (hH : HeldRow M known) {s : Nat} (hs : s < nS M) (hs2 : s < 16) : Okk (f_X11_isMet_l13 s M 0) (inS (fun _ => ∀ k : Nat, k < nC M → holdN M known (2 * s) (planOf M) k ≤ M 98 s) (fun r => r = 0 ∧ ¬ ∀ k : Nat, k < nC M → holdN M known (2 * s) (planOf M) k ≤ M 98 s)) := by
  have hc : (nC M : Int) = M 80 12 := by unfold nC; have := h2.2; omega
  have hb : M 80 12 ≤ 3 := by have := h2.2; omega
  unfold f_X11_isMet_l13
  refine ok_all (by omega) (fun k => holdN M known (2 * s) (planOf M) k ≤ M 98 s) (fun k hk => ?_) ?_
  · unfold f_X11_isMet_s13
    have e : wrap (2 * (s : Int)) = ((2 * s : Nat) : Int) := by rw [wrap_of (by omega) (by omega)]; omega
    rw [e, toN]
    clear e
    refine ok_ite_f (by omega) ?_
    refine ok_obn (m_holdIn h1 hH (by omega) (by omega) k) (fun r hr => ?_)
    subst hr
    refine ok_gd (by omega) ?_
    refine ok_ite (fun h => ?_) (fun h => ?_)
    · exact ok_ltw (by omega) (ok_some (Or.inl ⟨h, rfl⟩))
    · exact ok_some (Or.inr ⟨h, rfl⟩)
  · unfold f_X11_isMet_s13
    exact ok_ite_t (by omega) (ok_some ⟨_, rfl⟩)
