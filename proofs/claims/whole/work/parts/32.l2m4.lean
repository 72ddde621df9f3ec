theorem m_isMet48 {M : Mem} (h1 : A1 M) {known : Int} (hH : HeldRow M known) {s : Nat} (hs : s < nS M) (hs2 : s < 16) (h5 : M 97 s = 5) :
    Okk (f_X11_isMet_l48 s M 0) (inS (fun _ => ∀ a : Nat, a < nK M → planOf M a ≠ -1 → holdB M known (2 * s) a = true → ∀ b : Nat, b < nK M → b ≠ a → planOf M b = planOf M a → holdB M known (2 * s + 1) b = false) (fun r => r = 0 ∧ ¬ ∀ a : Nat, a < nK M → planOf M a ≠ -1 → holdB M known (2 * s) a = true → ∀ b : Nat, b < nK M → b ≠ a → planOf M b = planOf M a → holdB M known (2 * s + 1) b = false)) := by
  have hn : (nK M : Int) = M 80 1 := by unfold nK; have := h1.1; omega
  have hb := h1.2.1
  unfold f_X11_isMet_l48
  refine ok_all (by omega) (fun a => planOf M a ≠ -1 → holdB M known (2 * s) a = true → ∀ b : Nat, b < nK M → b ≠ a → planOf M b = planOf M a → holdB M known (2 * s + 1) b = false) (fun a ha => ?_) ?_
  · unfold f_X11_isMet_s48
    have e : wrap (wrap (28 * (s : Int)) + a) = ((14 * (2 * s) + a : Nat) : Int) := by
      rw [wrap_of (x := 28 * (s : Int)) (by omega) (by omega), wrap_of (by omega) (by omega)]; omega
    have q := hH (2 * s) a (by omega) ha
    rw [e, toN, toN, toN, q]
    clear e q
    refine ok_ite_f (by omega) ?_
    refine ok_gd (by omega) ?_
    refine ok_ite_t h5 ?_
    refine ok_gd (by omega) ?_
    refine ok_ite (fun h => ?_) (fun h => ?_)
    · exact ok_ltw (by omega) (ok_some (Or.inl ⟨fun z => absurd h z, rfl⟩))
    refine ok_gd (by omega) ?_
    by_cases hB : holdB M known (2 * s) a = true
    · rw [if_pos hB]
      refine ok_ite_f (by decide) ?_
      refine ok_lpr (P := fun _ => ∀ b : Nat, b < nK M → b ≠ a → planOf M b = planOf M a → holdB M known (2 * s + 1) b = false) (P2 := fun r => r = 0 ∧ ¬ ∀ b : Nat, b < nK M → b ≠ a → planOf M b = planOf M a → holdB M known (2 * s + 1) b = false) ?_ (fun v hv => ?_) (fun r hr => ?_)
      · unfold f_X11_isMet_l95
        refine ok_all (by omega) (fun b => b ≠ a → planOf M b = planOf M a → holdB M known (2 * s + 1) b = false) (fun b hb2 => ?_) ?_
        · unfold f_X11_isMet_s95
          have e : wrap (wrap (14 * (wrap (wrap (2 * (s : Int)) + 1))) + b) = ((14 * (2 * s + 1) + b : Nat) : Int) := by
            rw [wrap_of (x := 2 * (s : Int)) (by omega) (by omega), wrap_of (x := 2 * (s : Int) + 1) (by omega) (by omega), wrap_of (x := 14 * (2 * (s : Int) + 1)) (by omega) (by omega), wrap_of (by omega) (by omega)]; omega
          have q := hH (2 * s + 1) b (by omega) hb2
          rw [e, toN, toN, toN, q]
          clear e q
          refine ok_ite_f (by omega) ?_
          refine ok_ite (fun h => ?_) (fun h => ?_)
          · exact ok_ltw (by omega) (ok_some (Or.inl ⟨fun z => absurd h (by omega), rfl⟩))
          refine ok_gd (by omega) (ok_gd (by omega) ?_)
          refine ok_ite (fun h3 => ?_) (fun h3 => ?_)
          · refine ok_gd (by omega) ?_
            by_cases hB2 : holdB M known (2 * s + 1) b = true
            · rw [if_pos hB2]
              refine ok_ite_f (by decide) (ok_some (Or.inr ⟨fun z => ?_, rfl⟩))
              have := z (by omega) h3
              rw [hB2] at this; cases this
            · rw [if_neg hB2]
              refine ok_ite_t rfl (ok_ltw (by omega) (ok_some (Or.inl ⟨fun _ _ => by simpa using hB2, rfl⟩)))
          · exact ok_ltw (by omega) (ok_some (Or.inl ⟨fun _ z => absurd z h3, rfl⟩))
        · unfold f_X11_isMet_s95
          exact ok_ite_t (by omega) (ok_some ⟨_, rfl⟩)
      · unfold f_X11_isMet_j149k48
        exact ok_ltw (by omega) (ok_some (Or.inl ⟨fun _ _ => hv, rfl⟩))
      · obtain ⟨rfl, hr⟩ := hr
        exact ok_some (Or.inr ⟨fun z => hr (z h hB), rfl⟩)
    · rw [if_neg hB]
      exact ok_ite_t rfl (ok_ltw (by omega) (ok_some (Or.inl ⟨fun _ z => absurd z hB, rfl⟩)))
  · unfold f_X11_isMet_s48
    exact ok_ite_t (by omega) (ok_some ⟨_, rfl⟩)
theorem m_isMet {M : Mem} (h1 : A1 M) (h2 : A2 M) {known : Int} (hH : HeldRow M known) {s : Nat} (hs : s < nS M) (hs2 : s < 16) : Okk (f_X11_isMet s M) (fun r => (r = 1 ∧ metS M known (planOf M) s) ∨ (r = 0 ∧ ¬ metS M known (planOf M) s)) := by
  have hn : (nK M : Int) = M 80 1 := by unfold nK; have := h1.1; omega
  unfold f_X11_isMet
  rw [toN]
  refine ok_gd (by omega) ?_
  refine ok_ite (fun h6 => ?_) (fun h6 => ?_)
  · refine ok_lpr (m_isMet13 h1 h2 hH hs hs2) (fun v hv => ?_) (fun r hr => ?_)
    · unfold f_X11_isMet_j46
      refine ok_lpr (P := fun _ => True) (P2 := fun _ => False) ?_ (fun v _ => ?_) (fun r hr => hr.elim)
      · unfold f_X11_isMet_l48
        refine ok_whl 0 (fun k s => s = (0 : Int)) (FU_big (by omega)) rfl ?_
        rintro k v hk rfl
        unfold f_X11_isMet_s48
        rw [toN]
        refine ok_ite (fun _ => ok_some trivial) (fun _ => ok_gd (by omega) (ok_ite_f (by omega) (ok_some trivial)))
      · unfold f_X11_isMet_j155
        refine ok_some (Or.inl ⟨rfl, fun _ => hv, fun z => absurd z (by omega)⟩)
    · obtain ⟨rfl, hr⟩ := hr
      exact ok_some (Or.inr ⟨rfl, fun z => hr (z.1 h6)⟩)
  · by_cases h5 : M 97 s = 5
    · refine ok_lpr (m_isMet48 h1 hH hs hs2 h5) (fun v hv => ?_) (fun r hr => ?_)
      · unfold f_X11_isMet_j155
        exact ok_some (Or.inl ⟨rfl, fun z => absurd z h6, fun _ => hv⟩)
      · obtain ⟨rfl, hr⟩ := hr
        exact ok_some (Or.inr ⟨rfl, fun z => hr (z.2 h5)⟩)
    · refine ok_lpr (P := fun _ => True) (P2 := fun _ => False) ?_ (fun v _ => ?_) (fun r hr => hr.elim)
      · unfold f_X11_isMet_l48
        refine ok_whl 0 (fun k s => s = (0 : Int)) (FU_big (by omega)) rfl ?_
        rintro k v hk rfl
        unfold f_X11_isMet_s48
        rw [toN]
        refine ok_ite (fun _ => ok_some trivial) (fun _ => ok_gd (by omega) (ok_ite_f h5 (ok_some trivial)))
      · unfold f_X11_isMet_j155
        exact ok_some (Or.inl ⟨rfl, fun z => absurd z h6, fun z => absurd z h5⟩)
