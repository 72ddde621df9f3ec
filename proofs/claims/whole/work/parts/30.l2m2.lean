/-! the model: a plan in its row 108, what holds in its row 107 -/
/-- what the model has learnt of a DAY: the row of what holds -/
def HeldRow (M : Mem) (known : Int) : Prop := ∀ row c : Nat, row < 2 * nS M → c < nK M → M 107 (14 * row + c) = if holdB M known row c = true then 1 else 0
def planOf (M : Mem) : Nat → Int := fun c => M 108 c
theorem m_inClass {M : Mem} (h1 : A1 M) (k : Int) : Okk (f_X11_inClass k M) (fun r => r = inCl M (planOf M) k) := by
  have hn : (nK M : Int) = M 80 1 := by unfold nK; have := h1.1; omega
  have hb := h1.2.1
  unfold f_X11_inClass
  refine ok_obn (P := fun s => s.1 = inCl M (planOf M) k) ?_ (fun s hs => ok_some hs)
  unfold f_X11_inClass_l4
  refine ok_count (n := nK M) (by omega) (fun c => planOf M c = k) (fun c hk v h0 h1 => ?_) (fun v hv => ?_)
  · unfold f_X11_inClass_s4
    rw [toN]
    refine ok_ite_f (by omega) ?_
    refine ok_gd (by omega) ?_
    refine ok_ite (fun h => ?_) (fun h => ?_)
    · refine ok_ltw (by omega) (ok_ltw (by omega) (ok_some ?_))
      rw [if_pos (show planOf M c = k from h)]
    · refine ok_ltw (by omega) (ok_ltw (by omega) (ok_some ?_))
      rw [if_neg (show ¬ planOf M c = k from h)]
  · unfold f_X11_inClass_s4
    exact ok_ite_t (by omega) (ok_some ⟨_, rfl, hv⟩)
theorem m_holdIn {M : Mem} (h1 : A1 M) {known : Int} (hH : HeldRow M known) {row : Nat} (hr : row < 2 * nS M) (hr2 : row < 32) (k : Int) : Okk (f_X11_holdIn row k M) (fun r => r = holdN M known row (planOf M) k) := by
  have hn : (nK M : Int) = M 80 1 := by unfold nK; have := h1.1; omega
  have hb := h1.2.1
  unfold f_X11_holdIn
  refine ok_obn (P := fun s => s.1 = holdN M known row (planOf M) k) ?_ (fun s hs => ok_some hs)
  unfold f_X11_holdIn_l5
  refine ok_count (n := nK M) (by omega) (fun c => planOf M c = k ∧ holdB M known row c = true) (fun c hk v h0 h1 => ?_) (fun v hv => ?_)
  · unfold f_X11_holdIn_s5
    have e : wrap (wrap (14 * (row : Int)) + c) = ((14 * row + c : Nat) : Int) := by
      rw [wrap_of (x := 14 * (row : Int)) (by omega) (by omega), wrap_of (by omega) (by omega)]; omega
    have q := hH row c hr hk
    rw [e, toN, toN, q]
    clear e q
    refine ok_ite_f (by omega) ?_
    refine ok_gd (by omega) ?_
    refine ok_ite (fun h => ?_) (fun h => ?_)
    · refine ok_gd (by omega) ?_
      by_cases hB : holdB M known row c = true
      · rw [if_pos hB]
        refine ok_ite_f (by decide) ?_
        refine ok_ltw (by omega) (ok_ltw (by omega) (ok_some ?_))
        rw [if_pos (show planOf M c = k ∧ _ from ⟨h, hB⟩)]
      · rw [if_neg hB]
        refine ok_ite_t rfl ?_
        refine ok_ltw (by omega) (ok_ltw (by omega) (ok_some ?_))
        rw [if_neg (show ¬ (planOf M c = k ∧ _) from fun z => hB z.2)]
    · refine ok_ltw (by omega) (ok_ltw (by omega) (ok_some ?_))
      rw [if_neg (show ¬ (planOf M c = k ∧ _) from fun z => h z.1)]
  · unfold f_X11_holdIn_s5
    exact ok_ite_t (by omega) (ok_some ⟨_, rfl, hv⟩)
