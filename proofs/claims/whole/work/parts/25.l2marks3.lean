theorem c_scale {M M' : Mem} (h1 : A1 M) (h4 : A4 M) (h6 : C6 M) {known : Int} (hL : Learnt M known M') {t c q : Nat} (ht : t < 4) (hc : c < 14) (hq : q < 2) : Okk (f_X5_scale t c q M') (fun r => r = scaledS M t c q known) := by
  have hk := h1.2.1
  have hn : (nK M : Int) = M 80 1 := by unfold nK; have := h1.1; omega
  unfold f_X5_scale
  have e0 : wrap (wrap (wrap ((q : Int) * 4) + t) * 14) = ((56 * q + 14 * t : Nat) : Int) := by
    rw [wrap_of (x := (q : Int) * 4) (by omega) (by omega), wrap_of (x := (q : Int) * 4 + t) (by omega) (by omega), wrap_of (by omega) (by omega)]
    omega
  refine ok_lt ?_
  rw [e0]
  have e1 : wrap (((56 * q + 14 * t : Nat) : Int) + c) = ((56 * q + 14 * t + c : Nat) : Int) := by rw [wrap_of (by omega) (by omega)]; omega
  rw [e1]
  refine ok_gd (by omega) ?_
  refine ok_lt ?_
  rw [Int.toNat_natCast, hL t c q ht hc hq]
  refine ok_ite (fun h => ok_some (by unfold scaledS; rw [if_pos h])) (fun h => ?_)
  refine ok_obn (P := fun s => s.1 = scLow M t c q known 14 ∧ s.2.1 = scAll M t c q known 14) ?_ ?_
  · unfold f_X5_scale_l38
    refine ok_whl 14 (fun k s => s.2.2 = (k : Int) ∧ s.1 = scLow M t c q known k ∧ s.2.1 = scAll M t c q known k) (FU_big (by omega)) ⟨rfl, rfl, rfl⟩ ?_
    rintro k ⟨v6, v7, v8⟩ hkk ⟨h8, h6, h7⟩
    dsimp only at h6 h7 h8 ⊢
    subst h6 h7 h8
    have b1 : 0 ≤ scAll M t c q known k ∧ scAll M t c q known k ≤ k := cnt_b _ _
    have b2 : 0 ≤ scLow M t c q known k ∧ scLow M t c q known k ≤ k := cnt_b _ _
    unfold f_X5_scale_s38
    refine ok_ite (fun hc2 => ok_some ?_) (fun hc2 => ?_)
    · have e : k = 14 := by omega
      subst e; exact ⟨rfl, rfl⟩
    clear e0 e1
    have hk14 : k < 14 := by clear b1 b2 h hL hn; omega
    have e2 : wrap (((56 * q + 14 * t : Nat) : Int) + k) = ((56 * q + 14 * t + k : Nat) : Int) := by rw [wrap_of (by omega) (by omega)]; omega
    rw [e2, Int.toNat_natCast, hL t k q ht hk14 hq]
    clear e2 hL
    (repeat' (first | (with_reducible refine ok_ltw ?_ ?_; (· omega)) | (with_reducible refine ok_lt ?_) | (with_reducible refine ok_gd ?_ ?_; (· omega)) | (with_reducible refine ok_ite (fun _ => ?_) (fun _ => ?_))))
    all_goals (refine ok_some ?_; dsimp only [inS]; refine ⟨by omega, by omega, ?_, ?_⟩)
    all_goals first | (rw [scLow_succ, if_pos (by omega)]) | (rw [scLow_succ, if_neg (by omega), Int.add_zero]) | (rw [scAll_succ, if_pos (by omega)]) | (rw [scAll_succ, if_neg (by omega), Int.add_zero])
  · rintro ⟨v6, v7, v8⟩ ⟨e6, e7⟩
    dsimp only at e6 e7 ⊢
    subst e6 e7
    have b2 : 0 ≤ scLow M t c q known 14 ∧ scLow M t c q known 14 ≤ (14 : Nat) := cnt_b _ _
    have h10 : wrap (10 * scLow M t c q known 14) = 10 * scLow M t c q known 14 := wrap_of (by omega) (by omega)
    have far : ∀ k : Nat, nK M ≤ k → rawM M t k q known = -1 := fun k hk2 => raw_far h4 h6 (by omega) t q known
    have fA : scAll M t c q known 14 = scAll M t c q known (nK M) := cnt_far (by omega) (fun k h1 h2 z => z.2 (far k h1))
    have fL : scLow M t c q known 14 = scLow M t c q known (nK M) := cnt_far (by omega) (fun k h1 h2 z => z.2.1 (far k h1))
    unfold f_X5_scale_j92
    rw [h10, fA, fL]
    refine ok_ite (fun h => ok_some ?_) (fun h => ok_gd h (ok_some ?_))
    · unfold scaledS; rw [if_neg (by assumption), if_pos h]
    · unfold scaledS; rw [if_neg (by assumption), if_neg h]
