theorem c_overall {M M' : Mem} (h1 : A1 M) (h4 : A4 M) (h6 : C6 M) {known : Int} (hL : Learnt M known M') {c q : Nat} (hc : c < 14) (hq : q < 2) : Okk (f_X5_overall c q M') (fun r => r = togetherS M c q known) := by
  have hk : nK M ≤ 14 := by unfold nK; have := h1.2.1; omega
  unfold f_X5_overall
  refine ok_obn (P := fun s => s.1 = tgSum M c q known 4 ∧ s.2.1 = tgCnt M c q known 4) ?_ ?_
  · unfold f_X5_overall_l8
    refine ok_whl 4 (fun k s => s.2.2 = (k : Int) ∧ s.1 = tgSum M c q known k ∧ s.2.1 = tgCnt M c q known k) (FU_big (by omega)) ⟨rfl, rfl, rfl⟩ ?_
    rintro k ⟨v6, v7, v8⟩ hkk ⟨h8, h6', h7⟩
    dsimp only at h6' h7 h8 ⊢
    subst h6' h7 h8
    unfold f_X5_overall_s8
    refine ok_ite (fun hc2 => ok_some ?_) (fun hc2 => ?_)
    · have e : k = 4 := by omega
      subst e; exact ⟨rfl, rfl⟩
    have b1 := tgSum_b M hk c q known k
    have b2 : 0 ≤ tgCnt M c q known k ∧ tgCnt M c q known k ≤ k := cnt_b _ _
    have b3 := scaled_b M hk k c q known
    refine ok_obn (c_scale h1 h4 h6 hL (by omega) hc hq) (fun r hr => ?_)
    subst hr
    refine ok_ite (fun h => ?_) (fun h => ?_)
    · have e1 := tgSum_succ M c q known k
      have e2 := tgCnt_succ M c q known k
      rw [if_pos h] at e1
      rw [if_neg (fun z => z h)] at e2
      (repeat' (first | (with_reducible refine ok_ltw ?_ ?_; (· omega)) | (with_reducible refine ok_lt ?_) | (with_reducible refine ok_gd ?_ ?_; (· omega)) | (with_reducible refine ok_ite (fun _ => ?_) (fun _ => ?_))))
      (refine ok_some ?_; dsimp only [inS]; exact ⟨by omega, by omega, by omega, by omega⟩)
    · have e1 := tgSum_succ M c q known k
      have e2 := tgCnt_succ M c q known k
      rw [if_neg h] at e1
      rw [if_pos h] at e2
      (repeat' (first | (with_reducible refine ok_ltw ?_ ?_; (· omega)) | (with_reducible refine ok_lt ?_) | (with_reducible refine ok_gd ?_ ?_; (· omega)) | (with_reducible refine ok_ite (fun _ => ?_) (fun _ => ?_))))
      (refine ok_some ?_; dsimp only [inS]; exact ⟨by omega, by omega, by omega, by omega⟩)
  · rintro ⟨v6, v7, v8⟩ ⟨e6, e7⟩
    dsimp only at e6 e7 ⊢
    subst e6 e7
    unfold f_X5_overall_j44
    refine ok_ite (fun h => ok_some ?_) (fun h => ok_gd h (ok_some ?_))
    · unfold togetherS; rw [if_pos h]
    · unfold togetherS; rw [if_neg h]
def orFive (x : Int) : Int := if x = -1 then 5 else x
theorem c_level {M M' : Mem} (h1 : A1 M) (h4 : A4 M) (h6 : C6 M) {known : Int} (hL : Learnt M known M') {c q : Nat} (hc : c < 14) (hq : q < 2) : Okk (f_X5_level c q M') (fun r => r = orFive (togetherS M c q known)) := by
  unfold f_X5_level
  refine ok_obn (c_overall h1 h4 h6 hL hc hq) (fun r hr => ?_)
  subst hr
  exact ok_ite (fun h => ok_some (by unfold orFive; rw [if_pos h])) (fun h => ok_some (by unfold orFive; rw [if_neg h]))
