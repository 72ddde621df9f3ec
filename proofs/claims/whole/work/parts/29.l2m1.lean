/-! the model: TERMS, and what it learns of a DAY -/
def RowOk (M : Mem) (row : Nat) : Prop := -1 ≤ M 100 row ∧ M 100 row ≤ 4 ∧ ∀ t : Nat, (t : Int) < M 100 row → 0 ≤ M 102 (4 * row + t) ∧ M 102 (4 * row + t) ≤ 7
theorem allB_stop {f : Nat → Bool} {k n : Nat} (hk : k < n) (h : f k = false) : allB f n = false := by
  cases e : allB f n with
  | false => rfl
  | true => have := (allB_iff f n).mp e k hk; rw [h] at this; cases this
theorem m_allHold {M : Mem} {known : Int} {row c : Nat} (hr : row < 32) (hc : c < 14) (hR : RowOk M row) (hn : M 100 row ≠ -1) (hT : ∀ j : Nat, j < 7 → M 106 (7 * c + j) = toldS M known c j) : Okk (f_X11_allHold row c M) (fun r => r = if termsB M known row c (M 100 row).toNat then 1 else 0) := by
  obtain ⟨r1, r2, r3⟩ := hR
  generalize hN : (M 100 row).toNat = n
  have hnn : M 100 row = (n : Int) := by omega
  let f : Nat → Bool := fun k => decide (termZ M known (4 * row + k) c ≠ M 101 (4 * row + k))
  unfold f_X11_allHold
  refine ok_lpr (P := fun _ => termsB M known row c n = true) (P2 := fun r => r = 0 ∧ termsB M known row c n = false) ?_ (fun s hs => ok_some (by rw [hs]; rfl)) (fun t ht => ok_some (by rw [ht.1, ht.2]; rfl))
  unfold f_X11_allHold_l2
  refine ok_whl n (fun k s => s = (k : Int) ∧ termsB M known row c k = true) (FU_big (by omega)) ⟨rfl, rfl⟩ ?_
  rintro k v hk ⟨rfl, hB⟩
  have j172 : ∀ z : Int, k < n → z = termZ M known (4 * row + k) c → Okk (f_X11_allHold_j172k2 row c k ((4 * row + k : Nat) : Int) z M) (inS (fun s' => k < n ∧ s' = ((k + 1 : Nat) : Int) ∧ termsB M known row c (k + 1) = true) (inS (fun _ => termsB M known row c n = true) (fun r => r = 0 ∧ termsB M known row c n = false))) := by
    intro z hkn hz
    unfold f_X11_allHold_j172k2
    rw [toN]
    refine ok_gd (by omega) ?_
    refine ok_ite (fun h => ok_some ?_) (fun h => ?_)
    · refine ⟨rfl, allB_stop hkn (decide_eq_false ?_)⟩
      rw [← hz]; exact fun q => q h
    · refine ok_ltw (by omega) (ok_some ⟨hkn, by omega, ?_⟩)
      show (allB _ k && _) = true
      rw [show allB _ k = true from hB, Bool.true_and]
      exact decide_eq_true (by rw [← hz]; exact h)
  have j52 : ∀ z : Int, k < n → (M 102 (4 * row + k) ≠ 7 → z = toldS M known c (M 102 (4 * row + k)).toNat) → Okk (f_X11_allHold_j52k2 row c k ((4 * row + k : Nat) : Int) z M) (inS (fun s' => k < n ∧ s' = ((k + 1 : Nat) : Int) ∧ termsB M known row c (k + 1) = true) (inS (fun _ => termsB M known row c n = true) (fun r => r = 0 ∧ termsB M known row c n = false))) := by
    intro z hkn hz
    unfold f_X11_allHold_j52k2
    rw [toN, toN]
    refine ok_gd (by omega) ?_
    refine ok_ite (fun h => ?_) (fun h => ?_)
    · refine ok_gd (by omega) (ok_gd (by omega) ?_)
      refine ok_ite (fun h2 => j172 1 hkn ?_) (fun h2 => j172 0 hkn ?_)
      · unfold termZ; rw [if_pos h, if_pos h2]
      · unfold termZ; rw [if_pos h, if_neg h2]
    · have hz := hz h
      subst hz
      refine ok_gd (by omega) ?_
      refine ok_ite (fun h2 => ok_gd (by omega) ?_) (fun h2 => ok_gd (by omega) ?_)
      · refine ok_ite (fun h3 => j172 0 hkn ?_) (fun h3 => j172 1 hkn ?_)
        · unfold termZ; rw [if_neg h, if_pos h2, if_pos h3]
        · unfold termZ; rw [if_neg h, if_pos h2, if_neg h3]
      · refine ok_ite (fun h4 => ok_gd (by omega) ?_) (fun h4 => ok_gd (by omega) ?_)
        · refine ok_ite (fun h3 => j172 1 hkn ?_) (fun h3 => j172 0 hkn ?_)
          · unfold termZ; rw [if_neg h, if_neg h2, if_pos h4, if_pos h3]
          · unfold termZ; rw [if_neg h, if_neg h2, if_pos h4, if_neg h3]
        · refine ok_ite (fun h3 => j172 0 hkn ?_) (fun h3 => j172 1 hkn ?_)
          · unfold termZ; rw [if_neg h, if_neg h2, if_neg h4, if_pos h3]
          · unfold termZ; rw [if_neg h, if_neg h2, if_neg h4, if_neg h3]
  unfold f_X11_allHold_s2
  rw [toN]
  refine ok_gd (by omega) ?_
  refine ok_ite (fun h => ok_some ?_) (fun h => ?_)
  · have e : k = n := by omega
    subst e; exact hB
  have hkn : k < n := by omega
  have q := r3 k (by omega)
  have e : wrap (wrap (4 * (row : Int)) + k) = ((4 * row + k : Nat) : Int) := by
    rw [wrap_of (x := 4 * (row : Int)) (by omega) (by omega), wrap_of (by omega) (by omega)]; omega
  rw [e]
  clear e
  refine ok_lt ?_
  rw [toN]
  refine ok_gd (by omega) ?_
  refine ok_ite (fun h7 => j52 0 hkn (fun z => absurd h7 z)) (fun h7 => ?_)
  have e2 : wrap (wrap (7 * (c : Int)) + M 102 (4 * row + k)) = ((7 * c + (M 102 (4 * row + k)).toNat : Nat) : Int) := by
    rw [wrap_of (x := 7 * (c : Int)) (by omega) (by omega), wrap_of (by omega) (by omega)]; omega
  rw [e2, toN]
  clear e2
  refine ok_gd (by omega) (ok_gd (by omega) ?_)
  exact j52 _ hkn (fun _ => hT _ (by omega))
