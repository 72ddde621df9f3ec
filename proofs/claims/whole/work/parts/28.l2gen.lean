/-! loops that count, loops that sum -/
theorem ok_count {R : Type} {step : Int × Int → Option ((Int × Int) ⊕ R)} {Q : R → Prop} {n : Nat} (hn : n < 100000) (p : Nat → Prop) [∀ k, Decidable (p k)]
    (hs : ∀ k : Nat, k < n → ∀ v : Int, 0 ≤ v → v ≤ k → Okk (step (v, (k : Int))) (fun o => o = .inl (v + (if p k then 1 else 0), (k : Int) + 1)))
    (he : ∀ v : Int, v = cnt p n → Okk (step (v, (n : Int))) (fun o => ∃ r, o = .inr r ∧ Q r)) : Okk (whl step FU (0, 0)) Q := by
  refine ok_whl n (fun k s => s.2 = (k : Int) ∧ s.1 = cnt p k) (FU_big (by omega)) ⟨rfl, rfl⟩ ?_
  rintro k ⟨v, w⟩ hk ⟨h2, h1⟩
  dsimp only at h1 h2
  subst h2 h1
  by_cases hkn : k < n
  · have b := cnt_b p k
    refine ok_mono (hs k hkn _ b.1 b.2) (fun o ho => ?_)
    subst ho
    exact ⟨hkn, by show (k : Int) + 1 = _; omega, (cnt_succ p k).symm⟩
  · have e : k = n := by omega
    subst e
    refine ok_mono (he _ rfl) (fun o ho => ?_)
    obtain ⟨r, rfl, hr⟩ := ho
    exact hr
theorem si_b {f : Nat → Int} {B : Int} (hB : 0 ≤ B) : ∀ {n : Nat}, (∀ k, k < n → -B ≤ f k ∧ f k ≤ B) → -(n * B) ≤ fb_si f n ∧ fb_si f n ≤ n * B := fun h => fb_si_bound hB h
theorem mulB {k n : Nat} {B : Int} (hB : 0 ≤ B) (h : k ≤ n) : (k : Int) * B ≤ n * B := Int.mul_le_mul_of_nonneg_right (by omega) hB
theorem ok_sum {R : Type} {step : Int × Int → Option ((Int × Int) ⊕ R)} {Q : R → Prop} {n : Nat} (hn : n < 100000) (f : Nat → Int) {B : Int} (hB : 0 ≤ B) (hf : ∀ k, k < n → -B ≤ f k ∧ f k ≤ B)
    (hs : ∀ k : Nat, k < n → ∀ v : Int, v = fb_si f k → -(n * B) ≤ v → v ≤ n * B → -(n * B) ≤ v + f k → v + f k ≤ n * B → Okk (step (v, (k : Int))) (fun o => o = .inl (v + f k, (k : Int) + 1)))
    (he : ∀ v : Int, v = fb_si f n → Okk (step (v, (n : Int))) (fun o => ∃ r, o = .inr r ∧ Q r)) : Okk (whl step FU (0, 0)) Q := by
  refine ok_whl n (fun k s => s.2 = (k : Int) ∧ s.1 = fb_si f k) (FU_big (by omega)) ⟨rfl, rfl⟩ ?_
  rintro k ⟨v, w⟩ hk ⟨h2, h1⟩
  dsimp only at h1 h2
  subst h2 h1
  by_cases hkn : k < n
  · have b := si_b hB (n := k) (fun j hj => hf j (by omega))
    have b1 := si_b hB (n := k + 1) (fun j hj => hf j (by omega))
    have m1 := mulB hB (k := k) (n := n) (by omega)
    have m2 := mulB hB (k := k + 1) (n := n) (by omega)
    rw [fb_si_succ] at b1
    refine ok_mono (hs k hkn _ rfl (by omega) (by omega) (by omega) (by omega)) (fun o ho => ?_)
    subst ho
    exact ⟨hkn, by show (k : Int) + 1 = _; omega, (fb_si_succ f k).symm⟩
  · have e : k = n := by omega
    subst e
    refine ok_mono (he _ rfl) (fun o ho => ?_)
    obtain ⟨r, rfl, hr⟩ := ho
    exact hr
theorem toN (k : Nat) : ((k : Int)).toNat = k := Int.toNat_natCast k
/-! the model: what is told of children -/
theorem m_wishesOf {M : Mem} {c : Nat} (hc : c < 14) : Okk (f_X11_wishesOf c M) (fun r => r = wishesS M c) := by
  unfold f_X11_wishesOf
  refine ok_obn (P := fun s => s.1 = wishesS M c) ?_ (fun s hs => ok_some hs)
  unfold f_X11_wishesOf_l4
  refine ok_count (n := 3) (by omega) (fun p => M 86 (3 * c + p) ≠ -1) (fun k hk v h0 h1 => ?_) (fun v hv => ?_)
  · unfold f_X11_wishesOf_s4
    have e : wrap (wrap (3 * (c : Int)) + k) = ((3 * c + k : Nat) : Int) := by
      rw [wrap_of (x := 3 * (c : Int)) (by omega) (by omega), wrap_of (by omega) (by omega)]; omega
    rw [e, toN]
    clear e
    refine ok_ite_f (by omega) ?_
    (repeat' (first | (with_reducible refine ok_ltw ?_ ?_; (· omega)) | (with_reducible refine ok_lt ?_) | (with_reducible refine ok_gd ?_ ?_; (· omega)) | (with_reducible refine ok_ite (fun _ => ?_) (fun _ => ?_))))
    · refine ok_some ?_
      rw [if_neg (by omega)]
    · refine ok_some ?_
      rw [if_pos (by omega)]
  · unfold f_X11_wishesOf_s4
    exact ok_ite_t (by omega) (ok_some ⟨_, rfl, hv⟩)
theorem m_namedBy {M : Mem} (h1 : A1 M) (c : Nat) : Okk (f_X11_namedBy c M) (fun r => r = namedS M c) := by
  have hn : (nK M : Int) = M 80 1 := by unfold nK; have := h1.1; omega
  have hb := h1.2.1
  have e : wrap (3 * M 80 1) = ((3 * nK M : Nat) : Int) := by rw [wrap_of (by omega) (by omega)]; omega
  unfold f_X11_namedBy
  refine ok_obn (P := fun s => s.1 = namedS M c) ?_ (fun s hs => ok_some hs)
  unfold f_X11_namedBy_l4
  refine ok_count (n := 3 * nK M) (by omega) (fun k => M 86 k = (c : Int)) (fun k hk v h0 h1 => ?_) (fun v hv => ?_)
  · unfold f_X11_namedBy_s4
    rw [e, toN]
    clear e
    refine ok_ite_f (by omega) ?_
    (repeat' (first | (with_reducible refine ok_ltw ?_ ?_; (· omega)) | (with_reducible refine ok_lt ?_) | (with_reducible refine ok_gd ?_ ?_; (· omega)) | (with_reducible refine ok_ite (fun _ => ?_) (fun _ => ?_))))
    · refine ok_some ?_
      rw [if_pos (by omega)]
    · refine ok_some ?_
      rw [if_neg (by omega)]
  · unfold f_X11_namedBy_s4
    rw [e]
    exact ok_ite_t (by omega) (ok_some ⟨_, rfl, hv⟩)
theorem m_orFive (x : Int) (M : Mem) : f_X11_orFive x M = some (orFive x) := by
  unfold f_X11_orFive orFive
  split <;> rfl
