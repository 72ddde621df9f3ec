/-! close: the model's rounds -/
section CLOSE
variable {B M : Mem}
theorem m_closeAll {n : Nat} (sv : Nat → Nat) (hn : n ≤ 14) (h1 : B 80 1 = (n : Int)) (h4 : C4 B) (wd : Wd B) (hO : ∀ c, c < n → 0 ≤ B 85 c ∧ B 85 c ≤ 99)
    (hs : ∀ N : Mem, (∀ c i : Nat, c ≠ 85 → c ≠ 87 → N c i = B c i) → ∀ c : Nat, c < n → B 110 c ≠ -1 → f_X11_servedIn (c : Int) N = some (sv c : Int)) :
    Okk (f_X11_close_l22 0 0 B) (fun q => q.1 = cnt (fun c => B 110 c ≠ -1 ∧ sv c = 3) n ∧ (∀ c i, c ≠ 85 → c ≠ 87 → q.2.2 c i = B c i) ∧ (∀ i, n ≤ i → q.2.2 85 i = B 85 i) ∧ (∀ i, 196 ≤ i → q.2.2 87 i = B 87 i) ∧ (∀ c, c < n → q.2.2 85 c = owd (fun i => B 110 i) (fun i => B 85 i) sv c) ∧ ∀ x y, x < 14 → y < 14 → q.2.2 87 (14 * x + y) = if x < n ∧ y < n then nrg B x y else B 87 (14 * x + y)) := by
  unfold f_X11_close_l22
  refine ok_whl n (fun k (q : Int × Int × Mem) => q.1 = cnt (fun c => B 110 c ≠ -1 ∧ sv c = 3) k ∧ q.2.1 = (k : Int) ∧ (∀ c i, c ≠ 85 → c ≠ 87 → q.2.2 c i = B c i) ∧ (∀ i, k ≤ i → q.2.2 85 i = B 85 i) ∧ (∀ i, 14 * k ≤ i → q.2.2 87 i = B 87 i) ∧ (∀ c, c < k → q.2.2 85 c = owd (fun i => B 110 i) (fun i => B 85 i) sv c) ∧ ∀ x y, x < k → y < 14 → q.2.2 87 (14 * x + y) = if y < n then nrg B x y else B 87 (14 * x + y)) (FU_big (by omega)) ⟨rfl, rfl, fun _ _ _ _ => rfl, fun _ _ => rfl, fun _ _ => rfl, fun c h => absurd h (by omega), fun x y h => absurd h (by omega)⟩ ?_
  rintro k ⟨u, v, N⟩ hk ⟨hu, hv, hf, h85, h87, hw, hx⟩
  dsimp only at hu hv hf h85 h87 hw hx ⊢
  subst hv
  have hcb := cnt_b (fun c => B 110 c ≠ -1 ∧ sv c = 3) k
  have hcs := cnt_succ (fun c => B 110 c ≠ -1 ∧ sv c = 3) k
  unfold f_X11_close_s22
  rw [hf 80 1 (by omega) (by omega), h1]
  refine ok_ite (fun z => ok_some ?_) (fun z => ?_)
  · have e : k = n := by omega
    subst e
    refine ⟨hu, hf, h85, fun i hi => h87 i (by omega), hw, fun x y hx1 hy1 => ?_⟩
    try dsimp only
    by_cases w : x < k
    · rw [hx x y w hy1]
      by_cases w2 : y < k
      · rw [if_pos w2, if_pos ⟨w, w2⟩]
      · rw [if_neg w2, if_neg (fun p => w2 p.2)]
    · rw [if_neg (fun p => w p.1)]
      exact h87 _ (by omega)
  have hkn : k < n := by omega
  have bO := hO k hkn
  refine ok_obn (m_reg1 (B := B) u hn hkn h1 h4 wd (fun c i q1 q2 => ?_)) (fun q hq => ?_)
  · by_cases e : c = 87
    · subst e; exact h87 i (by omega)
    · exact hf c i q2 e
  obtain ⟨w1, N1⟩ := q
  obtain ⟨f1, g1⟩ := hq
  dsimp only at f1 g1 ⊢
  have F1 : ∀ c i, c ≠ 85 → c ≠ 87 → N1 c i = B c i := fun c i q1 q2 => by rw [f1 c i (by omega)]; exact hf c i q1 q2
  have k85 : N1 85 k = B 85 k := by rw [f1 85 k (by omega)]; exact h85 k (by omega)
  have X1' : ∀ N2 : Mem, (∀ i, N2 87 i = N1 87 i) → (∀ i, 14 * (k + 1) ≤ i → N2 87 i = B 87 i) ∧ ∀ x y, x < k + 1 → y < 14 → N2 87 (14 * x + y) = if y < n then nrg B x y else B 87 (14 * x + y) := fun N2 e2 => by
    refine ⟨fun i hi => by rw [e2, f1 87 i (by omega)]; exact h87 i (by omega), fun x y hx1 hy1 => ?_⟩
    rw [e2]
    by_cases e : x = k
    · subst e
      by_cases w : y < n
      · rw [if_pos w]; exact g1 y w
      · rw [if_neg w, f1 87 _ (by omega)]; exact h87 _ (by omega)
    · rw [f1 87 _ (by omega)]; exact hx x y (by omega) hy1
  have Y1 : ∀ N2 : Mem, N2 85 k = owd (fun i => B 110 i) (fun i => B 85 i) sv k → (∀ i, i ≠ k → N2 85 i = N1 85 i) → (∀ i, k + 1 ≤ i → N2 85 i = B 85 i) ∧ ∀ c, c < k + 1 → N2 85 c = owd (fun i => B 110 i) (fun i => B 85 i) sv c := fun N2 e1 e2 => by
    refine ⟨fun i hi => by rw [e2 i (by omega), f1 85 i (by omega)]; exact h85 i (by omega), fun c hc => ?_⟩
    by_cases e : c = k
    · subst e; exact e1
    · rw [e2 c e, f1 85 c (by omega)]; exact hw c (by omega)
  unfold f_X11_close_j135k22
  rw [toN, F1 110 k (by omega) (by omega), wrap_n1 (by omega)]
  refine ok_gd (by omega) (ok_ite (fun q => ?_) (fun q => ?_))
  · have y := Y1 N1 (by rw [k85]; unfold owd; rw [if_pos q]) (fun _ _ => rfl)
    have x := X1' N1 (fun _ => rfl)
    refine ok_lt (ok_some ⟨hkn, ?_, rfl, F1, y.1, x.1, y.2, x.2⟩)
    try dsimp only
    rw [hcs, if_neg (fun w => w.1 q), hu]; omega
  refine ok_e (hs N1 F1 k hkn q) (ok_ite (fun q3 => ?_) (fun q3 => ?_))
  · have s3 : sv k = 3 := by omega
    unfold f_X11_close_j162k22
    refine ok_ite_f (by decide) ?_
    unfold f_X11_close_j173k22
    rw [hu, wrap_of (x := cnt (fun c => B 110 c ≠ -1 ∧ sv c = 3) k + 1) (by omega) (by omega), toN, k85, wrap_n1 (by omega)]
    refine ok_lt (ok_ite_f (by decide) (ok_gd (by omega) (ok_ite (fun q9 => ?_) (fun q9 => ?_))))
    · obtain ⟨N2, e2, f2, v2⟩ := mup_gen N1 85 k 99
      have y := Y1 N2 (by rw [v2]; unfold owd; rw [if_neg q, if_pos s3, if_neg (by show ¬ B 85 k < 99; omega)]; show (99 : Int) = B 85 k; omega) (fun i hi => f2 85 i (by omega))
      have x := X1' N2 (fun i => f2 87 i (by omega))
      refine ok_gd (by omega) (ok_lt ?_)
      rw [e2]
      refine ok_lt (ok_some ⟨hkn, ?_, rfl, fun c i q1 q2 => ?_, y.1, x.1, y.2, x.2⟩)
      · try dsimp only
        rw [hcs, if_pos ⟨q, s3⟩]
      · try dsimp only
        rw [f2 c i (by omega)]; exact F1 c i q1 q2
    · obtain ⟨N2, e2, f2, v2⟩ := mup_gen N1 85 k (B 85 k + 1)
      have y := Y1 N2 (by rw [v2]; unfold owd; rw [if_neg q, if_pos s3, if_pos (by show B 85 k < 99; omega)]) (fun i hi => f2 85 i (by omega))
      have x := X1' N2 (fun i => f2 87 i (by omega))
      refine ok_gd (by omega) (ok_gd (by omega) (ok_lt ?_))
      rw [wrap_of (x := B 85 k + 1) (by omega) (by omega), e2]
      refine ok_lt (ok_some ⟨hkn, ?_, rfl, fun c i q1 q2 => ?_, y.1, x.1, y.2, x.2⟩)
      · try dsimp only
        rw [hcs, if_pos ⟨q, s3⟩]
      · try dsimp only
        rw [f2 c i (by omega)]; exact F1 c i q1 q2
  · have s3 : ¬ sv k = 3 := by omega
    unfold f_X11_close_j162k22
    refine ok_ite_t rfl ?_
    unfold f_X11_close_j173k22
    rw [hu, wrap_of (x := cnt (fun c => B 110 c ≠ -1 ∧ sv c = 3) k + 0) (by omega) (by omega), toN, wrap_n1 (by omega)]
    obtain ⟨N2, e2, f2, v2⟩ := mup_gen N1 85 k 0
    have y := Y1 N2 (by rw [v2]; unfold owd; rw [if_neg q, if_neg s3]) (fun i hi => f2 85 i (by omega))
    have x := X1' N2 (fun i => f2 87 i (by omega))
    refine ok_lt (ok_ite_t rfl (ok_gd (by omega) (ok_lt ?_)))
    rw [e2]
    refine ok_lt (ok_some ⟨hkn, ?_, rfl, fun c i q1 q2 => ?_, y.1, x.1, y.2, x.2⟩)
    · try dsimp only
      rw [hcs, if_neg (fun w => s3 w.2)]
    · try dsimp only
      rw [f2 c i (by omega)]; exact F1 c i q1 q2
theorem m_clear {n : Nat} (v1 : Int) (hn : n ≤ 14) (h1 : M 80 1 = (n : Int)) : Okk (f_X11_close_l221 v1 0 M) (fun q => (∀ c i, ¬ ((c = 110 ∨ c = 114 ∨ c = 115) ∧ i < n) → q.2 c i = M c i) ∧ ∀ i, i < n → q.2 110 i = -1 ∧ q.2 114 i = -1 ∧ q.2 115 i = -1) := by
  unfold f_X11_close_l221
  refine ok_whl n (fun k (q : Int × Mem) => q.1 = (k : Int) ∧ (∀ c i, ¬ ((c = 110 ∨ c = 114 ∨ c = 115) ∧ i < k) → q.2 c i = M c i) ∧ ∀ i, i < k → q.2 110 i = -1 ∧ q.2 114 i = -1 ∧ q.2 115 i = -1) (FU_big (by omega)) ⟨rfl, fun _ _ _ => rfl, fun i h => absurd h (by omega)⟩ ?_
  rintro k ⟨v, N⟩ hk ⟨rfl, hf, hw⟩
  dsimp only at hf hw ⊢
  unfold f_X11_close_s221
  rw [hf 80 1 (by omega), h1]
  refine ok_ite (fun z => ok_some ?_) (fun z => ?_)
  · have e : k = n := by omega
    subst e
    exact ⟨hf, hw⟩
  have hkn : k < n := by omega
  rw [toN, wrap_n1 (by omega)]
  obtain ⟨N2, e2, f2, v2⟩ := mup_gen N 110 k (-1)
  obtain ⟨N3, e3, f3, v3⟩ := mup_gen N2 114 k (-1)
  obtain ⟨N4, e4, f4, v4⟩ := mup_gen N3 115 k (-1)
  refine ok_gd (by omega) (ok_lt (ok_gd (by omega) (ok_lt (ok_gd (by omega) (ok_lt ?_)))))
  rw [e2, e3, e4]
  refine ok_lt (ok_some ⟨hkn, rfl, fun c i q => ?_, fun i hi => ?_⟩)
  · try dsimp only
    rw [f4 c i (by omega), f3 c i (by omega), f2 c i (by omega)]
    exact hf c i (by omega)
  · try dsimp only
    by_cases e : i = k
    · subst e
      exact ⟨by rw [f4 _ _ (by omega), f3 _ _ (by omega)]; exact v2, by rw [f4 _ _ (by omega)]; exact v3, v4⟩
    · have w := hw i (by omega)
      exact ⟨by rw [f4 _ _ (by omega), f3 _ _ (by omega), f2 _ _ (by omega)]; exact w.1, by rw [f4 _ _ (by omega), f3 _ _ (by omega), f2 _ _ (by omega)]; exact w.2.1, by rw [f4 _ _ (by omega), f3 _ _ (by omega), f2 _ _ (by omega)]; exact w.2.2⟩
end CLOSE
