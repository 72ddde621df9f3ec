/-! close: all pairs in the class, and what is owed -/
section CLOSE
variable {B M : Mem}
theorem c_partAll {n : Nat} (hn : n ≤ 14) (h3 : B 3 0 = (n : Int)) (h4 : C4 B) (wd : Wd B) (l1 : ∀ i, B 1 i = B 110 i) (l14 : ∀ i, B 14 i = B 114 i) (l15 : ∀ i, B 15 i = B 115 i) (l13 : ∀ i, B 13 i = B 87 i) : Okk (f_X10_partPairs B) (fun M' => (∀ c i, ¬ (c = 13 ∧ i < 196) → M' c i = B c i) ∧ ∀ x y, x < 14 → y < 14 → M' 13 (14 * x + y) = if x < n ∧ y < n then nrg B x y else B 87 (14 * x + y)) := by
  unfold f_X10_partPairs
  refine ok_obn (P := fun q : Int × Mem => RgI B n n (n + 1) q.2) ?_ (fun q hq => ok_some ?_)
  · unfold f_X10_partPairs_l2
    refine ok_whl n (fun k (q : Int × Mem) => q.1 = (k : Int) ∧ RgI B n k (k + 1) q.2) (FU_big (by omega)) ⟨rfl, fun _ _ _ => rfl, fun x y hx hy => ⟨fun d => ?_, fun _ => l13 _⟩⟩ ?_
    · exfalso; unfold dnP at d; omega
    rintro k ⟨v, N⟩ hk ⟨rfl, hI⟩
    dsimp only at hI ⊢
    unfold f_X10_partPairs_s2
    rw [hI.1 3 0 (by omega), h3]
    refine ok_ite (fun z => ok_some ?_) (fun z => ?_)
    · have e : k = n := by omega
      subst e
      exact hI
    rw [wrap_n1 (by omega)]
    refine ok_lt (ok_obn (c_part1 hn (by omega) h3 h4 wd l1 l14 l15 hI) (fun q hq => ?_))
    unfold f_X10_partPairs_j90k2
    rw [wrap_n1 (by omega)]
    refine ok_lt (ok_some ⟨by omega, rfl, hq.1, fun x y hx hy => ⟨fun d => (hq.2 x y hx hy).1 ?_, fun d => (hq.2 x y hx hy).2 (fun w => d ?_)⟩⟩)
    · unfold dnP at d ⊢; omega
    · unfold dnP at w ⊢; omega
  · refine ⟨hq.1, fun x y hx hy => ?_⟩
    by_cases e : x = y
    · have hd : ¬ dnP n n (n + 1) x y := by unfold dnP; omega
      rw [(hq.2 x y hx hy).2 hd]
      by_cases w : x < n ∧ y < n
      · rw [if_pos w]; unfold nrg; rw [if_neg (fun p => p.1.1 e)]
      · rw [if_neg w]
    · by_cases w : x < n ∧ y < n
      · rw [if_pos w]
        exact (hq.2 x y hx hy).1 (by unfold dnP; omega)
      · rw [if_neg w]
        exact (hq.2 x y hx hy).2 (by unfold dnP; omega)
/-- what is owed after a YEAR -/
def owd (L O : Nat → Int) (sv : Nat → Nat) (c : Nat) : Int := if L c = -1 then O c else if sv c = 3 then (if O c < 99 then O c + 1 else O c) else 0
theorem c_settle {n : Nat} (hn : n ≤ 14) (L O : Nat → Int) (sv : Nat → Nat) (h3 : M 3 0 = (n : Int)) (h1 : ∀ c, c < n → M 1 c = L c) (hL : ∀ c, c < n → -1 ≤ L c ∧ L c < 3) (h8 : ∀ c, c < n → M 8 c = O c) (hO : ∀ c, c < n → 0 ≤ O c ∧ O c ≤ 99)
    (hb : ∀ N : Mem, (∀ c i : Nat, c ≠ 8 → N c i = M c i) → ∀ (c k : Nat), c < n → L c = (k : Int) → f_X1_bestWish c (N 2 k) N = some (sv c : Int)) :
    Okk (f_X10_settle M) (fun q => q.1 = cnt (fun c => L c ≠ -1 ∧ sv c = 3) n ∧ (∀ c i, ¬ (c = 8 ∧ i < n) → q.2 c i = M c i) ∧ ∀ c, c < n → q.2 8 c = owd L O sv c) := by
  unfold f_X10_settle
  refine ok_obn (P := fun q : Int × Int × Mem => q.1 = cnt (fun c => L c ≠ -1 ∧ sv c = 3) n ∧ (∀ c i, ¬ (c = 8 ∧ i < n) → q.2.2 c i = M c i) ∧ ∀ c, c < n → q.2.2 8 c = owd L O sv c) ?_ (fun q hq => ok_some hq)
  unfold f_X10_settle_l4
  refine ok_whl n (fun k (q : Int × Int × Mem) => q.1 = cnt (fun c => L c ≠ -1 ∧ sv c = 3) k ∧ q.2.1 = (k : Int) ∧ (∀ c i, ¬ (c = 8 ∧ i < k) → q.2.2 c i = M c i) ∧ ∀ c, c < k → q.2.2 8 c = owd L O sv c) (FU_big (by omega)) ⟨rfl, rfl, fun _ _ _ => rfl, fun c h => absurd h (by omega)⟩ ?_
  rintro k ⟨u, v, N⟩ hk ⟨hu, hv, hf, hw⟩
  dsimp only at hu hv hf hw ⊢
  subst hv
  have hcb := cnt_b (fun c => L c ≠ -1 ∧ sv c = 3) k
  have hcs := cnt_succ (fun c => L c ≠ -1 ∧ sv c = 3) k
  unfold f_X10_settle_s4
  rw [hf 3 0 (by omega), h3]
  refine ok_ite (fun z => ok_some ?_) (fun z => ok_gd (by omega) (ok_lt ?_))
  · have e : k = n := by omega
    subst e
    exact ⟨hu, hf, hw⟩
  have hkn : k < n := by omega
  have bL := hL k hkn
  have bO := hO k hkn
  have v8 : N 8 k = O k := by rw [hf 8 k (by omega)]; exact h8 k hkn
  rw [toN, hf 1 k (by omega), h1 k hkn, v8, wrap_n1 (by omega)]
  have put : ∀ (x : Int), x = owd L O sv k → ∃ N2, mup N 8 k x = N2 ∧ (∀ c i, ¬ (c = 8 ∧ i < k + 1) → N2 c i = M c i) ∧ ∀ c, c < k + 1 → N2 8 c = owd L O sv c := fun x hx => by
    obtain ⟨N2, e2, f2, v2⟩ := mup_gen N 8 k x
    refine ⟨N2, e2, fun c i q => by rw [f2 c i (by omega)]; exact hf c i (by omega), fun c hc => ?_⟩
    by_cases e : c = k
    · subst e; rw [v2]; exact hx
    · rw [f2 8 c (by omega)]; exact hw c (by omega)
  refine ok_ite (fun q => ?_) (fun q => ?_)
  · refine ok_lt (ok_some ⟨hkn, ?_, rfl, fun c i w => hf c i (by omega), fun c hc => ?_⟩)
    · try dsimp only
      rw [hcs, if_neg (fun w => w.1 q), hu]; omega
    · try dsimp only
      by_cases e : c = k
      · subst e; rw [v8]; unfold owd; rw [if_pos q]
      · exact hw c (by omega)
  obtain ⟨j, hj⟩ : ∃ j : Nat, L k = (j : Int) := ⟨(L k).toNat, by omega⟩
  rw [hj, toN]
  refine ok_gd (by omega) (ok_e (hb N (fun c i w => hf c i (by omega)) k j hkn hj) (ok_ite (fun q3 => ?_) (fun q3 => ?_)))
  · have s3 : sv k = 3 := by omega
    have ev : (if 99 < wrap (O k + 1) then 99 else wrap (O k + 1)) = owd L O sv k := by
      unfold owd
      rw [if_neg q, if_pos s3, wrap_of (by omega) (by omega)]
      by_cases w : O k < 99
      · rw [if_neg (by omega), if_pos w]
      · rw [if_pos (by omega), if_neg w]; omega
    obtain ⟨N2, e2, f2, w2⟩ := put _ ev
    refine ok_gd (by omega) (ok_gd (by omega) (ok_lt ?_))
    rw [e2, hu, wrap_of (x := cnt (fun c => L c ≠ -1 ∧ sv c = 3) k + 1) (by omega) (by omega)]
    refine ok_lt (ok_lt (ok_some ⟨hkn, ?_, rfl, f2, w2⟩))
    try dsimp only
    rw [hcs, if_pos ⟨q, s3⟩]
  · have s3 : ¬ sv k = 3 := by omega
    obtain ⟨N2, e2, f2, w2⟩ := put 0 (by unfold owd; rw [if_neg q, if_neg s3])
    refine ok_gd (by omega) (ok_lt ?_)
    rw [e2]
    refine ok_lt (ok_some ⟨hkn, ?_, rfl, f2, w2⟩)
    try dsimp only
    rw [hcs, if_neg (fun w => s3 w.2), hu]; omega
/-- the model's round over one child's regrets -/
theorem m_reg1 {n a : Nat} (v1 : Int) (hn : n ≤ 14) (ha : a < n) (h1 : B 80 1 = (n : Int)) (h4 : C4 B) (wd : Wd B) (hM : ∀ c i, ¬ (c = 87 ∧ i < 14 * a) → ¬ c = 85 → M c i = B c i) : Okk (f_X11_close_l32 v1 a 0 M) (fun q => (∀ c i, ¬ (c = 87 ∧ 14 * a ≤ i ∧ i < 14 * a + n) → q.2 c i = M c i) ∧ ∀ b, b < n → q.2 87 (14 * a + b) = nrg B a b) := by
  unfold f_X11_close_l32
  refine ok_whl n (fun k (q : Int × Mem) => q.1 = (k : Int) ∧ (∀ c i, ¬ (c = 87 ∧ 14 * a ≤ i ∧ i < 14 * a + k) → q.2 c i = M c i) ∧ ∀ b, b < k → q.2 87 (14 * a + b) = nrg B a b) (FU_big (by omega)) ⟨rfl, fun _ _ _ => rfl, fun b h => absurd h (by omega)⟩ ?_
  rintro k ⟨v, N⟩ hk ⟨rfl, hf, hw⟩
  dsimp only at hf hw ⊢
  have cell : ∀ c i, c ≠ 87 → c ≠ 85 → N c i = B c i := fun c i q1 q2 => by rw [hf c i (by omega)]; exact hM c i (by omega) q2
  unfold f_X11_close_s32
  rw [cell 80 1 (by omega) (by omega), h1]
  refine ok_ite (fun z => ok_some ?_) (fun z => ?_)
  · have e : k = n := by omega
    subst e
    exact ⟨hf, hw⟩
  have hkn : k < n := by omega
  have ei : wrap ((wrap (14 * (a : Int))) + k) = ((14 * a + k : Nat) : Int) := by rw [wrap_of (x := 14 * (a : Int)) (by omega) (by omega), wrap_of (by omega) (by omega)]; omega
  have v0 : N 87 (14 * a + k) = B 87 (14 * a + k) := by rw [hf 87 (14 * a + k) (by omega)]; exact hM _ _ (by omega) (by omega)
  have b4 := (h4 a k (by omega) (by omega)).1
  have no : ¬ (rgOk B a k ∧ B 87 (14 * a + k) < 99) → Okk (f_X11_close_j107k32 v1 a k 0 N) (inS (fun s' : Int × Mem => k < n ∧ s'.1 = ((k + 1 : Nat) : Int) ∧ (∀ c i, ¬ (c = 87 ∧ 14 * a ≤ i ∧ i < 14 * a + (k + 1)) → s'.2 c i = M c i) ∧ ∀ b, b < k + 1 → s'.2 87 (14 * a + b) = nrg B a b) (fun q : Int × Mem => (∀ c i, ¬ (c = 87 ∧ 14 * a ≤ i ∧ i < 14 * a + n) → q.2 c i = M c i) ∧ ∀ b, b < n → q.2 87 (14 * a + b) = nrg B a b)) := fun hno => by
    unfold f_X11_close_j107k32
    rw [wrap_n1 (by omega)]
    refine ok_ite_t rfl (ok_lt (ok_some ⟨hkn, rfl, fun c i q => hf c i (by omega), fun b hb => ?_⟩))
    try dsimp only
    by_cases e : b = k
    · subst e; rw [v0]; unfold nrg; rw [if_neg hno]
    · exact hw b (by omega)
  refine ok_ite (fun q => no (fun w => w.1.1 (by omega))) (fun q0 => ok_gd (by omega) ?_)
  rw [toN, toN, cell 110 a (by omega) (by omega), cell 110 k (by omega) (by omega)]
  refine ok_ite (fun q => no (fun w => w.1.2.1 q)) (fun q1 => ok_gd (by omega) (ok_gd (by omega) (ok_ite (fun q2 => ?_) (fun q => no (fun w => q w.1.2.2.1)))))
  refine ok_b (m_low (B := B) (by omega) (cell 114 a (by omega) (by omega)) (cell 115 a (by omega) (by omega)) wd) (fun q3 => ok_ite_f (by decide) ?_) (fun q => ok_ite_t rfl (no (fun w => q w.1.2.2.2.1)))
  refine ok_b (m_low (B := B) (by omega) (cell 114 k (by omega) (by omega)) (cell 115 k (by omega) (by omega)) wd) (fun q4 => ok_ite_f (by decide) ?_) (fun q => ok_ite_t rfl (no (fun w => q w.1.2.2.2.2)))
  rw [ei, toN, v0]
  refine ok_gd (by omega) (ok_ite (fun q => no (fun w => by have := w.2; omega)) (fun q5 => ?_))
  unfold f_X11_close_j107k32
  rw [ei, toN, v0, wrap_n1 (by omega), wrap_of (x := B 87 (14 * a + k) + 1) (by omega) (by omega)]
  obtain ⟨N2, e2, f2, v2⟩ := mup_gen N 87 (14 * a + k) (B 87 (14 * a + k) + 1)
  refine ok_ite_f (by decide) (ok_gd (by omega) (ok_gd (by omega) (ok_lt ?_)))
  rw [e2]
  clear e2 ei
  refine ok_lt (ok_some ⟨hkn, rfl, fun c i q => by try dsimp only
                                                   rw [f2 c i (by omega)]; exact hf c i (by omega), fun b hb => ?_⟩)
  try dsimp only
  by_cases e : b = k
  · subst e; rw [v2]; unfold nrg; rw [if_pos ⟨⟨by omega, q1, q2, q3, q4⟩, by omega⟩]
  · rw [f2 _ _ (by omega)]; exact hw b (by omega)
end CLOSE
