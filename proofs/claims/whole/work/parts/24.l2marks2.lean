theorem scAll_succ (M : Mem) (t c q known : Int) (k : Nat) : scAll M t c q known (k + 1) = scAll M t c q known k + if (k : Int) ≠ c ∧ rawM M t k q known ≠ -1 then 1 else 0 := rfl
theorem scLow_succ (M : Mem) (t c q known : Int) (k : Nat) : scLow M t c q known (k + 1) = scLow M t c q known k + if (k : Int) ≠ c ∧ rawM M t k q known ≠ -1 ∧ rawM M t k q known < rawM M t c q known then 1 else 0 := rfl
theorem tgSum_succ (M : Mem) (c q known : Int) (k : Nat) : tgSum M c q known (k + 1) = tgSum M c q known k + if scaledS M k c q known = -1 then 0 else scaledS M k c q known := rfl
theorem tgCnt_succ (M : Mem) (c q known : Int) (k : Nat) : tgCnt M c q known (k + 1) = tgCnt M c q known k + if scaledS M k c q known ≠ -1 then 1 else 0 := rfl
/-- the class's rows of marks -/
def mfill (M : Mem) (a n : Nat) (v : Int) : Mem := fun c i => if c = a ∧ i < n then v else M c i
theorem c_fill (a : Nat) (ha : aln a < 1000) (v : Int) (M : Mem) : Okk (f_J7_fill_53178 a v M) (fun M' => M' = mfill M a (aln a) v) := by
  unfold f_J7_fill_53178
  refine ok_lt ?_
  refine ok_obn (P := fun s => s.2 = mfill M a (aln a) v) ?_ (fun s hs => ok_some hs)
  unfold f_J7_fill_53178_l5
  refine ok_whl (aln a) (fun k s => s.1 = (k : Int) ∧ s.2 = mfill M a k v) (FU_big (by omega)) ⟨rfl, ?_⟩ ?_
  · funext c i; unfold mfill; rw [if_neg (by omega)]
  rintro k ⟨v2, M2⟩ hk ⟨h6, h5⟩
  dsimp only at h5 h6 ⊢
  subst h5 h6
  unfold f_J7_fill_53178_s5
  refine ok_ite (fun hc => ok_some ?_) (fun hc => ?_)
  · have e : k = aln a := by omega
    subst e; exact rfl
  (repeat' (first | (with_reducible refine ok_ltw ?_ ?_; (· omega)) | (with_reducible refine ok_lt ?_) | (with_reducible refine ok_gd ?_ ?_; (· omega)) | (with_reducible refine ok_ite (fun _ => ?_) (fun _ => ?_))))
  refine ok_some ⟨by omega, by omega, ?_⟩
  funext c i
  rw [Int.toNat_natCast]
  unfold mup mfill
  by_cases h : c = a <;> by_cases h2 : i = k <;> by_cases h3 : i < k <;> simp [h, h2, h3] <;> omega
/-- after learn: the rows of marks say what is known -/
def Learnt (M : Mem) (known : Int) (M' : Mem) : Prop := ∀ t c q : Nat, t < 4 → c < 14 → q < 2 → M' 23 (56 * q + 14 * t + c) = rawM M t c q known
def eqB (M : Mem) : Prop := eqp 18 92 M ∧ eqp 19 93 M ∧ eqp 20 94 M ∧ eqp 21 95 M ∧ eqp 22 96 M
theorem c_learn {M : Mem} (h1 : A1 M) (h4 : A4 M) (h6 : C6 M) (hB : eqB M) (known : Int) : Okk (f_X5_learn known M) (fun M' => (∀ c i, c ≠ 23 → M' c i = M c i) ∧ Learnt M known M') := by
  have hn : (nMk M : Int) = M 80 15 := by unfold nMk; have := h4.2.1; omega
  have hb := h4.2.2
  have hk := h1.2.1
  unfold f_X5_learn
  refine ok_obn (c_fill 23 (by decide +kernel) (-1) M) (fun M1 hM1 => ?_)
  have ha : aln 23 = 112 := by decide +kernel
  rw [ha] at hM1
  refine ok_obn (P := fun s => (∀ c i, c ≠ 23 → s.2 c i = M c i) ∧ Learnt M known s.2) ?_ (fun s hs => ok_some hs)
  unfold f_X5_learn_l10
  refine ok_whl (nMk M) (fun k s => s.1 = (k : Int) ∧ (∀ c i, c ≠ 23 → s.2 c i = M c i) ∧ ∀ t c q : Nat, t < 4 → c < 14 → q < 2 → s.2 23 (56 * q + 14 * t + c) = rawS M t c q known k) (FU_big (by omega)) ⟨rfl, ?_, ?_⟩ ?_
  · intro c i hc; show M1 c i = M c i; rw [hM1]; exact if_neg (fun z => hc z.1)
  · intro t c q ht hc hq; show M1 23 _ = _; rw [hM1]; exact if_pos ⟨rfl, by omega⟩
  rintro k ⟨v2, M2⟩ hkk ⟨e2, hF, hL⟩
  dsimp only at e2 hF hL ⊢
  subst e2
  have r17 : M2 17 0 = M 80 15 := by rw [hF 17 0 (by decide)]; exact h4.1
  have g18 : M2 18 k = M 92 k := by rw [hF 18 k (by decide)]; exact hB.1 k
  have g19 : M2 19 k = M 93 k := by rw [hF 19 k (by decide)]; exact hB.2.1 k
  have g20 : M2 20 k = M 94 k := by rw [hF 20 k (by decide)]; exact hB.2.2.1 k
  have g21 : M2 21 k = M 95 k := by rw [hF 21 k (by decide)]; exact hB.2.2.2.1 k
  have g22 : M2 22 k = M 96 k := by rw [hF 22 k (by decide)]; exact hB.2.2.2.2 k
  unfold f_X5_learn_s10
  simp only [Int.toNat_natCast, r17, g18, g19, g20, g21, g22]
  refine ok_ite (fun hc => ok_some ?_) (fun hc => ?_)
  · have e : k = nMk M := by omega
    subst e; exact ⟨hF, hL⟩
  obtain ⟨q1, q2, q3, q4, q5⟩ := h6 k (by omega)
  have ew : wrap (wrap (wrap (wrap (M 94 k * 4) + M 92 k) * 14) + M 93 k) = 56 * M 94 k + 14 * M 92 k + M 93 k := by
    rw [wrap_of (x := M 94 k * 4) (by omega) (by omega), wrap_of (x := M 94 k * 4 + M 92 k) (by omega) (by omega), wrap_of (x := (M 94 k * 4 + M 92 k) * 14) (by omega) (by omega), wrap_of (by omega) (by omega)]
    omega
  rw [ew]
  refine ok_gd (by omega) ?_
  refine ok_ite (fun hd => ?_) (fun hd => ?_)
  · (repeat' (first | (with_reducible refine ok_ltw ?_ ?_; (· omega)) | (with_reducible refine ok_lt ?_) | (with_reducible refine ok_gd ?_ ?_; (· omega)) | (with_reducible refine ok_ite (fun _ => ?_) (fun _ => ?_))))
    refine ok_some ⟨by omega, by omega, hF, fun t c q ht hc hq => ?_⟩
    show M2 23 _ = (if _ then _ else _)
    rw [hL t c q ht hc hq, if_neg (by omega)]
  · (repeat' (first | (with_reducible refine ok_ltw ?_ ?_; (· omega)) | (with_reducible refine ok_lt ?_) | (with_reducible refine ok_gd ?_ ?_; (· omega)) | (with_reducible refine ok_ite (fun _ => ?_) (fun _ => ?_))))
    refine ok_some ⟨by omega, by omega, fun c i hc => ?_, fun t c q ht hc hq => ?_⟩
    · show mup _ _ _ _ _ _ = _
      unfold mup; rw [if_neg (fun z => hc z.1)]; exact hF c i hc
    · show mup _ _ _ _ _ _ = (if _ then _ else _)
      unfold mup
      by_cases h : M 92 k = t ∧ M 93 k = c ∧ M 94 k = q
      · rw [if_pos ⟨rfl, by omega⟩, if_pos ⟨h.1, h.2.1, h.2.2, by omega⟩]
      · rw [if_neg (fun z => h (by have := z.2; omega)), if_neg (fun z => h ⟨z.1, z.2.1, z.2.2.1⟩)]
        exact hL t c q ht hc hq
theorem raw_far {M : Mem} (h4 : A4 M) (h6 : C6 M) {c : Nat} (hc : M 80 1 ≤ (c : Int)) (t q known : Int) : rawM M t c q known = -1 := by
  have key : ∀ k : Nat, (k : Int) ≤ M 80 15 → rawS M t c q known k = -1 := by
    intro k
    induction k with
    | zero => intro _; rfl
    | succ k ih =>
      intro hk
      show (if _ then _ else _) = _
      have := (h6 k (by omega)).2.1
      rw [if_neg (by omega)]
      exact ih (by omega)
  exact key _ (by unfold nMk; have := h4.2.1; omega)
theorem cnt_far {p : Nat → Prop} [∀ k, Decidable (p k)] {n m : Nat} (h : n ≤ m) (hp : ∀ k, n ≤ k → k < m → ¬ p k) : cnt p m = cnt p n := by
  induction m with
  | zero => have : n = 0 := by omega
            subst this; rfl
  | succ m ih =>
    by_cases e : n = m + 1
    · subst e; rfl
    · rw [cnt_succ, if_neg (hp m (by omega) (by omega)), ih (by omega) (fun k h1 h2 => hp k h1 (by omega))]
      omega
