/-! marks: RAW, SCALED -/
def rawS (M : Mem) (t c q known : Int) : Nat → Int
  | 0 => -1
  | k + 1 => if M 92 k = t ∧ M 93 k = c ∧ M 94 k = q ∧ M 96 k ≤ known then M 95 k else rawS M t c q known k
def nMk (M : Mem) : Nat := (M 80 15).toNat
def nK (M : Mem) : Nat := (M 80 1).toNat
abbrev rawM (M : Mem) (t c q known : Int) : Int := rawS M t c q known (nMk M)
theorem m_raw {M : Mem} (h4 : A4 M) (t c q known : Int) : Okk (f_X11_raw t c q known M) (fun r => r = rawM M t c q known) := by
  have hn : (nMk M : Int) = M 80 15 := by unfold nMk; have := h4.2.1; omega
  have hb := h4.2.2
  unfold f_X11_raw
  refine ok_obn (P := fun s => s.1 = rawM M t c q known) ?_ (fun s hs => ok_some hs)
  unfold f_X11_raw_l6
  refine ok_whl (nMk M) (fun k s => s.2 = (k : Int) ∧ s.1 = rawS M t c q known k) (FU_big (by omega)) ⟨rfl, rfl⟩ ?_
  rintro k ⟨v5, v6⟩ hk ⟨h6, h5⟩
  dsimp only at h5 h6 ⊢
  subst h5 h6
  unfold f_X11_raw_s6
  simp only [Int.toNat_natCast]
  refine ok_ite (fun hc => ok_some ?_) (fun hc => ?_)
  · have e : k = nMk M := by omega
    subst e; exact rfl
  (repeat' (first | (with_reducible refine ok_ltw ?_ ?_; (· omega)) | (with_reducible refine ok_lt ?_) | (with_reducible refine ok_gd ?_ ?_; (· omega)) | (with_reducible refine ok_ite (fun _ => ?_) (fun _ => ?_))))
  all_goals refine ok_some (And.intro (by omega) (And.intro (by simp) ?_))
  all_goals (simp only [rawS]; split <;> first | rfl | (exfalso; omega))
def cnt (p : Nat → Prop) [∀ k, Decidable (p k)] (n : Nat) : Int := fb_si (fun k => if p k then 1 else 0) n
theorem cnt_succ (p : Nat → Prop) [∀ k, Decidable (p k)] (n : Nat) : cnt p (n + 1) = cnt p n + if p n then 1 else 0 := rfl
theorem cnt_b (p : Nat → Prop) [∀ k, Decidable (p k)] : ∀ n, 0 ≤ cnt p n ∧ cnt p n ≤ n
  | 0 => ⟨Int.le_refl _, Int.le_refl _⟩
  | n + 1 => by
    have := cnt_b p n
    rw [cnt_succ]
    split <;> omega
theorem cnt_congr {p q : Nat → Prop} [∀ k, Decidable (p k)] [∀ k, Decidable (q k)] {n : Nat} (h : ∀ k, k < n → (p k ↔ q k)) : cnt p n = cnt q n :=
  fb_si_cong (fun k hk => by by_cases hp : p k <;> simp [hp, ← h k hk])
def scAll (M : Mem) (t c q known : Int) (n : Nat) : Int := cnt (fun o => (o : Int) ≠ c ∧ rawM M t o q known ≠ -1) n
def scLow (M : Mem) (t c q known : Int) (n : Nat) : Int := cnt (fun o => (o : Int) ≠ c ∧ rawM M t o q known ≠ -1 ∧ rawM M t o q known < rawM M t c q known) n
def scaledS (M : Mem) (t c q known : Int) : Int := if rawM M t c q known = -1 then -1 else if scAll M t c q known (nK M) = 0 then 5 else jdiv (10 * scLow M t c q known (nK M)) (scAll M t c q known (nK M))
theorem m_scaledOf {M : Mem} (h1 : A1 M) (h4 : A4 M) (t c q known : Int) : Okk (f_X11_scaledOf t c q known M) (fun r => r = scaledS M t c q known) := by
  have hn : (nK M : Int) = M 80 1 := by unfold nK; have := h1.1; omega
  have hb := h1.2.1
  unfold f_X11_scaledOf
  refine ok_obn (m_raw h4 t c q known) (fun r hr => ?_)
  subst hr
  refine ok_ite (fun hc => ok_some ?_) (fun hc => ?_)
  · unfold scaledS; rw [if_pos hc]
  refine ok_obn (P := fun s => s.1 = scLow M t c q known (nK M) ∧ s.2.1 = scAll M t c q known (nK M)) ?_ ?_
  · unfold f_X11_scaledOf_l28
    refine ok_whl (nK M) (fun k s => s.2.2 = (k : Int) ∧ s.1 = scLow M t c q known k ∧ s.2.1 = scAll M t c q known k) (FU_big (by omega)) ⟨rfl, rfl, rfl⟩ ?_
    rintro k ⟨v6, v7, v8⟩ hk ⟨h8, h6, h7⟩
    dsimp only at h6 h7 h8 ⊢
    subst h6 h7 h8
    have b1 := cnt_b (fun o : Nat => (o : Int) ≠ c ∧ rawM M t o q known ≠ -1) k
    have b2 := cnt_b (fun o : Nat => (o : Int) ≠ c ∧ rawM M t o q known ≠ -1 ∧ rawM M t o q known < rawM M t c q known) k
    unfold f_X11_scaledOf_s28
    refine ok_ite (fun hc2 => ok_some ?_) (fun hc2 => ?_)
    · have e : k = nK M := by omega
      subst e; exact ⟨rfl, rfl⟩
    have step : ∀ v : Int, v = (if (k : Int) = c then -1 else rawM M t k q known) → Okk (f_X11_scaledOf_j57k28 t c q known (rawM M t c q known) (scLow M t c q known k) (scAll M t c q known k) k v M) (inS (fun s' => k < nK M ∧ s'.2.2 = ((k + 1 : Nat) : Int) ∧ s'.1 = scLow M t c q known (k + 1) ∧ s'.2.1 = scAll M t c q known (k + 1)) (fun s => s.1 = scLow M t c q known (nK M) ∧ s.2.1 = scAll M t c q known (nK M))) := by
      intro v hv
      unfold scLow scAll at *
      unfold f_X11_scaledOf_j57k28
      (repeat' (first | (with_reducible refine ok_ltw ?_ ?_; (· omega)) | (with_reducible refine ok_lt ?_) | (with_reducible refine ok_gd ?_ ?_; (· omega)) | (with_reducible refine ok_ite (fun _ => ?_) (fun _ => ?_))))
      all_goals unfold f_X11_scaledOf_j72k28
      (repeat' (first | (with_reducible refine ok_ltw ?_ ?_; (· omega)) | (with_reducible refine ok_lt ?_) | (with_reducible refine ok_gd ?_ ?_; (· omega)) | (with_reducible refine ok_ite (fun _ => ?_) (fun _ => ?_))))
      all_goals (refine ok_some ?_; dsimp only [inS]; refine ⟨by omega, by omega, ?_, ?_⟩)
      all_goals (simp only [cnt_succ]; split <;> first | omega | (exfalso; revert hv; split <;> intro hv <;> omega))
    refine ok_ite (fun h => step _ (by rw [if_pos h])) (fun h => ?_)
    exact ok_obn (m_raw h4 t k q known) (fun r hr => step _ (by rw [if_neg h]; exact hr))
  · rintro ⟨v6, v7, v8⟩ ⟨e6, e7⟩
    dsimp only at e6 e7 ⊢
    subst e6 e7
    have b2 := cnt_b (fun o : Nat => (o : Int) ≠ c ∧ rawM M t o q known ≠ -1 ∧ rawM M t o q known < rawM M t c q known) (nK M)
    unfold f_X11_scaledOf_j104
    refine ok_ite (fun h => ok_some ?_) (fun h => ok_gd h (ok_some ?_))
    · unfold scaledS; rw [if_neg hc, if_pos h]
    · have e : wrap (10 * scLow M t c q known (nK M)) = 10 * scLow M t c q known (nK M) := by unfold scLow; rw [wrap_of (by omega) (by omega)]
      unfold scaledS; rw [if_neg hc, if_neg h, e]
theorem jdiv_n {x y : Int} (hx : 0 ≤ x) (hx2 : x < 2147483648) (hy : 0 < y) (hy2 : y < 2147483648) : jdiv x y = x / y := by
  unfold jdiv
  rw [Int32.toInt_div, i2_toInt ⟨by omega, hx2⟩, i2_toInt ⟨by omega, hy2⟩, Int.tdiv_eq_ediv_of_nonneg hx]
  have h1 : 0 ≤ x / y := Int.ediv_nonneg hx (by omega)
  have h2 : x / y ≤ x := Int.ediv_le_self y hx
  rw [Int.bmod_def]
  split <;> omega
theorem jdiv_b {x y b : Int} (hx : 0 ≤ x) (hx2 : x < 2147483648) (hy : 0 < y) (hy2 : y < 2147483648) (h : x ≤ b * y) : 0 ≤ jdiv x y ∧ jdiv x y ≤ b := by
  rw [jdiv_n hx hx2 hy hy2]
  exact ⟨Int.ediv_nonneg hx (by omega), by
    have := Int.ediv_le_ediv hy h
    rw [Int.mul_ediv_cancel b (by omega)] at this
    exact this⟩
theorem scaled_b (M : Mem) (hk : nK M ≤ 14) (t c q known : Int) : -1 ≤ scaledS M t c q known ∧ scaledS M t c q known ≤ 10 := by
  have b1 : 0 ≤ scAll M t c q known (nK M) ∧ scAll M t c q known (nK M) ≤ nK M := cnt_b _ _
  have b2 : 0 ≤ scLow M t c q known (nK M) ∧ scLow M t c q known (nK M) ≤ nK M := cnt_b _ _
  have b3 : scLow M t c q known (nK M) ≤ scAll M t c q known (nK M) := by
    unfold scLow scAll
    generalize nK M = n
    induction n with
    | zero => exact Int.le_refl _
    | succ n ih =>
      rw [cnt_succ, cnt_succ]
      split <;> split <;> first | omega
  unfold scaledS
  split
  · omega
  · split
    · omega
    · have := jdiv_b (x := 10 * scLow M t c q known (nK M)) (y := scAll M t c q known (nK M)) (b := 10) (by omega) (by omega) (by omega) (by omega) (by omega)
      omega
def tgSum (M : Mem) (c q known : Int) (n : Nat) : Int := fb_si (fun t => if scaledS M t c q known = -1 then 0 else scaledS M t c q known) n
def tgCnt (M : Mem) (c q known : Int) (n : Nat) : Int := cnt (fun t => scaledS M t c q known ≠ -1) n
def togetherS (M : Mem) (c q known : Int) : Int := if tgCnt M c q known 4 = 0 then -1 else jdiv (tgSum M c q known 4) (tgCnt M c q known 4)
theorem tgSum_b (M : Mem) (hk : nK M ≤ 14) (c q known : Int) : ∀ n : Nat, 0 ≤ tgSum M c q known n ∧ tgSum M c q known n ≤ 10 * tgCnt M c q known n
  | 0 => ⟨Int.le_refl _, Int.le_refl _⟩
  | n + 1 => by
    have ih := tgSum_b M hk c q known n
    have b := scaled_b M hk n c q known
    have e1 : tgSum M c q known (n + 1) = tgSum M c q known n + if scaledS M n c q known = -1 then 0 else scaledS M n c q known := rfl
    have e2 : tgCnt M c q known (n + 1) = tgCnt M c q known n + if scaledS M n c q known ≠ -1 then 1 else 0 := rfl
    by_cases h : scaledS M n c q known = -1
    · rw [if_pos h] at e1; rw [if_neg (fun z => z h)] at e2; omega
    · rw [if_neg h] at e1; rw [if_pos h] at e2; omega
theorem together_b (M : Mem) (hk : nK M ≤ 14) (c q known : Int) : -1 ≤ togetherS M c q known ∧ togetherS M c q known ≤ 10 := by
  have b1 := tgSum_b M hk c q known 4
  have b2 : 0 ≤ tgCnt M c q known 4 ∧ tgCnt M c q known 4 ≤ (4 : Nat) := cnt_b _ _
  unfold togetherS
  split
  · omega
  · have := jdiv_b (x := tgSum M c q known 4) (y := tgCnt M c q known 4) (b := 10) (by omega) (by omega) (by omega) (by omega) (by omega)
    omega
theorem m_together {M : Mem} (h1 : A1 M) (h4 : A4 M) (c q known : Int) : Okk (f_X11_together c q known M) (fun r => r = togetherS M c q known) := by
  have hk : nK M ≤ 14 := by unfold nK; have := h1.2.1; omega
  unfold f_X11_together
  refine ok_obn (P := fun s => s.1 = tgSum M c q known 4 ∧ s.2.1 = tgCnt M c q known 4) ?_ ?_
  · unfold f_X11_together_l9
    refine ok_whl 4 (fun k s => s.2.2 = (k : Int) ∧ s.1 = tgSum M c q known k ∧ s.2.1 = tgCnt M c q known k) (FU_big (by omega)) ⟨rfl, rfl, rfl⟩ ?_
    rintro k ⟨v6, v7, v8⟩ hkk ⟨h8, h6, h7⟩
    dsimp only at h6 h7 h8 ⊢
    subst h6 h7 h8
    unfold f_X11_together_s9
    refine ok_ite (fun hc2 => ok_some ?_) (fun hc2 => ?_)
    · have e : k = 4 := by omega
      subst e; exact ⟨rfl, rfl⟩
    have b1 := tgSum_b M hk c q known k
    have b2 : 0 ≤ tgCnt M c q known k ∧ tgCnt M c q known k ≤ k := cnt_b _ _
    have b3 := scaled_b M hk k c q known
    have e1 : tgSum M c q known (k + 1) = tgSum M c q known k + if scaledS M k c q known = -1 then 0 else scaledS M k c q known := rfl
    have e2 : tgCnt M c q known (k + 1) = tgCnt M c q known k + if scaledS M k c q known ≠ -1 then 1 else 0 := rfl
    refine ok_obn (m_scaledOf h1 h4 k c q known) (fun r hr => ?_)
    subst hr
    unfold f_X11_together_j40k9
    refine ok_ite (fun h => ?_) (fun h => ?_)
    · rw [if_pos h] at e1
      rw [if_neg (fun z => z h)] at e2
      refine ok_ltw (by omega) ?_
      refine ok_ite_t h ?_
      (repeat' (first | (with_reducible refine ok_ltw ?_ ?_; (· omega)) | (with_reducible refine ok_lt ?_) | (with_reducible refine ok_gd ?_ ?_; (· omega)) | (with_reducible refine ok_ite (fun _ => ?_) (fun _ => ?_))))
      (refine ok_some ?_; dsimp only [inS]; exact ⟨by omega, by omega, by omega, by omega⟩)
    · rw [if_neg h] at e1
      rw [if_pos h] at e2
      refine ok_ltw (by omega) ?_
      refine ok_ite_f h ?_
      (repeat' (first | (with_reducible refine ok_ltw ?_ ?_; (· omega)) | (with_reducible refine ok_lt ?_) | (with_reducible refine ok_gd ?_ ?_; (· omega)) | (with_reducible refine ok_ite (fun _ => ?_) (fun _ => ?_))))
      (refine ok_some ?_; dsimp only [inS]; exact ⟨by omega, by omega, by omega, by omega⟩)
  · rintro ⟨v6, v7, v8⟩ ⟨e6, e7⟩
    dsimp only at e6 e7 ⊢
    subst e6 e7
    unfold f_X11_together_j65
    refine ok_ite (fun h => ok_some ?_) (fun h => ok_gd h (ok_some ?_))
    · unfold togetherS; rw [if_pos h]
    · unfold togetherS; rw [if_neg h]
