/-! rule: the class's TOKENS -/
section SCAN
variable {b : Nat → Int} {L : Nat} {M : Mem}
theorem TP.fr {M' : Mem} (T : TP b L M) (h0 : M' 24 0 = M 24 0) (h : ∀ i, M' 25 i = M 25 i) : TP b L M' := ⟨h0.trans T.1, T.2.1, fun i hi => by rw [h i]; exact T.2.2 i hi⟩
theorem c_add {c p v : Int} {t : Nat} (ht : M 24 2 = (t : Int)) (h4 : t < 401) : Okk (f_X9_add c p v M) (fun M' => (∀ x i, ¬ ((x = 24 ∧ i = 2) ∨ (26 ≤ x ∧ x ≤ 28 ∧ i = t)) → M' x i = M x i) ∧ M' 24 2 = ((t + 1 : Nat) : Int) ∧ M' 26 t = c ∧ M' 27 t = p ∧ M' 28 t = v) := by
  unfold f_X9_add
  rw [ht, toN]
  obtain ⟨M2, e2, f2, v2⟩ := mup_gen M 26 t c
  refine ok_ite_f (by omega) (ok_gd (by omega) (ok_lt ?_))
  rw [e2, f2 24 2 (by omega), ht, toN]
  obtain ⟨M3, e3, f3, v3⟩ := mup_gen M2 27 t p
  refine ok_gd (by omega) (ok_lt ?_)
  rw [e3, f3 24 2 (by omega), f2 24 2 (by omega), ht, toN]
  obtain ⟨M4, e4, f4, v4⟩ := mup_gen M3 28 t v
  refine ok_gd (by omega) (ok_lt ?_)
  rw [e4, f4 24 2 (by omega), f3 24 2 (by omega), f2 24 2 (by omega), ht, wrap_n1 (by omega)]
  obtain ⟨M5, e5, f5, v5⟩ := mup_gen M4 24 2 ((t + 1 : Nat) : Int)
  refine ok_lt ?_
  rw [e5]
  refine ok_some ⟨fun x i q => by rw [f5 x i (by omega), f4 x i (by omega), f3 x i (by omega), f2 x i (by omega)], v5, ?_, ?_, ?_⟩
  · rw [f5 26 t (by omega), f4 26 t (by omega), f3 26 t (by omega)]; exact v2
  · rw [f5 27 t (by omega), f4 27 t (by omega)]; exact v3
  · rw [f5 28 t (by omega)]; exact v4
/-- the number after k digits -/
def nvk (b : Nat → Int) (f : Nat) : Nat → Int
  | 0 => 0
  | 1 => b f - 48
  | _ + 2 => 10 * (b f - 48) + (b (f + 1) - 48)
theorem nvk_e {b : Nat → Int} {f e : Nat} (h : f < e) : nvk b f (e - f) = nvE b f e := by
  unfold nvE
  by_cases z : e = f + 1
  · rw [if_pos z, show e - f = 1 by omega]; rfl
  · rw [if_neg z, show e - f = (e - f - 2) + 2 by omega]; rfl
theorem nvk_b {b : Nat → Int} {f k : Nat} (h : ∀ j, j < k → isDg (b (f + j))) : 0 ≤ nvk b f k ∧ nvk b f k ≤ 99 := by
  match k, h with
  | 0, _ => show 0 ≤ (0 : Int) ∧ (0 : Int) ≤ 99; omega
  | 1, h => have := h 0 (by omega); rw [Nat.add_zero] at this; show 0 ≤ b f - 48 ∧ b f - 48 ≤ 99; omega
  | k + 2, h =>
    have h0 := h 0 (by omega)
    have h1 := h 1 (by omega)
    rw [Nat.add_zero] at h0
    show 0 ≤ 10 * (b f - 48) + (b (f + 1) - 48) ∧ 10 * (b f - 48) + (b (f + 1) - 48) ≤ 99
    omega
theorem dg_sp (b : Nat → Int) {L f : Nat} (hf : f ≤ L) : f ≤ dgE b L f ∧ dgE b L f ≤ L ∧ (∀ j, f ≤ j → j < dgE b L f → isDg (b j)) ∧ (dgE b L f < L → ¬ isDg (b (dgE b L f))) := by
  have := runE_sp (fun i => decide (isDg (b i))) (L - f) f
  unfold dgE
  exact ⟨this.1, by omega, fun j h1 h2 => of_decide_eq_true (this.2.2.1 j h1 h2), fun h => of_decide_eq_false (this.2.2.2 (by omega))⟩
theorem lt_sp (b : Nat → Int) {L f : Nat} (hf : f ≤ L) : f ≤ ltE b L f ∧ ltE b L f ≤ L ∧ (∀ j, f ≤ j → j < ltE b L f → isLt (b j)) ∧ (ltE b L f < L → ¬ isLt (b (ltE b L f))) := by
  have := runE_sp (fun i => decide (isLt (b i))) (L - f) f
  unfold ltE
  exact ⟨this.1, by omega, fun j h1 h2 => of_decide_eq_true (this.2.2.1 j h1 h2), fun h => of_decide_eq_false (this.2.2.2 (by omega))⟩
theorem sk_sp (b : Nat → Int) {L f : Nat} (hf : f ≤ L) : f ≤ skp b L f ∧ skp b L f ≤ L ∧ (∀ j, f ≤ j → j < skp b L f → isBl (b j)) ∧ (skp b L f < L → ¬ isBl (b (skp b L f))) := by
  have := runE_sp (fun i => decide (isBl (b i))) (L - f) f
  unfold skp
  exact ⟨this.1, by omega, fun j h1 h2 => of_decide_eq_true (this.2.2.1 j h1 h2), fun h => of_decide_eq_false (this.2.2.2 (by omega))⟩
theorem dg_eq {b : Nat → Int} {L f e : Nat} (h1 : f ≤ e) (h2 : e ≤ L) (h3 : ∀ j, f ≤ j → j < e → isDg (b j)) (h4 : e < L → ¬ isDg (b e)) : dgE b L f = e := by
  unfold dgE
  exact runE_eq h1 (by omega) (fun j a c => decide_eq_true (h3 j a c)) (fun a => decide_eq_false (h4 (by omega)))
theorem lt_eq {b : Nat → Int} {L f e : Nat} (h1 : f ≤ e) (h2 : e ≤ L) (h3 : ∀ j, f ≤ j → j < e → isLt (b j)) (h4 : e < L → ¬ isLt (b e)) : ltE b L f = e := by
  unfold ltE
  exact runE_eq h1 (by omega) (fun j a c => decide_eq_true (h3 j a c)) (fun a => decide_eq_false (h4 (by omega)))
theorem sk_eq {b : Nat → Int} {L f e : Nat} (h1 : f ≤ e) (h2 : e ≤ L) (h3 : ∀ j, f ≤ j → j < e → isBl (b j)) (h4 : e < L → ¬ isBl (b e)) : skp b L f = e := by
  unfold skp
  exact runE_eq h1 (by omega) (fun j a c => decide_eq_true (h3 j a c)) (fun a => decide_eq_false (h4 (by omega)))
theorem te_b {b : Nat → Int} {L f : Nat} (hf : f < L) : f < teE b L f ∧ teE b L f ≤ L := by
  unfold teE
  rw [if_neg (by omega)]
  by_cases h : isLt (b f)
  · rw [if_pos h]
    obtain ⟨a1, a2, a3, a4⟩ := lt_sp b (L := L) (f := f) (by omega)
    refine ⟨?_, a2⟩
    by_cases e : ltE b L f = f
    · rw [e] at a4; exact absurd h (a4 hf)
    · omega
  · rw [if_neg h]
    by_cases h2 : isDg (b f)
    · rw [if_pos h2]
      obtain ⟨a1, a2, a3, a4⟩ := dg_sp b (L := L) (f := f) (by omega)
      refine ⟨?_, a2⟩
      by_cases e : dgE b L f = f
      · rw [e] at a4; exact absurd h2 (a4 hf)
      · omega
    · rw [if_neg h2]; omega
/-- what scanning a TOKEN leaves -/
def Scd (b : Nat → Int) (L f t : Nat) (M M' : Mem) : Prop := (∀ x i, ¬ ((x = 24 ∧ i = 2) ∨ (26 ≤ x ∧ x ≤ 28 ∧ i = t)) → M' x i = M x i) ∧ M' 24 2 = ((t + 1 : Nat) : Int) ∧ M' 26 t = cdE b L f ∧ M' 27 t = (f : Int) ∧ M' 28 t = nmE b L f
theorem c_scanNumber (T : TP b L M) {f t : Nat} (hf : f < L) (hl : ¬ isLt (b f)) (hd : isDg (b f)) (ht : M 24 2 = (t : Int)) (h4 : t < 401) : Okk (f_X9_scanNumber f M) (fun q => q.1 = ((teE b L f - f : Nat) : Int) ∧ Scd b L f t M q.2) := by
  obtain ⟨h1, h2, h3⟩ := T
  have tb := te_b (b := b) hf
  have ete : teE b L f = dgE b L f := by unfold teE; rw [if_neg (by omega), if_neg hl, if_pos hd]
  have ecd : cdE b L f = if dgE b L f ≤ f + 2 then -3 else -2 := by unfold cdE; rw [if_neg (by omega), if_neg hl, if_pos hd]
  have enm : nmE b L f = nvE b f (dgE b L f) := by unfold nmE; rw [if_pos ⟨hf, hl, hd⟩]
  unfold f_X9_scanNumber
  refine ok_obn (P := fun s => s.1 = nvE b f (dgE b L f) ∧ s.2 = (dgE b L f : Int)) ?_ (fun s hs => ?_)
  · unfold f_X9_scanNumber_l4
    refine ok_whl (L - f) (fun k s => s.1 = nvk b f k ∧ s.2 = ((f + k : Nat) : Int) ∧ ∀ j, j < k → isDg (b (f + j))) (FU_big (by omega)) ⟨rfl, by show (f : Int) = _; omega, fun j hj => absurd hj (by omega)⟩ ?_
    rintro k ⟨v, w⟩ hk ⟨hv, hw, hj⟩
    dsimp only at hv hw hj ⊢
    subst hw
    have vb := nvk_b hj
    have stop : (f + k < L → ¬ isDg (b (f + k))) → v = nvE b f (dgE b L f) ∧ ((f + k : Nat) : Int) = (dgE b L f : Int) := fun hs => by
      have e := dg_eq (b := b) (L := L) (f := f) (e := f + k) (by omega) (by omega) (fun j a c => by have := hj (j - f) (by omega); rw [show f + (j - f) = j by omega] at this; exact this) hs
      have k0 : 0 < k := by
        apply Classical.byContradiction
        intro z
        have : k = 0 := by omega
        subst this
        exact hs hf hd
      rw [e, hv, ← nvk_e (by omega), show f + k - f = k by omega]
      exact ⟨rfl, rfl⟩
    unfold f_X9_scanNumber_s4
    rw [h1]
    refine ok_ite (fun z => ok_some (stop (fun y => by omega))) (fun z => ?_)
    have hfk : f + k < L := by omega
    rw [toN, (h3 _ hfk).1]
    refine ok_gd (by omega) (ok_b (c_isDigit _) (fun h => ?_) (fun h => ok_ite_t rfl (ok_some (stop (fun _ => h)))))
    refine ok_ite_f (by decide) ?_
    rw [wrap_of (x := (f : Int) + 2) (by omega) (by omega), wrap_n1 (by omega)]
    have nj : ∀ j, j < k + 1 → isDg (b (f + j)) := fun j hj' => by
      by_cases e : j = k
      · rw [e]; exact h
      · exact hj j (by omega)
    refine ok_ite (fun h5 => ok_lt (ok_some ⟨by omega, ?_, by show ((f + k + 1 : Nat) : Int) = _; omega, nj⟩)) (fun h5 => ok_gd (by omega) ?_)
    · try dsimp only
      obtain ⟨k2, rfl⟩ : ∃ k2, k = k2 + 2 := ⟨k - 2, by omega⟩
      exact hv
    · have e10 : wrap (wrap (wrap (10 * v) + b (f + k)) - 48) = nvk b f (k + 1) := by
        rw [hv, wrap_of (x := 10 * nvk b f k) (by omega) (by omega), wrap_of (x := 10 * nvk b f k + b (f + k)) (by omega) (by omega), wrap_of (by omega) (by omega)]
        by_cases e0 : k = 0
        · subst e0; show 10 * (0 : Int) + b (f + 0) - 48 = b f - 48; rw [Nat.add_zero]; omega
        · have e1 : k = 1 := by omega
          subst e1
          show 10 * (b f - 48) + b (f + 1) - 48 = 10 * (b f - 48) + (b (f + 1) - 48)
          omega
      rw [e10]
      exact ok_lt (ok_lt (ok_some ⟨by omega, rfl, by show ((f + k + 1 : Nat) : Int) = _; omega, nj⟩))
  · obtain ⟨v, w⟩ := s
    obtain ⟨hv, hw⟩ := hs
    dsimp only at hv hw ⊢
    subst hv hw
    unfold f_X9_scanNumber_j52
    rw [wrap_of (x := (f : Int) + 2) (by omega) (by omega), wrap_of (x := (dgE b L f : Int) - (f : Int)) (by omega) (by omega)]
    refine ok_ite (fun z => ok_obn (c_add (c := -3) (p := f) (v := nvE b f (dgE b L f)) ht h4) (fun M' hM' => ok_some ⟨by show (dgE b L f : Int) - (f : Int) = _; omega, ?_⟩)) (fun z => ok_obn (c_add (c := -2) (p := f) (v := nvE b f (dgE b L f)) ht h4) (fun M' hM' => ok_some ⟨by show (dgE b L f : Int) - (f : Int) = _; omega, ?_⟩))
    · exact ⟨hM'.1, hM'.2.1, by rw [ecd, if_pos (by omega)]; exact hM'.2.2.1, hM'.2.2.2.1, by rw [enm]; exact hM'.2.2.2.2⟩
    · exact ⟨hM'.1, hM'.2.1, by rw [ecd, if_neg (by omega)]; exact hM'.2.2.1, hM'.2.2.2.1, by rw [enm]; exact hM'.2.2.2.2⟩
theorem c_scanToken (T : TP b L M) {f t : Nat} (hf : f < L) (ht : M 24 2 = (t : Int)) (h4 : t < 401) : Okk (f_X9_scanToken f M) (fun q => q.1 = ((teE b L f - f : Nat) : Int) ∧ Scd b L f t M q.2) := by
  have TT := T
  obtain ⟨h1, h2, h3⟩ := T
  have tb := te_b (b := b) hf
  unfold f_X9_scanToken
  rw [toN, (h3 f hf).1]
  refine ok_gd (by omega) (ok_lt (ok_b (c_isLetter _) (fun hl => ?_) (fun hl => ?_)))
  · refine ok_ite_f (by decide) ?_
    have ete : teE b L f = ltE b L f := by unfold teE; rw [if_neg (by omega), if_pos hl]
    have ecd : cdE b L f = wdC b f (ltE b L f - f) := by unfold cdE; rw [if_neg (by omega), if_pos hl]
    have enm : nmE b L f = 0 := by unfold nmE; rw [if_neg (fun z => z.2.1 hl)]
    refine ok_obn (P := fun s => s = (ltE b L f : Int)) ?_ (fun s hs => ?_)
    · unfold f_X9_scanToken_l16
      refine ok_whl (L - f) (fun k s => s = ((f + k : Nat) : Int) ∧ ∀ j, j < k → isLt (b (f + j))) (FU_big (by omega)) ⟨by omega, fun j hj => absurd hj (by omega)⟩ ?_
      rintro k w hk ⟨hw, hj⟩
      subst hw
      have stop : (f + k < L → ¬ isLt (b (f + k))) → ((f + k : Nat) : Int) = (ltE b L f : Int) := fun hs => by
        rw [lt_eq (b := b) (L := L) (f := f) (e := f + k) (by omega) (by omega) (fun j a c => by have := hj (j - f) (by omega); rw [show f + (j - f) = j by omega] at this; exact this) hs]
      unfold f_X9_scanToken_s16
      rw [h1]
      refine ok_ite (fun z => ok_some (stop (fun y => by omega))) (fun z => ?_)
      have hfk : f + k < L := by omega
      rw [toN, (h3 _ hfk).1, wrap_n1 (by omega)]
      refine ok_gd (by omega) (ok_b (c_isLetter _) (fun h => ok_ite_f (by decide) (ok_lt (ok_some ⟨by omega, by show ((f + k + 1 : Nat) : Int) = _; omega, fun j hj' => ?_⟩))) (fun h => ok_ite_t rfl (ok_some (stop (fun _ => h)))))
      by_cases e : j = k
      · rw [e]; exact h
      · exact hj j (by omega)
    · subst hs
      unfold f_X9_scanToken_j42
      have e1 : wrap ((ltE b L f : Int) - (f : Int)) = ((ltE b L f - f : Nat) : Int) := by rw [wrap_of (by omega) (by omega)]; omega
      rw [e1]
      refine ok_be (c_wordCode TT (by omega)) (ok_obn (c_add (c := wdC b f (ltE b L f - f)) (p := f) (v := 0) ht h4) (fun M' hM' => ok_some ⟨by rw [ete], hM'.1, hM'.2.1, by rw [ecd]; exact hM'.2.2.1, hM'.2.2.2.1, by rw [enm]; exact hM'.2.2.2.2⟩))
  · refine ok_ite_t rfl (ok_b (c_isDigit _) (fun hd => ?_) (fun hd => ?_))
    · refine ok_ite_f (by decide) (ok_bnd (c_scanNumber TT hf hl hd ht h4) (fun r N hr => ok_some hr))
    · refine ok_ite_t rfl ?_
      have ete : teE b L f = f + 1 := by unfold teE; rw [if_neg (by omega), if_neg hl, if_neg hd]
      have ecd : cdE b L f = if isSg (b f) then b f else -2 := by unfold cdE; rw [if_neg (by omega), if_neg hl, if_neg hd]
      have enm : nmE b L f = 0 := by unfold nmE; rw [if_neg (fun z => hd z.2.2)]
      have yes : isSg (b f) → Okk (f_X9_scanToken_j108 f (b f) 1 M) (fun q => q.1 = ((teE b L f - f : Nat) : Int) ∧ Scd b L f t M q.2) := fun z => by
        unfold f_X9_scanToken_j108
        exact ok_ite_f (by decide) (ok_obn (c_add (c := b f) (p := f) (v := 0) ht h4) (fun M' hM' => ok_some ⟨by rw [ete]; show (1 : Int) = _; omega, hM'.1, hM'.2.1, by rw [ecd, if_pos z]; exact hM'.2.2.1, hM'.2.2.2.1, by rw [enm]; exact hM'.2.2.2.2⟩))
      have nope : ¬ isSg (b f) → Okk (f_X9_scanToken_j108 f (b f) 0 M) (fun q => q.1 = ((teE b L f - f : Nat) : Int) ∧ Scd b L f t M q.2) := fun z => by
        unfold f_X9_scanToken_j108
        exact ok_ite_t rfl (ok_obn (c_add (c := -2) (p := f) (v := 0) ht h4) (fun M' hM' => ok_some ⟨by rw [ete]; show (1 : Int) = _; omega, hM'.1, hM'.2.1, by rw [ecd, if_neg z]; exact hM'.2.2.1, hM'.2.2.2.1, by rw [enm]; exact hM'.2.2.2.2⟩))
      exact ok_ite (fun q => yes (by omega)) (fun q1 => ok_ite (fun q => yes (by omega)) (fun q2 => ok_ite (fun q => yes (by omega)) (fun q3 => ok_ite (fun q => yes (by omega)) (fun q4 => ok_ite (fun q => yes (by omega)) (fun q5 => nope (by omega))))))
/-- the class's TOKENS, all of them: T is the last one's number -/
def LX (b : Nat → Int) (L T : Nat) (M : Mem) : Prop := M 24 2 = ((T + 1 : Nat) : Int) ∧ T ≤ 400 ∧ stk b L T = L ∧ (∀ i, i < T → stk b L i < L) ∧ ∀ i, i ≤ T → M 26 i = cdE b L (stk b L i) ∧ M 27 i = (stk b L i : Int) ∧ M 28 i = nmE b L (stk b L i)
theorem sk_next {f : Nat} (hf : f < L) (hb : isBl (b f)) : skp b L f = skp b L (f + 1) := by
  obtain ⟨a1, a2, a3, a4⟩ := sk_sp b (L := L) (f := f + 1) (by omega)
  exact sk_eq (by omega) a2 (fun j h1 h2 => by
    by_cases e : j = f
    · rw [e]; exact hb
    · exact a3 j (by omega) h2) a4
theorem sk_stay {f : Nat} (hf : f ≤ L) (hb : f < L → ¬ isBl (b f)) : skp b L f = f := sk_eq (Nat.le_refl _) hf (fun j h1 h2 => absurd h1 (by omega)) hb
theorem c_scan (T : TP b L M) : Okk (f_X9_scan M) (fun M' => (∀ x i, ¬ ((x = 24 ∧ i = 2) ∨ (26 ≤ x ∧ x ≤ 28)) → M' x i = M x i) ∧ ∃ t, LX b L t M') := by
  have hL := T.2.1
  unfold f_X9_scan
  obtain ⟨M1, e1, f1, v1⟩ := mup_gen M 24 2 0
  refine ok_lt ?_
  rw [e1]
  have T1 : TP b L M1 := T.fr (f1 24 0 (by omega)) (fun i => f1 25 i (by omega))
  refine ok_obn (P := fun s => (∀ x i, ¬ ((x = 24 ∧ i = 2) ∨ (26 ≤ x ∧ x ≤ 28)) → s.2 x i = M x i) ∧ ∃ t : Nat, t ≤ 400 ∧ s.2 24 2 = (t : Int) ∧ stk b L t = L ∧ (∀ i, i < t → stk b L i < L) ∧ ∀ i, i < t → s.2 26 i = cdE b L (stk b L i) ∧ s.2 27 i = (stk b L i : Int) ∧ s.2 28 i = nmE b L (stk b L i)) ?_ (fun s hs => ?_)
  · unfold f_X9_scan_l9
    refine ok_whl L (fun k s => ∃ at' t : Nat, s.1 = (at' : Int) ∧ k ≤ at' ∧ at' ≤ L ∧ t ≤ at' ∧ (∀ x i, ¬ ((x = 24 ∧ i = 2) ∨ (26 ≤ x ∧ x ≤ 28)) → s.2 x i = M x i) ∧ s.2 24 2 = (t : Int) ∧ stk b L t = skp b L at' ∧ (∀ i, i < t → stk b L i < L) ∧ ∀ i, i < t → s.2 26 i = cdE b L (stk b L i) ∧ s.2 27 i = (stk b L i : Int) ∧ s.2 28 i = nmE b L (stk b L i)) (FU_big (by omega)) ⟨0, 0, rfl, Nat.le_refl _, Nat.zero_le _, Nat.le_refl _, fun x i q => f1 x i (by omega), v1, rfl, fun i hi => absurd hi (by omega), fun i hi => absurd hi (by omega)⟩ ?_
    rintro k ⟨v, N⟩ hk ⟨p, t, hv, hkp, hpL, htp, hf, h24, hst, hlt, hal⟩
    dsimp only at hv hf h24 hal ⊢
    subst hv
    have TN : TP b L N := T.fr (hf 24 0 (by omega)) (fun i => hf 25 i (by omega))
    unfold f_X9_scan_s9
    rw [TN.1]
    refine ok_ite (fun z => ok_some ?_) (fun z => ?_)
    · have e : p = L := by omega
      subst e
      refine ⟨hf, t, by omega, h24, ?_, hlt, hal⟩
      rw [hst]; exact sk_stay (Nat.le_refl _) (fun y => absurd y (by omega))
    have hp : p < L := by omega
    have blank : isBl (b p) → Okk (f_X9_scan_j44k9 (p : Int) 1 N) (inS (fun s => k < L ∧ ∃ at' t : Nat, s.1 = (at' : Int) ∧ k + 1 ≤ at' ∧ at' ≤ L ∧ t ≤ at' ∧ (∀ x i, ¬ ((x = 24 ∧ i = 2) ∨ (26 ≤ x ∧ x ≤ 28)) → s.2 x i = M x i) ∧ s.2 24 2 = (t : Int) ∧ stk b L t = skp b L at' ∧ (∀ i, i < t → stk b L i < L) ∧ ∀ i, i < t → s.2 26 i = cdE b L (stk b L i) ∧ s.2 27 i = (stk b L i : Int) ∧ s.2 28 i = nmE b L (stk b L i)) (fun s : Int × Mem => (∀ x i, ¬ ((x = 24 ∧ i = 2) ∨ (26 ≤ x ∧ x ≤ 28)) → s.2 x i = M x i) ∧ ∃ t : Nat, t ≤ 400 ∧ s.2 24 2 = (t : Int) ∧ stk b L t = L ∧ (∀ i, i < t → stk b L i < L) ∧ ∀ i, i < t → s.2 26 i = cdE b L (stk b L i) ∧ s.2 27 i = (stk b L i : Int) ∧ s.2 28 i = nmE b L (stk b L i))) := fun hb => by
      unfold f_X9_scan_j44k9
      refine ok_ite_f (by decide) ?_
      rw [if_neg (show ¬ (1 : Nat) < 1 by omega), wrap_n1 (by omega)]
      exact ok_lt (ok_some ⟨by omega, p + 1, t, rfl, by omega, by omega, by omega, hf, h24, hst.trans (sk_next hp hb), hlt, hal⟩)
    rw [toN, (TN.2.2 p hp).1]
    refine ok_gd (by omega) (ok_ite (fun h32 => blank (Or.inl h32)) (fun h32 => ok_gd (by omega) (ok_ite (fun h10 => blank (Or.inr h10)) (fun h10 => ?_))))
    have nb : ¬ isBl (b p) := fun q => by rcases q with q | q <;> contradiction
    have es : stk b L t = p := hst.trans (sk_stay hpL (fun _ => nb))
    unfold f_X9_scan_j44k9
    refine ok_ite_t rfl (ok_bnd (c_scanToken TN hp h24 (by omega)) (fun r N2 hr => ?_))
    obtain ⟨hr, s1, s2, s3, s4, s5⟩ := hr
    dsimp only at hr s1 s2 s3 s4 s5 ⊢
    have tb := te_b (b := b) hp
    have e1 : (if (1 : Int) < r then r else 1) = ((teE b L p - p : Nat) : Int) := by rw [hr]; split <;> omega
    rw [e1, nA, wrap_of (by omega) (by omega), show p + (teE b L p - p) = teE b L p by omega]
    refine ok_lt (ok_some ⟨by omega, teE b L p, t + 1, rfl, by omega, by omega, by omega, fun x i q => ?_, s2, ?_, fun i hi => ?_, fun i hi => ?_⟩)
    · try dsimp only
      rw [s1 x i (by omega)]; exact hf x i q
    · show skp b L (teE b L (stk b L t)) = _
      rw [es]
    · by_cases e : i = t
      · rw [e, es]; exact hp
      · exact hlt i (by omega)
    · try dsimp only
      by_cases e : i = t
      · rw [e, es]; exact ⟨s3, s4, s5⟩
      · rw [s1 26 i (by omega), s1 27 i (by omega), s1 28 i (by omega)]; exact hal i (by omega)
  · obtain ⟨u, N⟩ := s
    obtain ⟨hf, t, ht, h24, hst, hlt, hal⟩ := hs
    dsimp only at hf h24 hal ⊢
    have TN : TP b L N := T.fr (hf 24 0 (by omega)) (fun i => hf 25 i (by omega))
    unfold f_X9_scan_j70
    rw [TN.1]
    refine ok_obn (c_add (c := -1) (p := (L : Int)) (v := 0) h24 (by omega)) (fun M' hM' => ok_some ⟨fun x i q => by rw [hM'.1 x i (by omega)]; exact hf x i q, t, hM'.2.1, ht, hst, hlt, fun i hi => ?_⟩)
    by_cases e : i = t
    · rw [e, hst]
      have c1 : cdE b L L = -1 := by unfold cdE; rw [if_pos (Nat.le_refl _)]
      have c2 : nmE b L L = 0 := by unfold nmE; rw [if_neg (fun z => absurd z.1 (by omega))]
      rw [c1, c2]
      exact ⟨hM'.2.2.1, hM'.2.2.2.1, hM'.2.2.2.2⟩
    · rw [hM'.1 26 i (by omega), hM'.1 27 i (by omega), hM'.1 28 i (by omega)]
      exact hal i (by omega)
end SCAN
