/-! the class: the judge made ready -/
theorem mup_s (M : Mem) (c i : Nat) (v : Int) : mup M c i v c i = v := if_pos ⟨rfl, rfl⟩
theorem mup_o (M : Mem) {c i c' i' : Nat} (v : Int) (h : ¬ (c' = c ∧ i' = i)) : mup M c i v c' i' = M c' i' := if_neg h
theorem CF.fe {B M : Mem} (h : CF B M) : FE B M := fun c i q => h.2 c i (by unfold isF at q; unfold isC; omega)
theorem CF.eqB {B M : Mem} (h : CF B M) : eqB M := ⟨h.fa.e18, h.fa.e19, h.fa.e20, h.fa.e21, h.fa.e22⟩
theorem c_learn2 {B M : Mem} (H : CF B M) (known : Int) : Okk (f_X5_learn known M) (fun M' => (∀ c i, c ≠ 23 → M' c i = M c i) ∧ Learnt B known M') :=
  ok_mono (c_learn H.fa.a1 H.fa.a4 H.fa.c6 H.eqB known) (fun M' h => ⟨h.1, fun t c q ht hc hq => (h.2 t c q ht hc hq).trans (fe_raw H.fe _ _ _ _)⟩)
theorem c_traitOf {B M : Mem} {known : Int} (H : CF B M) (hL : Learnt B known M) {w c : Nat} (hw : w < 7) (hc : c < nK B) : f_X4_traitOf w c M = some (toldS B known c w) := by
  have h14 := H.1.n14
  apply ok_to
  unfold f_X4_traitOf
  by_cases h6 : w = 6
  · subst h6
    exact ok_ite_t (by omega) (ok_e (c_naming H c) (ok_some rfl))
  refine ok_ite_f (by omega) ?_
  by_cases h0 : w = 0
  · subst h0
    exact ok_ite_t (by omega) (ok_gd (by omega) (ok_some (by rw [toN, H.w4]; rfl)))
  refine ok_ite_f (by omega) ?_
  by_cases h1 : w = 1
  · subst h1
    exact ok_ite_t (by omega) (ok_gd (by omega) (ok_some (by rw [toN, H.w5]; rfl)))
  refine ok_ite_f (by omega) ?_
  by_cases h2 : w = 2
  · subst h2
    exact ok_ite_t (by omega) (ok_e (ok_to (c_level H.1.a1 H.1.a4 H.1.c6 hL (c := c) (q := 0) (by omega) (by omega))) (ok_some rfl))
  refine ok_ite_f (by omega) ?_
  by_cases h3 : w = 3
  · subst h3
    exact ok_ite_t (by omega) (ok_e (ok_to (c_level H.1.a1 H.1.a4 H.1.c6 hL (c := c) (q := 1) (by omega) (by omega))) (ok_some rfl))
  refine ok_ite_f (by omega) ?_
  by_cases h4 : w = 4
  · subst h4
    exact ok_ite_t (by omega) (ok_gd (by omega) (ok_some (by rw [toN, H.w8]; rfl)))
  refine ok_ite_f (by omega) ?_
  have h5 : w = 5 := by omega
  subst h5
  exact ok_ite_t (by omega) (ok_e (c_toldWishes H (by omega)) (ok_some rfl))
theorem Learnt.fr {B M M' : Mem} {known : Int} (h : Learnt B known M) (k : ∀ i, M' 23 i = M 23 i) : Learnt B known M' := fun t c q ht hc hq => (k _).trans (h t c q ht hc hq)
theorem c_prep46 {B M : Mem} {known : Int} (H : CF B M) (hL : Learnt B known M) (p1 : Int) {w : Nat} (hw : w < 7) : Okk (f_X4_prepare_l46 p1 w 0 M) (fun s => (∀ c i, ¬ (c = 31 ∧ 14 * w ≤ i ∧ i < 14 * w + 14) → s.2 c i = M c i) ∧ ∀ c, c < nK B → s.2 31 (14 * w + c) = toldS B known c w) := by
  have h14 := H.1.n14
  unfold f_X4_prepare_l46
  refine ok_whl (nK B) (fun k s => s.1 = (k : Int) ∧ (∀ c i, ¬ (c = 31 ∧ 14 * w ≤ i ∧ i < 14 * w + 14) → s.2 c i = M c i) ∧ ∀ c, c < k → s.2 31 (14 * w + c) = toldS B known c w) (FU_big (by omega)) ⟨rfl, fun _ _ _ => rfl, fun c h => absurd h (by omega)⟩ ?_
  rintro k ⟨v, M2⟩ hk ⟨h1, hF, hT⟩
  dsimp only at h1 hF hT ⊢
  subst h1
  have H2 : CF B M2 := H.fr (fun c i q => hF c i (by unfold isC at q; omega))
  have hL2 : Learnt B known M2 := hL.fr (fun i => hF 23 i (by omega))
  unfold f_X4_prepare_s46
  (try simp (disch := omega) only [wrap_of, toN, nA, n1, mr2, mr3, mr4, mr9, mr14, ml2, ml3, ml4, ml7, ml14, ml28, H2.n])
  refine ok_ite (fun h => ?_) (fun h => ?_)
  · have e : k = nK B := by omega
    subst e; exact ok_some ⟨hF, hT⟩
  have hkn : k < nK B := by omega
  refine ok_e (c_traitOf H2 hL2 hw hkn) (ok_gd (by omega) (ok_lt (ok_lt (ok_some ⟨hkn, rfl, fun c i q => ?_, fun c hc => ?_⟩))))
  · try dsimp only
    rw [mup_o _ _ (by omega)]
    exact hF c i q
  · try dsimp only
    by_cases e : c = k
    · subst e; exact mup_s _ _ _ _
    · rw [mup_o _ _ (by omega)]
      exact hT c (by omega)
theorem c_prep26 {B M : Mem} {known : Int} (H : CF B M) (hL : Learnt B known M) (h30 : M 30 2 = B 0 11) (p1 : Int) : Okk (f_X4_prepare_l26 p1 0 M) (fun s => (∀ c i, c ≠ 31 → s.2 c i = M c i) ∧ ∀ s' w c : Nat, s' < nS B → useAt B s' w → w < 7 → c < nK B → s.2 31 (14 * w + c) = toldS B known c w) := by
  have h14 := H.1.n14
  unfold f_X4_prepare_l26
  refine ok_whl 7 (fun k s => s.1 = (k : Int) ∧ (∀ c i, c ≠ 31 → s.2 c i = M c i) ∧ ∀ s' w c : Nat, s' < nS B → useAt B s' w → w < k → c < nK B → s.2 31 (14 * w + c) = toldS B known c w) (FU_big (by omega)) ⟨rfl, fun _ _ _ => rfl, fun _ _ _ _ _ h => absurd h (by omega)⟩ ?_
  rintro k ⟨v, M2⟩ hk ⟨h1, hF, hT⟩
  dsimp only at h1 hF hT ⊢
  subst h1
  have H2 : CF B M2 := H.fr (fun c i q => hF c i (by unfold isC at q; omega))
  have hL2 : Learnt B known M2 := hL.fr (fun i => hF 23 i (by omega))
  have h30b : M2 30 2 = B 0 11 := (hF 30 2 (by omega)).trans h30
  unfold f_X4_prepare_s26
  (try simp (disch := omega) only [wrap_of, toN, nA, n1, mr2, mr3, mr4, mr9, mr14, ml2, ml3, ml4, ml7, ml14, ml28, h30b])
  refine ok_ite (fun h => ?_) (fun h => ?_)
  · have e : k = 7 := by omega
    subst e; exact ok_some ⟨hF, hT⟩
  have hk7 : k < 7 := by omega
  refine ok_gd H.ru (ok_obn (c_uses H2 k) (fun r hr => ?_))
  refine ok_ite (fun h0 => ?_) (fun h0 => ?_)
  · refine ok_lt (ok_some ⟨hk7, rfl, hF, fun s' w c hs hu hw hc => ?_⟩)
    by_cases e : w = k
    · subst e; exact absurd hu (hr h0 s' hs)
    · exact hT s' w c hs hu (by omega) hc
  · refine ok_obn (c_prep46 H2 hL2 p1 hk7) (fun s hs => ?_)
    obtain ⟨v3, M3⟩ := s
    obtain ⟨g1, g2⟩ := hs
    dsimp only at g1 g2 ⊢
    unfold f_X4_prepare_j83k26
    (try simp (disch := omega) only [wrap_of, toN, nA, n1, mr2, mr3, mr4, mr9, mr14, ml2, ml3, ml4, ml7, ml14, ml28])
    refine ok_lt (ok_some ⟨hk7, rfl, fun c i q => (g1 c i (by omega)).trans (hF c i q), fun s' w c hs hu hw hc => ?_⟩)
    try dsimp only
    by_cases e : w = k
    · subst e; exact g2 c hc
    · rw [g1 _ _ (by omega)]
      exact hT s' w c hs hu (by omega) hc
theorem c_prep91 {B M : Mem} (H : CF B M) (p1 : Int) : Okk (f_X4_prepare_l91 p1 0 M) (fun s => (∀ c i, c ≠ 32 → s.2 c i = M c i) ∧ ∀ c, c < nK B → mIs (s.2 32 c) (wishB B c)) := by
  have h14 := H.1.n14
  unfold f_X4_prepare_l91
  refine ok_whl (nK B) (fun k s => s.1 = (k : Int) ∧ (∀ c i, c ≠ 32 → s.2 c i = M c i) ∧ ∀ c, c < k → mIs (s.2 32 c) (wishB B c)) (FU_big (by omega)) ⟨rfl, fun _ _ _ => rfl, fun c h => absurd h (by omega)⟩ ?_
  rintro k ⟨v, M2⟩ hk ⟨h1, hF, hT⟩
  dsimp only at h1 hF hT ⊢
  subst h1
  have H2 : CF B M2 := H.fr (fun c i q => hF c i (by unfold isC at q; omega))
  unfold f_X4_prepare_s91
  (try simp (disch := omega) only [wrap_of, toN, nA, n1, mr2, mr3, mr4, mr9, mr14, ml2, ml3, ml4, ml7, ml14, ml28, H2.n])
  refine ok_ite (fun h => ?_) (fun h => ?_)
  · have e : k = nK B := by omega
    subst e; exact ok_some ⟨hF, hT⟩
  have hkn : k < nK B := by omega
  refine ok_obn (c_wishedOnes H2 hkn) (fun r hr => ok_gd (by omega) (ok_lt (ok_lt (ok_some ⟨hkn, rfl, fun c i q => ?_, fun c hc => ?_⟩))))
  · try dsimp only
    rw [mup_o _ _ (by omega)]
    exact hF c i q
  · try dsimp only
    by_cases e : c = k
    · subst e; rw [mup_s]; exact hr
    · rw [mup_o _ _ (by omega)]
      exact hT c (by omega)
theorem c_prep124 {B M : Mem} {known : Int} (H : JT B known M) (p1 : Int) : Okk (f_X4_prepare_l124 p1 0 M) (fun s => (∀ c i, c ≠ 33 → c ≠ 34 → s.2 c i = M c i) ∧
    (∀ s', s' < nS B → hasT B s' 0 → mIs (s.2 33 s') (fun c => decide (c < nK B) && holdB B known (2 * s') c)) ∧
    (∀ s', s' < nS B → hasT B s' 1 → mIs (s.2 34 s') (fun c => decide (c < nK B) && holdB B known (2 * s' + 1) c))) := by
  have h14 := H.1.1.n14
  have h16 := H.1.1.s16
  unfold f_X4_prepare_l124
  refine ok_whl (nS B) (fun k s => s.1 = (k : Int) ∧ (∀ c i, c ≠ 33 → c ≠ 34 → s.2 c i = M c i) ∧ (∀ s', s' < k → hasT B s' 0 → mIs (s.2 33 s') (fun c => decide (c < nK B) && holdB B known (2 * s') c)) ∧
    (∀ s', s' < k → hasT B s' 1 → mIs (s.2 34 s') (fun c => decide (c < nK B) && holdB B known (2 * s' + 1) c))) (FU_big (by omega)) ⟨rfl, fun _ _ _ _ => rfl, fun c h => absurd h (by omega), fun c h => absurd h (by omega)⟩ ?_
  rintro k ⟨v, M2⟩ hk ⟨h1, hF, hA, hB⟩
  dsimp only at h1 hF hA hB ⊢
  subst h1
  have H2 : JT B known M2 := H.fr (fun c i q => hF c i (by unfold isC at q; omega) (by unfold isC at q; omega))
  unfold f_X4_prepare_s124
  (try simp (disch := omega) only [wrap_of, toN, nA, n1, mr2, mr3, mr4, mr9, mr14, ml2, ml3, ml4, ml7, ml14, ml28, H2.2.1, H2.1.rc])
  refine ok_gd H.1.ru (ok_ite (fun h => ?_) (fun h => ?_))
  · have e : k = nS B := by omega
    subst e; exact ok_some ⟨hF, hA, hB⟩
  have hkn : k < nS B := by omega
  have e0 : ((2 * k : Nat) : Int) = ((2 * k + 0 : Nat) : Int) := rfl
  rw [e0]
  refine ok_obn (c_holders H2 hkn (by omega)) (fun r hr => ok_gd (by omega) (ok_lt ?_))
  have H3 : JT B known (mup M2 33 k r) := H2.fr (fun c i q => mup_o _ _ (by unfold isC at q; omega))
  refine ok_obn (c_holders H3 hkn (by omega)) (fun r2 hr2 => ok_gd (by omega) (ok_lt (ok_lt (ok_some ⟨hkn, rfl, fun c i q1 q2 => ?_, fun c hc ht => ?_, fun c hc ht => ?_⟩))))
  · try dsimp only
    rw [mup_o _ _ (by omega), mup_o _ _ (by omega)]
    exact hF c i q1 q2
  · try dsimp only
    rw [mup_o _ _ (by omega)]
    by_cases e : c = k
    · subst e; rw [mup_s]; exact hr ht
    · rw [mup_o _ _ (by omega)]
      exact hA c (by omega) ht
  · try dsimp only
    by_cases e : c = k
    · subst e; rw [mup_s]; exact hr2 ht
    · rw [mup_o _ _ (by omega), mup_o _ _ (by omega)]
      exact hB c (by omega) ht
theorem c_prepare {B M : Mem} {known : Int} (H : CF B M) : Okk (f_X4_prepare (B 0 11) known M) (fun M' => JP B known M' ∧ ∀ c i, ¬ (c = 23 ∨ (30 ≤ c ∧ c ≤ 34)) → M' c i = M c i) := by
  unfold f_X4_prepare
  refine ok_lt ?_
  rw [mup_s]
  have H1 : CF B (mup M 30 2 (B 0 11)) := H.up _ (by unfold isC; omega)
  refine ok_gd H.ru (ok_e (c_twinsHow H1) (ok_lt ?_))
  have H2 : CF B (mup (mup M 30 2 (B 0 11)) 30 3 (howC (howS B (nS B)))) := H1.up _ (by unfold isC; omega)
  have a2 : (mup (mup M 30 2 (B 0 11)) 30 3 (howC (howS B (nS B)))) 30 2 = B 0 11 := by rw [mup_o _ _ (by omega), mup_s]
  have a3 : (mup (mup M 30 2 (B 0 11)) 30 3 (howC (howS B (nS B)))) 30 3 = howC (howS B (nS B)) := mup_s _ _ _ _
  have aF : ∀ c i, ¬ (c = 23 ∨ (30 ≤ c ∧ c ≤ 34)) → (mup (mup M 30 2 (B 0 11)) 30 3 (howC (howS B (nS B)))) c i = M c i := fun c i q => by rw [mup_o _ _ (by omega), mup_o _ _ (by omega)]
  generalize mup (mup M 30 2 (B 0 11)) 30 3 (howC (howS B (nS B))) = M2 at H2 a2 a3 aF ⊢
  refine ok_obn (c_learn2 H2 known) (fun M3 h3 => ?_)
  obtain ⟨f3, hL⟩ := h3
  have H3 : CF B M3 := H2.fr (fun c i q => f3 c i (by unfold isC at q; omega))
  refine ok_obn (c_prep26 H3 hL ((f3 30 2 (by omega)).trans a2) _) (fun s hs => ?_)
  obtain ⟨v4, M4⟩ := s
  obtain ⟨f4, hT⟩ := hs
  dsimp only at f4 hT ⊢
  have H4 : JT B known M4 := ⟨H3.fr (fun c i q => f4 c i (by unfold isC at q; omega)), by rw [f4 30 2 (by omega), f3 30 2 (by omega), a2], by rw [f4 30 3 (by omega), f3 30 3 (by omega), a3], hT⟩
  unfold f_X4_prepare_j89
  refine ok_obn (c_prep91 H4.1 _) (fun s hs => ?_)
  obtain ⟨v5, M5⟩ := s
  obtain ⟨f5, hW⟩ := hs
  dsimp only at f5 hW ⊢
  have H5 : JT B known M5 := H4.fr (fun c i q => f5 c i (by unfold isC at q; omega))
  unfold f_X4_prepare_j122
  refine ok_obn (c_prep124 H5 _) (fun s hs => ?_)
  obtain ⟨v6, M6⟩ := s
  obtain ⟨f6, hA, hB⟩ := hs
  dsimp only at f6 hA hB ⊢
  unfold f_X4_prepare_j169
  refine ok_some ⟨⟨H5.fr (fun c i q => f6 c i (by unfold isC at q; omega) (by unfold isC at q; omega)), fun c hc => by rw [f6 32 c (by omega) (by omega)]; exact hW c hc, hA, hB⟩, fun c i q => ?_⟩
  rw [f6 c i (by omega) (by omega), f5 c i (by omega), f4 c i (by omega), f3 c i (by omega), aF c i q]
