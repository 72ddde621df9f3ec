/-! the class: what one class costs -/
theorem c_lackIn {B M : Mem} {known : Int} (H : JP B known M) {g : Int} {G : Nat → Bool} (hg : gIs B g G) : f_X4_lackIn g M = some (lackG B known G) := by
  have h16 := H.c.1.s16
  have h14 := H.c.1.n14
  unfold f_X4_lackIn f_X4_lackIn_l4
  refine (obn_e _ (whl_sum (n := nS B) (by omega) (fun s => if B 97 s = 7 then pos0 (B 98 s - holdG B known (2 * s) G) else 0) 99 1600 (by omega) (by omega) (fun s hs => ?_) (fun s hs v h0 h1 h2 h3 => ?_) (fun v => ?_))).trans rfl
  · try dsimp only
    have hb := holdG_b B known (2 * s) G
    split
    · have nb := H.c.nb hs (by omega) (by omega)
      unfold pos0
      split <;> omega
    · omega
  · have hkd := H.c.kd hs
    unfold f_X4_lackIn_s4
    (try simp (disch := omega) only [wrap_of, toN, nA, n1, mr2, mr3, mr4, mr9, mr14, ml2, ml3, ml4, ml7, ml14, ml28, H.c.rc, H.1.2.1])
    rw [hkd]
    refine ok_gd H.c.ru (ok_ite_f (by omega) (ok_gd H.c.ru (ok_gd (by omega) ?_)))
    try dsimp only at h2 h3
    refine ok_ite (fun h => ?_) (fun h => ?_)
    · have h7 : B 97 s = 7 := by omega
      have nb := H.c.nb hs (by omega) (by omega)
      have hb := holdG_b B known (2 * s) G
      refine ok_gd H.c.ru (ok_gd (by omega) (ok_gd (by omega) (ok_e (c_hold H hg hs (Or.inr ⟨rfl, by omega⟩) M) ?_)))
      rw [H.c.nu hs (by omega) (by omega)]
      rw [if_pos h7] at h2 h3 ⊢
      have e : (if 0 < wrap (B 98 s - holdG B known (2 * s) G) then wrap (B 98 s - holdG B known (2 * s) G) else 0) = pos0 (B 98 s - holdG B known (2 * s) G) := by rw [wrap_of (by omega) (by omega)]; rfl
      rw [e]
      exact ok_ltw (by omega) (ok_lt (ok_some rfl))
    · rw [if_neg (by omega)]
      exact ok_lt (ok_some (by rw [Int.add_zero]))
  · unfold f_X4_lackIn_s4
    (try simp (disch := omega) only [wrap_of, toN, nA, n1, mr2, mr3, mr4, mr9, mr14, ml2, ml3, ml4, ml7, ml14, ml28, H.c.rc, H.1.2.1])
    exact ok_gd H.c.ru (ok_ite_t (by omega) (ok_some rfl))
theorem c_leftIn {B M : Mem} {known : Int} (H : JP B known M) {g : Int} {G : Nat → Bool} (hg : gIs B g G) : f_X4_leftIn g M = some (leftG B G) := by
  have h14 := H.c.1.n14
  have hn := H.c.1.n
  unfold f_X4_leftIn f_X4_leftIn_l4
  refine (obn_e _ (whl_sum (n := nK B) (by omega) (fun c => if G c = true ∧ (∀ o, o < 14 → wishB B c o = true → G o = false) then 1 + B 85 c else 0) 100 1400 (by omega) (by omega) (fun c hc => ?_) (fun c hc v h0 h1 h2 h3 => ?_) (fun v => ?_))).trans rfl
  · try dsimp only
    have := (H.c.1.c2 c (by omega)).1
    split <;> omega
  · have ho := (H.c.1.c2 c (by omega)).1
    have hbit := mIs_bit0 hg.1 (j := c) (by omega)
    have hm := mIs_eq0 (mIs_and (H.2.1 c hc) hg.1)
    try dsimp only at h2 h3
    unfold f_X4_leftIn_s4
    (try simp (disch := omega) only [wrap_of, toN, nA, n1, mr2, mr3, mr4, mr9, mr14, ml2, ml3, ml4, ml7, ml14, ml28, H.c.n, H.c.w8])
    refine ok_ite_f (by omega) ?_
    refine ok_ite (fun h => ?_) (fun h => ok_gd (by omega) ?_)
    · rw [if_neg (fun z => by rw [hbit.mp h] at z; cases z.1), Int.add_zero]
      exact ok_lt (ok_some rfl)
    have hGa : G c = true := by
      cases e : G c with
      | false => exact absurd (hbit.mpr e) h
      | true => rfl
    refine ok_ite (fun h4 => ok_gd (by omega) ?_) (fun h4 => ?_)
    · have q : G c = true ∧ (∀ o, o < 14 → wishB B c o = true → G o = false) := ⟨hGa, fun o ho2 hw => by
        have := hm.mp h4 o ho2
        rw [hw, Bool.true_and] at this
        exact this⟩
      rw [if_pos q] at h2 h3 ⊢
      (try simp (disch := omega) only [wrap_of, toN, nA, n1, mr2, mr3, mr4, mr9, mr14, ml2, ml3, ml4, ml7, ml14, ml28])
      exact ok_lt (ok_lt (ok_some rfl))
    · rw [if_neg (fun z => h4 (hm.mpr (fun o ho2 => by
        cases e : wishB B c o with
        | false => rfl
        | true => rw [Bool.true_and]; exact z.2 o ho2 e))), Int.add_zero]
      exact ok_lt (ok_some rfl)
  · unfold f_X4_leftIn_s4
    (try simp (disch := omega) only [wrap_of, toN, nA, n1, mr2, mr3, mr4, mr9, mr14, ml2, ml3, ml4, ml7, ml14, ml28, H.c.n])
    exact ok_ite_t (by omega) (ok_some rfl)
theorem whl_from {step : Int × Int → Option ((Int × Int) ⊕ (Int × Int))} {n : Nat} (hn : n < 100000) (v0 : Int) (f : Nat → Int)
    (hs : ∀ k : Nat, k < n → Okk (step (v0 + fb_si f k, (k : Int))) (fun o => o = .inl (v0 + fb_si f k + f k, ((k + 1 : Nat) : Int))))
    (he : ∀ v : Int, Okk (step (v, (n : Int))) (fun o => o = .inr (v, (n : Int)))) : whl step FU (v0, 0) = some (v0 + fb_si f n, (n : Int)) := by
  refine whl_n n (fun k => (v0 + fb_si f k, (k : Int))) (by omega) (by show _ = (v0 + 0, (0 : Int)); rw [Int.add_zero]) (fun k hk => ?_) (ok_to (he _))
  have := ok_to (hs k hk)
  rw [this, fb_si_succ, Int.add_assoc]
theorem c_regretIn {B M : Mem} {known : Int} (H : JP B known M) {g : Int} {G : Nat → Bool} (hg : gIs B g G) : f_X4_regretIn g M = some (regretG B G) := by
  have h14 := H.c.1.n14
  have hn := H.c.1.n
  have inner : ∀ a, a < nK B → 0 ≤ fb_si (fun b => if G b = true then B 87 (14 * a + b) else 0) a ∧ fb_si (fun b => if G b = true then B 87 (14 * a + b) else 0) a ≤ a * 99 := fun a ha =>
    si_nn (fun b hb => by
      have := (H.c.1.c4 a b (by omega) (by omega)).1
      try dsimp only
      split <;> omega)
  unfold f_X4_regretIn f_X4_regretIn_l4
  refine (obn_e _ (whl_sum (n := nK B) (by omega) (fun a => if G a = true then fb_si (fun b => if G b = true then B 87 (14 * a + b) else 0) a else 0) 1386 20000 (by omega) (by omega) (fun a ha => ?_) (fun a ha v h0 h1 h2 h3 => ?_) (fun v => ?_))).trans rfl
  · try dsimp only
    have := inner a ha
    split <;> omega
  · have hbit := mIs_bit0 hg.1 (j := a) (by omega)
    try dsimp only at h2 h3
    unfold f_X4_regretIn_s4
    (try simp (disch := omega) only [wrap_of, toN, nA, n1, mr2, mr3, mr4, mr9, mr14, ml2, ml3, ml4, ml7, ml14, ml28, H.c.n])
    refine ok_ite_f (by omega) ?_
    refine ok_ite (fun h => ?_) (fun h => ?_)
    · rw [if_neg (fun z => by rw [hbit.mp h] at z; cases z), Int.add_zero]
      exact ok_lt (ok_some rfl)
    have hGa : G a = true := by
      cases e : G a with
      | false => exact absurd (hbit.mpr e) h
      | true => rfl
    rw [if_pos hGa] at h2 h3 ⊢
    have hl : f_X4_regretIn_l26 g a M v 0 = some (v + fb_si (fun b => if G b = true then B 87 (14 * a + b) else 0) a, (a : Int)) := by
      unfold f_X4_regretIn_l26
      refine whl_from (by omega) v (fun b => if G b = true then B 87 (14 * a + b) else 0) (fun b hb => ?_) (fun w => ?_)
      · have hr := (H.c.1.c4 a b (by omega) (by omega)).1
        have q := si_nn (f := fun b => if G b = true then B 87 (14 * a + b) else 0) (b := 99) (n := b) (fun b2 hb2 => by
          have := (H.c.1.c4 a b2 (by omega) (by omega)).1
          try dsimp only
          split <;> omega)
        have hbit2 := mIs_bit0 hg.1 (j := b) (by omega)
        generalize fb_si (fun b => if G b = true then B 87 (14 * a + b) else 0) b = u at q ⊢
        unfold f_X4_regretIn_s26
        (try simp (disch := omega) only [wrap_of, toN, nA, n1, mr2, mr3, mr4, mr9, mr14, ml2, ml3, ml4, ml7, ml14, ml28, H.c.w13])
        refine ok_ite_f (by omega) ?_
        refine ok_ite (fun h => ?_) (fun h => ok_gd (by omega) ?_)
        · rw [if_neg (fun z => by rw [hbit2.mp h] at z; cases z), Int.add_zero]
          exact ok_lt (ok_some rfl)
        · rw [if_pos (by
            cases e : G b with
            | false => exact absurd (hbit2.mpr e) h
            | true => rfl)]
          exact ok_lt (ok_lt (ok_some rfl))
      · unfold f_X4_regretIn_s26
        exact ok_ite_t (by omega) (ok_some rfl)
    refine ok_e hl ?_
    unfold f_X4_regretIn_j65k4
    (try simp (disch := omega) only [wrap_of, toN, nA, n1, mr2, mr3, mr4, mr9, mr14, ml2, ml3, ml4, ml7, ml14, ml28])
    exact ok_lt (ok_some rfl)
  · unfold f_X4_regretIn_s4
    (try simp (disch := omega) only [wrap_of, toN, nA, n1, mr2, mr3, mr4, mr9, mr14, ml2, ml3, ml4, ml7, ml14, ml28, H.c.n])
    exact ok_ite_t (by omega) (ok_some rfl)
theorem c_addedHarm {B M : Mem} {known : Int} (H : JP B known M) {g : Int} {G : Nat → Bool} (hg : gIs B g G) {s : Nat} (hs : s < nS B) : f_X4_addedHarm s g M = some (addG B known G s) := by
  have h16 := H.c.1.s16
  have hkd := H.c.kd hs
  have hkb := H.c.kb hs
  have l := leftG_b H.c.1 G
  have r := regretG_b H.c.1 G
  apply ok_to
  unfold f_X4_addedHarm
  rw [H.1.2.1, toN, hkd]
  refine ok_gd H.c.ru (ok_gd (by omega) ?_)
  unfold addG
  refine ok_ite (fun h => ?_) (fun h => ?_)
  · rw [if_neg (show ¬ B 97 s = 2 by omega), if_neg (show ¬ B 97 s = 3 by omega), if_neg (show ¬ B 97 s = 4 by omega)]; exact ok_some rfl
  refine ok_ite (fun h2 => ?_) (fun h2 => ?_)
  · rw [if_pos (show B 97 s = 2 by omega), H.c.nu hs (by omega) (by omega)]
    have nb := H.c.nb hs (by omega) (by omega)
    have := mul_b nb.1 nb.2 l.1 l.2
    refine ok_gd H.c.ru (ok_gd (by omega) (ok_e (c_leftIn H hg) (ok_some ?_)))
    rw [wrap_of (by omega) (by omega)]
  rw [if_neg (show ¬ B 97 s = 2 by omega)]
  refine ok_ite (fun h3 => ?_) (fun h3 => ?_)
  · rw [if_pos (show B 97 s = 3 by omega), H.c.nu hs (by omega) (by omega)]
    refine ok_gd (by omega) (ok_e (c_hold H hg hs (Or.inr ⟨rfl, by omega⟩) M) ?_)
    refine ok_ite (fun h4 => ok_gd H.c.ru (ok_gd (by omega) (ok_some (by rw [if_pos h4])))) (fun h4 => ok_some (by rw [if_neg h4]))
  rw [if_neg (show ¬ B 97 s = 3 by omega)]
  refine ok_ite (fun h4 => ?_) (fun h4 => absurd h4 (by omega))
  rw [if_pos (show B 97 s = 4 by omega), H.c.nu hs (by omega) (by omega)]
  have nb := H.c.nb hs (by omega) (by omega)
  have := mul_b nb.1 nb.2 r.1 r.2
  refine ok_gd H.c.ru (ok_gd (by omega) (ok_e (c_regretIn H hg) (ok_some ?_)))
  rw [wrap_of (by omega) (by omega)]
abbrev isSp (B : Mem) (s : Nat) : Prop := B 97 s = 0 ∨ B 97 s = 1
theorem c_isSpread {B M : Mem} {known : Int} (H : JP B known M) {s : Nat} (hs : s < nS B) : Okk (f_X4_isSpread s M) (fun r => isB r (isSp B s)) := by
  have h16 := H.c.1.s16
  have hkd := H.c.kd hs
  unfold f_X4_isSpread isSp
  rw [H.1.2.1, toN, hkd]
  refine ok_gd H.c.ru (ok_gd (by omega) ?_)
  refine ok_ite (fun h => ok_some (isB.one (by omega))) (fun h => ok_gd H.c.ru (ok_gd (by omega) ?_))
  exact ok_ite (fun h2 => ok_some (isB.one (by omega))) (fun h2 => ok_some (isB.zero (by omega)))
theorem c_weightOf {B M : Mem} {known : Int} (H : JP B known M) {s : Nat} (hs : s < nS B) (hsp : isSp B s) {c : Nat} (hc : c < nK B) : f_X4_weightOf s c M = some (wOf B known s c) := by
  have h16 := H.c.1.s16
  have h14 := H.c.1.n14
  have hkd := H.c.kd hs
  unfold isSp at hsp
  apply ok_to
  unfold f_X4_weightOf wOf
  rw [H.1.2.1, toN, hkd]
  refine ok_gd H.c.ru (ok_gd (by omega) ?_)
  refine ok_ite (fun h => ?_) (fun h => ?_)
  · have hw := H.c.wd hs (by omega)
    obtain ⟨w, hw2⟩ : ∃ w : Nat, B 99 s = (w : Int) := ⟨(B 99 s).toNat, by omega⟩
    rw [if_pos (show B 97 s = 1 by omega), hw.1, hw2]
    rw [hw2] at hw
    (try simp (disch := omega) only [wrap_of, toN, nA, n1, mr2, mr3, mr4, mr9, mr14, ml2, ml3, ml4, ml7, ml14, ml28])
    refine ok_gd H.c.ru (ok_gd (by omega) (ok_gd (by omega) (ok_some ?_)))
    exact H.1.2.2.2 s w c hs (Or.inl ⟨by omega, hw2⟩) (by omega) hc
  · rw [if_neg (show ¬ B 97 s = 1 by omega)]
    have hm := H.2.2.1 s hs (Or.inr ⟨rfl, by omega⟩)
    refine ok_gd (by omega) (ok_some ?_)
    rw [mIs_bit hm (j := c) (by omega), decide_eq_true hc, Bool.true_and]
theorem hold_wt {B : Mem} {known : Int} {s : Nat} (h0 : B 97 s = 0) (G : Nat → Bool) : holdG B known (2 * s) G = wtG B known s G := by
  unfold holdG wtG cnt
  refine fb_si_cong (fun c hc => ?_)
  unfold wOf
  rw [if_neg (show ¬ B 97 s = 1 by omega)]
  by_cases h1 : G c = true
  · by_cases h2 : holdB B known (2 * s) c = true
    · rw [if_pos ⟨h1, h2⟩, if_pos h1, if_pos h2]
    · rw [if_neg (fun z => h2 z.2), if_pos h1, if_neg h2]
  · rw [if_neg (fun z => h1 z.1), if_neg h1]
theorem c_weightIn {B M : Mem} {known : Int} (H : JP B known M) {g : Int} {G : Nat → Bool} (hg : gIs B g G) {s : Nat} (hs : s < nS B) (hsp : isSp B s) : f_X4_weightIn s g M = some (wtG B known s G) := by
  have h16 := H.c.1.s16
  have h14 := H.c.1.n14
  have hkd := H.c.kd hs
  apply ok_to
  unfold f_X4_weightIn
  rw [H.1.2.1, toN, hkd]
  refine ok_gd H.c.ru (ok_gd (by omega) ?_)
  refine ok_ite (fun h => ?_) (fun h => ?_)
  · refine ok_gd (by omega) (ok_e (c_hold H hg hs (Or.inr ⟨rfl, by omega⟩) M) (ok_some ?_))
    exact hold_wt (by omega) G
  · have hl : f_X4_weightIn_l31 s g M 0 0 = some (wtG B known s G, (nK B : Int)) := by
      unfold f_X4_weightIn_l31
      refine (whl_sum (n := nK B) (by omega) (fun c => if G c = true then wOf B known s c else 0) 99 1400 (by omega) (by omega) (fun c hc => ?_) (fun c hc v h0 h1 h2 h3 => ?_) (fun v => ?_))
      · try dsimp only
        have := wOf_b H.c.1 known s hc
        split <;> omega
      · have hbit := mIs_bit0 hg.1 (j := c) (by omega)
        try dsimp only at h2 h3
        unfold f_X4_weightIn_s31
        (try simp (disch := omega) only [wrap_of, toN, nA, n1, mr2, mr3, mr4, mr9, mr14, ml2, ml3, ml4, ml7, ml14, ml28, H.c.n])
        refine ok_ite_f (by omega) ?_
        refine ok_ite (fun h => ?_) (fun h => ?_)
        · rw [if_neg (fun z => by rw [hbit.mp h] at z; cases z), Int.add_zero]
          exact ok_lt (ok_some rfl)
        have hGa : G c = true := by
          cases e : G c with
          | false => exact absurd (hbit.mpr e) h
          | true => rfl
        rw [if_pos hGa] at h2 h3 ⊢
        refine ok_e (c_weightOf H hs hsp hc) ?_
        exact ok_ltw (by omega) (ok_lt (ok_some rfl))
      · unfold f_X4_weightIn_s31
        (try simp (disch := omega) only [wrap_of, toN, nA, n1, mr2, mr3, mr4, mr9, mr14, ml2, ml3, ml4, ml7, ml14, ml28, H.c.n])
        exact ok_ite_t (by omega) (ok_some rfl)
    refine ok_e hl ?_
    unfold f_X4_weightIn_j68
    exact ok_some rfl
theorem c_joins {B M : Mem} {known : Int} (H : JP B known M) {a b : Nat} (ha : a < nK B) (hb : b < nK B) : Okk (f_X4_joins a b M) (fun r => isB r (howS B (nS B) = 2 ∧ B 89 (14 * a + b) = 1)) := by
  have h14 := H.c.1.n14
  unfold f_X4_joins
  rw [H.1.2.2.1]
  refine ok_ite (fun h17 => ok_gd (by omega) ?_) (fun h17 => ok_some (isB.zero (fun z => h17 ?_)))
  · have h2 : howS B (nS B) = 2 := by
      unfold howC at h17
      split at h17
      · omega
      · split at h17
        · assumption
        · omega
    have hbit := mIs_bit0 (H.c.twins (a := a) (by omega)) (j := b) (by omega)
    refine ok_ite (fun h => ok_some (isB.zero (fun z => ?_))) (fun h => ok_some (isB.one ⟨h2, ?_⟩))
    · have := hbit.mp h
      rw [decide_eq_true z.2] at this; cases this
    · apply Classical.byContradiction
      intro hc
      exact h (hbit.mpr (decide_eq_false hc))
  · unfold howC; rw [if_neg (by omega), if_pos z.1]
