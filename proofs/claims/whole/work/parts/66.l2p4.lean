/-! bars, twins, nots, classes, words -/
section PAIRS
variable {M : Mem}
theorem c_setBit {p0 row bit : Nat} {is : Int} {G : Nat → Bool} (hm : mIs (M p0 row) G) (hrow : row < aln p0) (hbit : bit < 14) (his : isZ is) :
    Okk (f_X10_setBit p0 row bit is M) (fun q => (G bit = decide (is = 1) ∧ q = (0, M)) ∨ (G bit ≠ decide (is = 1) ∧ q.1 = 1 ∧ (∀ c i, ¬ (c = p0 ∧ i = row) → q.2 c i = M c i) ∧ mIs (q.2 p0 row) (fun c => if c = bit then decide (is = 1) else G c))) := by
  unfold isZ at his
  have hb := mIs_bit hm (j := bit) hbit
  have flip : G bit ≠ decide (is = 1) → mIs (bxor (M p0 row) (bshl 1 (bit : Int))) (fun c => if c = bit then decide (is = 1) else G c) := by
    intro hne
    refine (mIs_xor hm (mIs_1 hbit)).congr (fun c hc => ?_)
    by_cases e : c = bit
    · subst e
      rw [if_pos rfl, decide_eq_true rfl]
      revert hne
      cases G c <;> cases decide (is = 1) <;> simp
    · rw [if_neg e, decide_eq_false e, Bool.xor_false]
  have j15 : ∀ s0 : Int, (s0 = if G bit = true then 1 else 0) → Okk (f_X10_setBit_j15 p0 row bit is s0 M) (fun q => (G bit = decide (is = 1) ∧ q = (0, M)) ∨ (G bit ≠ decide (is = 1) ∧ q.1 = 1 ∧ (∀ c i, ¬ (c = p0 ∧ i = row) → q.2 c i = M c i) ∧ mIs (q.2 p0 row) (fun c => if c = bit then decide (is = 1) else G c))) := by
    intro s0 hs0
    unfold f_X10_setBit_j15
    have hiff : s0 = is ↔ G bit = decide (is = 1) := by
      rw [hs0]
      cases hG : G bit with
      | true =>
        rw [if_pos rfl]
        rcases his with h | h <;> rw [h] <;> decide
      | false =>
        rw [if_neg (by decide)]
        rcases his with h | h <;> rw [h] <;> decide
    refine ok_ite (fun h => ok_some (Or.inl ⟨hiff.mp h, rfl⟩)) (fun h => ?_)
    have hne : G bit ≠ decide (is = 1) := fun z => h (hiff.mpr z)
    rw [toN]
    refine ok_gd (by omega) (ok_gd (by omega) (ok_lt (ok_some (Or.inr ⟨hne, rfl, fun c i q => mup_o _ _ q, ?_⟩))))
    try dsimp only
    rw [mup_s]
    exact flip hne
  unfold f_X10_setBit
  rw [toN, hb]
  refine ok_gd (by omega) ?_
  cases hG : G bit with
  | true =>
    rw [if_pos rfl]
    refine ok_ite_f (by decide) ?_
    have := j15 1 (by rw [hG]; rfl)
    rw [hG] at this
    exact this
  | false =>
    rw [if_neg (show ¬ false = true by decide)]
    refine ok_ite_t rfl ?_
    have := j15 0 (by rw [hG]; rfl)
    rw [hG] at this
    exact this
theorem aln10 : aln 10 = 14 := by decide +kernel
theorem aln11 : aln 11 = 14 := by decide +kernel
theorem aln12 : aln 12 = 3 := by decide +kernel
theorem aln88 : aln 88 = 196 := by decide +kernel
theorem aln89 : aln 89 = 196 := by decide +kernel
theorem dec_is {x is : Int} (hx : isZ x) (his : isZ is) : decide (x = 1) = decide (is = 1) ↔ x = is := by
  unfold isZ at hx his
  rcases hx with h | h <;> rcases his with k | k <;> rw [h, k] <;> decide
theorem op_not (I : Inv M) (c k : Int) {is : Int} (his : isZ is) : Alk (f_X10_not c k is M) (f_X11_not c k is) := by
  have h14 := I.1.n14
  have hn := I.1.n
  by_cases hc : 0 ≤ c ∧ c < (nK M : Int)
  by_cases hk : 0 ≤ k ∧ k ≤ 2
  · obtain ⟨c, rfl, hc2⟩ := nat_of hc
    obtain ⟨k, rfl, -, hk2⟩ := nat_le (lo := 0) (n := 2) hk
    unfold Alk f_X10_not
    refine ok_b (c2_has I.cf _) (fun _ => ok_ite_f (by decide) ?_) (fun z => absurd hc z)
    refine ok_b (c_within _ _ _ _) (fun _ => ok_ite_f (by decide) ?_) (fun z => absurd hk z)
    refine ok_lt ?_
    obtain ⟨M1, e1, f1, v1⟩ := mup_gen M 0 16 0
    rw [e1]; clear e1
    have I1 := inv_b0 I f1 v1
    have hm : mIs (M1 12 k) (fun c => decide (M 90 (3 * c + k) = 1)) := by rw [f1 12 k (by omega)]; exact (I.1.d3 k (by omega)).m
    have hz := (I.1.d6 c k (by omega) (by omega)).1
    refine ok_bnd (c_setBit hm (by rw [aln12]; omega) (show c < 14 by omega) his) (fun r M2 hM2 => ?_)
    rcases hM2 with ⟨he, hq⟩ | ⟨hne, hr, f2, m2⟩
    · cases hq
      refine ok_gd (by unfold isZ; decide) (ok_some ?_)
      have e := (dec_is hz his).mp he
      unfold f_X11_not
      obtain ⟨N2, e2, g2⟩ := th0 M1
      refine ok_lt ?_
      rw [e2]; clear e2
      have k1 : N2 80 1 = (nK M : Int) := by rw [g2 80 1 (by omega), f1 80 1 (by omega)]; exact hn.symm
      refine ok_b (m_isChild' k1 h14 _) (fun _ => ok_ite_f (by decide) ?_) (fun z => absurd hc z)
      refine ok_b (m_within _ _ _ _) (fun _ => ok_ite_f (by decide) ?_) (fun z => absurd hk z)
      (try simp (disch := omega) only [wrap_of, toN, nA, n1, mr2, mr3, mr4, mr9, mr14, ml2, ml3, ml4, ml7, ml14, ml28])
      rw [g2 90 _ (by omega), f1 90 _ (by omega)]
      exact ok_gd (by omega) (ok_ite_t e (ok_some ⟨rfl, I1.congr (fun c i q => g2 c i (by unfold isS isFa isO isX1 isX2 at q; omega))⟩))
    · dsimp only at hr f2 m2
      subst hr
      refine ok_gd (by unfold isZ; decide) (ok_some ?_)
      have e : M 90 (3 * c + k) ≠ is := fun z => hne ((dec_is hz his).mpr z)
      unfold f_X11_not
      obtain ⟨N2, e2, g2⟩ := th0 M2
      refine ok_lt ?_
      rw [e2]; clear e2
      have k1 : N2 80 1 = (nK M : Int) := by rw [g2 80 1 (by omega), f2 80 1 (by omega), f1 80 1 (by omega)]; exact hn.symm
      refine ok_b (m_isChild' k1 h14 _) (fun _ => ok_ite_f (by decide) ?_) (fun z => absurd hc z)
      refine ok_b (m_within _ _ _ _) (fun _ => ok_ite_f (by decide) ?_) (fun z => absurd hk z)
      (try simp (disch := omega) only [wrap_of, toN, nA, n1, mr2, mr3, mr4, mr9, mr14, ml2, ml3, ml4, ml7, ml14, ml28])
      rw [g2 90 _ (by omega), f2 90 _ (by omega), f1 90 _ (by omega)]
      refine ok_gd (by omega) (ok_ite_f e (ok_gd (by omega) (ok_gd his (ok_lt ?_))))
      obtain ⟨N3, e3, g3, x3⟩ := mup_gen N2 90 (3 * c + k) is
      rw [e3]; clear e3
      refine ok_lt ?_
      obtain ⟨N4, e4, g4, x4⟩ := mup_gen N3 80 43 0
      rw [e4]; clear e4
      refine ok_some ⟨rfl, up_not (cc := c) (k := k) (v := is) hc2 (by omega) his I (fun c i q => ?_) ?_ ?_ ?_ x4⟩
      · (try dsimp only) <;> (rw [g4 _ _ (by first | (rintro ⟨rfl, rfl⟩; ((first | (refine absurd ?_ z; clear z) | (refine absurd ?_ q; clear q)); (first | (simp; done) | (simp [*]; done) | omega)); done) | (rintro (⟨rfl, rfl⟩ | ⟨rfl, h1, h2⟩) <;> ((first | (refine absurd ?_ z; clear z) | (refine absurd ?_ q; clear q)); (first | (simp; done) | (simp [*]; done) | omega))) | (rintro (⟨rfl, rfl⟩ | ⟨rfl, rfl⟩) <;> ((first | (refine absurd ?_ z; clear z) | (refine absurd ?_ q; clear q)); (first | (simp; done) | (simp [*]; done) | omega))) | omega), g3 _ _ (by first | (rintro ⟨rfl, rfl⟩; ((first | (refine absurd ?_ z; clear z) | (refine absurd ?_ q; clear q)); (first | (simp; done) | (simp [*]; done) | omega)); done) | (rintro (⟨rfl, rfl⟩ | ⟨rfl, h1, h2⟩) <;> ((first | (refine absurd ?_ z; clear z) | (refine absurd ?_ q; clear q)); (first | (simp; done) | (simp [*]; done) | omega))) | (rintro (⟨rfl, rfl⟩ | ⟨rfl, rfl⟩) <;> ((first | (refine absurd ?_ z; clear z) | (refine absurd ?_ q; clear q)); (first | (simp; done) | (simp [*]; done) | omega))) | omega), g2 _ _ (by first | (rintro ⟨rfl, rfl⟩; ((first | (refine absurd ?_ z; clear z) | (refine absurd ?_ q; clear q)); (first | (simp; done) | (simp [*]; done) | omega)); done) | (rintro (⟨rfl, rfl⟩ | ⟨rfl, h1, h2⟩) <;> ((first | (refine absurd ?_ z; clear z) | (refine absurd ?_ q; clear q)); (first | (simp; done) | (simp [*]; done) | omega))) | (rintro (⟨rfl, rfl⟩ | ⟨rfl, rfl⟩) <;> ((first | (refine absurd ?_ z; clear z) | (refine absurd ?_ q; clear q)); (first | (simp; done) | (simp [*]; done) | omega))) | omega), f2 _ _ (by first | (rintro ⟨rfl, rfl⟩; ((first | (refine absurd ?_ z; clear z) | (refine absurd ?_ q; clear q)); (first | (simp; done) | (simp [*]; done) | omega)); done) | (rintro (⟨rfl, rfl⟩ | ⟨rfl, h1, h2⟩) <;> ((first | (refine absurd ?_ z; clear z) | (refine absurd ?_ q; clear q)); (first | (simp; done) | (simp [*]; done) | omega))) | (rintro (⟨rfl, rfl⟩ | ⟨rfl, rfl⟩) <;> ((first | (refine absurd ?_ z; clear z) | (refine absurd ?_ q; clear q)); (first | (simp; done) | (simp [*]; done) | omega))) | omega), f1 _ _ (by first | (rintro ⟨rfl, rfl⟩; ((first | (refine absurd ?_ z; clear z) | (refine absurd ?_ q; clear q)); (first | (simp; done) | (simp [*]; done) | omega)); done) | (rintro (⟨rfl, rfl⟩ | ⟨rfl, h1, h2⟩) <;> ((first | (refine absurd ?_ z; clear z) | (refine absurd ?_ q; clear q)); (first | (simp; done) | (simp [*]; done) | omega))) | (rintro (⟨rfl, rfl⟩ | ⟨rfl, rfl⟩) <;> ((first | (refine absurd ?_ z; clear z) | (refine absurd ?_ q; clear q)); (first | (simp; done) | (simp [*]; done) | omega))) | omega)])
      · (try dsimp only) <;> (rw [g4 _ _ (by first | simp | omega), g3 _ _ (by first | simp | omega), g2 _ _ (by first | simp | omega)])
        exact m2
      · (try dsimp only) <;> (rw [g4 _ _ (by first | simp | omega)])
        exact x3
      · (try dsimp only) <;> (rw [g4 _ _ (by first | simp | omega), g3 _ _ (by first | simp | omega), g2 _ _ (by first | simp | omega), f2 _ _ (by first | simp | omega)])
        exact v1
  all_goals (refine alk_ro (ans := 0) I ?_ (fun M1 h1 => ?_))
  all_goals first
    | (unfold f_X10_not
       refine ok_b (c2_has I.cf _) (fun a1 => ok_ite_f (by decide) ?_) (fun z => ok_ite_t rfl (ok_some ⟨lvC.rf M, rfl⟩))
       refine ok_b (c_within _ _ _ _) (fun a2 => ok_ite_f (by decide) ?_) (fun z => ok_ite_t rfl (ok_some ⟨lvC.rf M, rfl⟩))
       exfalso
       first | exact hc a1 | exact hk a2)
    | (unfold f_X11_not
       obtain ⟨M2, e2, H2, f2, l2, g2⟩ := m_start I h1
       refine ok_lt ?_
       rw [e2]
       refine ok_b (m2_isChild H2 _) (fun a1 => ok_ite_f (by decide) ?_) (fun z => ok_ite_t rfl (ok_some ⟨l2, rfl⟩))
       refine ok_b (m_within _ _ _ _) (fun a2 => ok_ite_f (by decide) ?_) (fun z => ok_ite_t rfl (ok_some ⟨l2, rfl⟩))
       exfalso
       first | exact hc a1 | exact hk a2)
/-- a row of masks of pairs, set or not -/
theorem c_setPair {p0 a b : Nat} {is : Int} {Ga Gb : Nat → Bool} (hp : aln p0 = 14) (ha : a < 14) (hb : b < 14) (hab : a ≠ b) (hma : mIs (M p0 a) Ga) (hmb : mIs (M p0 b) Gb) (hsym : Ga b = Gb a) (his : isZ is) :
    Okk (f_X10_setPair p0 a b is M) (fun q => (Ga b = decide (is = 1) ∧ q = (0, M)) ∨ (Ga b ≠ decide (is = 1) ∧ q.1 = 1 ∧ (∀ c i, ¬ (c = p0 ∧ (i = a ∨ i = b)) → q.2 c i = M c i) ∧ mIs (q.2 p0 a) (fun c => if c = b then decide (is = 1) else Ga c) ∧ mIs (q.2 p0 b) (fun c => if c = a then decide (is = 1) else Gb c))) := by
  unfold f_X10_setPair
  refine ok_bnd (c_setBit hma (by rw [hp]; exact ha) hb his) (fun r M1 hM1 => ?_)
  rcases hM1 with ⟨he, hq⟩ | ⟨hne, hr, f1, m1⟩
  · cases hq
    exact ok_ite_t rfl (ok_some (Or.inl ⟨he, rfl⟩))
  · dsimp only at hr f1 m1
    subst hr
    refine ok_ite_f (by decide) ?_
    have hmb1 : mIs (M1 p0 b) Gb := by rw [f1 p0 b (by omega)]; exact hmb
    refine ok_bnd (c_setBit hmb1 (by rw [hp]; exact hb) ha his) (fun r2 M2 hM2 => ?_)
    rcases hM2 with ⟨he, hq⟩ | ⟨hne2, hr2, f2, m2⟩
    · exact absurd (hsym.trans he) hne
    · dsimp only at hr2 f2 m2
      subst hr2
      refine ok_ite_f (by decide) (ok_some (Or.inr ⟨hne, rfl, fun c i q => ?_, ?_, m2⟩))
      · try dsimp only
        rw [f2 c i (by omega), f1 c i (by omega)]
      · try dsimp only
        rw [f2 p0 a (by omega)]; exact m1
theorem m_turns {N : Mem} {y a b : Nat} {is : Int} (hy : aln y = 196) (hy2 : 81 ≤ y) (ha : a < 14) (hb : b < 14) (his : isZ is) :
    Okk (f_X11_turns y a b is N) (fun q => (N y (14 * a + b) = is ∧ q = (0, N)) ∨ (N y (14 * a + b) ≠ is ∧ q.1 = 1 ∧ (∀ c i, ¬ ((c = 80 ∧ i = 43) ∨ (c = y ∧ (i = 14 * a + b ∨ i = 14 * b + a))) → q.2 c i = N c i) ∧ q.2 80 43 = 0 ∧ q.2 y (14 * a + b) = is ∧ q.2 y (14 * b + a) = is)) := by
  unfold f_X11_turns
  (try simp (disch := omega) only [wrap_of, toN, nA, n1, mr2, mr3, mr4, mr9, mr14, ml2, ml3, ml4, ml7, ml14, ml28])
  refine ok_gd (by omega) (ok_ite (fun h => ok_some (Or.inl ⟨h, rfl⟩)) (fun h => ok_lt ?_))
  obtain ⟨N1, e1, g1, x1⟩ := mup_gen N 80 43 0
  rw [e1]; clear e1
  refine ok_gd (by omega) (ok_gd his (ok_lt ?_))
  obtain ⟨N2, e2, g2, x2⟩ := mup_gen N1 y (14 * a + b) is
  rw [e2]; clear e2
  refine ok_gd (by omega) (ok_gd his (ok_lt ?_))
  obtain ⟨N3, e3, g3, x3⟩ := mup_gen N2 y (14 * b + a) is
  rw [e3]; clear e3
  refine ok_some (Or.inr ⟨h, rfl, fun c i q => ?_, ?_, ?_, x3⟩)
  · try dsimp only
    rw [g3 c i (by omega), g2 c i (by omega), g1 c i (by omega)]
  · try dsimp only
    rw [g3 _ _ (by omega), g2 _ _ (by omega)]; exact x1
  · try dsimp only
    by_cases e : 14 * a + b = 14 * b + a
    · rw [e]; exact x3
    · rw [g3 _ _ (by omega)]; exact x2
theorem op_bar (I : Inv M) (a b : Int) {is : Int} (his : isZ is) : Alk (f_X10_bar a b is M) (f_X11_bar a b is) := by
  have h14 := I.1.n14
  have hn := I.1.n
  unfold Alk f_X10_bar
  refine ok_lt ?_
  obtain ⟨M1, e1, f1, v1⟩ := mup_gen M 0 16 0
  rw [e1]; clear e1
  have I1 := inv_b0 I f1 v1
  have C1 : CF M M1 := I.cf.fr (fun c i q => f1 c i (by unfold isC at q; omega))
  have k0 : ∀ N : Mem, (∀ c i, 80 ≤ c → ¬ (c = 80 ∧ i = 0) → N c i = M c i) → N 80 1 = (nK M : Int) := fun N h => by rw [h 80 1 (by omega) (by omega)]; exact hn.symm
  refine ok_b (c2_areTwo C1 a b) (fun hab => ok_ite_f (by decide) ?_) (fun hab => ok_ite_t rfl (ok_some ?_))
  · obtain ⟨a, rfl, ha⟩ := nat_of hab.1
    obtain ⟨b, rfl, hb⟩ := nat_of hab.2.1
    have hne : a ≠ b := fun z => hab.2.2 (by rw [z])
    have hma : mIs (M1 10 a) (fun c => decide (M 88 (14 * a + c) = 1)) := by rw [f1 10 a (by omega)]; exact (I.1.d1 a (by omega)).m
    have hmb : mIs (M1 10 b) (fun c => decide (M 88 (14 * b + c) = 1)) := by rw [f1 10 b (by omega)]; exact (I.1.d1 b (by omega)).m
    have hz := I.1.d4 a b (by omega) (by omega)
    have hsym : decide (M 88 (14 * a + b) = 1) = decide (M 88 (14 * b + a) = 1) := by rw [hz.2.1]
    refine ok_bnd (c_setPair aln10 (by omega) (by omega) hne hma hmb hsym his) (fun r M2 hM2 => ?_)
    rcases hM2 with ⟨he, hq⟩ | ⟨hne2, hr, f2, m2a, m2b⟩
    · cases hq
      refine ok_ite_t rfl (ok_some ?_)
      have e := (dec_is hz.1 his).mp he
      unfold f_X11_bar
      obtain ⟨N2, e2, g2⟩ := th0 M1
      refine ok_lt ?_
      rw [e2]; clear e2
      have inv : Inv N2 := I1.congr (fun c i q => g2 c i (by unfold isS isFa isO isX1 isX2 at q; omega))
      refine ok_b (m_areTwo' (k0 N2 (fun c i h1 h2 => by rw [g2 c i h2, f1 c i (by omega)])) h14 _ _) (fun _ => ok_ite_f (by decide) ?_) (fun z => absurd hab z)
      refine ok_bnd (m_turns aln88 (by omega) (show a < 14 by omega) (show b < 14 by omega) his) (fun r N3 hN3 => ?_)
      rcases hN3 with ⟨-, hq⟩ | ⟨hx, -⟩
      · cases hq
        exact ok_ite_t rfl (ok_some ⟨rfl, inv⟩)
      · exact absurd (by rw [g2 88 _ (by omega), f1 88 _ (by omega)]; exact e) hx
    · dsimp only at hr f2 m2a m2b
      subst hr
      refine ok_ite_f (by decide) (ok_some ?_)
      have e : M 88 (14 * a + b) ≠ is := fun z => hne2 ((dec_is hz.1 his).mpr z)
      unfold f_X11_bar
      obtain ⟨N2, e2, g2⟩ := th0 M2
      refine ok_lt ?_
      rw [e2]; clear e2
      refine ok_b (m_areTwo' (k0 N2 (fun c i h1 h2 => by rw [g2 c i h2, f2 c i (by omega), f1 c i (by omega)])) h14 _ _) (fun _ => ok_ite_f (by decide) ?_) (fun z => absurd hab z)
      refine ok_bnd (m_turns aln88 (by omega) (show a < 14 by omega) (show b < 14 by omega) his) (fun r N3 hN3 => ?_)
      rcases hN3 with ⟨hx, -⟩ | ⟨-, hr, g3, x43, xa, xb⟩
      · exact absurd (by rw [g2 88 _ (by omega), f2 88 _ (by omega), f1 88 _ (by omega)] at hx; exact hx) e
      · dsimp only at hr g3 x43 xa xb
        subst hr
        refine ok_ite_f (by decide) (ok_some ⟨rfl, up_bar (a := a) (b := b) (v := is) ha hb hne his I (fun c i q => ?_) ?_ ?_ xa xb ?_ x43⟩)
        · (try dsimp only) <;> (rw [g3 _ _ (by first | (rintro ⟨rfl, rfl⟩; ((first | (refine absurd ?_ z; clear z) | (refine absurd ?_ q; clear q)); (first | (simp; done) | (simp [*]; done) | omega)); done) | (rintro (⟨rfl, rfl⟩ | ⟨rfl, h1, h2⟩) <;> ((first | (refine absurd ?_ z; clear z) | (refine absurd ?_ q; clear q)); (first | (simp; done) | (simp [*]; done) | omega))) | (rintro (⟨rfl, rfl⟩ | ⟨rfl, rfl⟩) <;> ((first | (refine absurd ?_ z; clear z) | (refine absurd ?_ q; clear q)); (first | (simp; done) | (simp [*]; done) | omega))) | omega), g2 _ _ (by first | (rintro ⟨rfl, rfl⟩; ((first | (refine absurd ?_ z; clear z) | (refine absurd ?_ q; clear q)); (first | (simp; done) | (simp [*]; done) | omega)); done) | (rintro (⟨rfl, rfl⟩ | ⟨rfl, h1, h2⟩) <;> ((first | (refine absurd ?_ z; clear z) | (refine absurd ?_ q; clear q)); (first | (simp; done) | (simp [*]; done) | omega))) | (rintro (⟨rfl, rfl⟩ | ⟨rfl, rfl⟩) <;> ((first | (refine absurd ?_ z; clear z) | (refine absurd ?_ q; clear q)); (first | (simp; done) | (simp [*]; done) | omega))) | omega), f2 _ _ (by first | (rintro ⟨rfl, rfl⟩; ((first | (refine absurd ?_ z; clear z) | (refine absurd ?_ q; clear q)); (first | (simp; done) | (simp [*]; done) | omega)); done) | (rintro (⟨rfl, rfl⟩ | ⟨rfl, h1, h2⟩) <;> ((first | (refine absurd ?_ z; clear z) | (refine absurd ?_ q; clear q)); (first | (simp; done) | (simp [*]; done) | omega))) | (rintro (⟨rfl, rfl⟩ | ⟨rfl, rfl⟩) <;> ((first | (refine absurd ?_ z; clear z) | (refine absurd ?_ q; clear q)); (first | (simp; done) | (simp [*]; done) | omega))) | omega), f1 _ _ (by first | (rintro ⟨rfl, rfl⟩; ((first | (refine absurd ?_ z; clear z) | (refine absurd ?_ q; clear q)); (first | (simp; done) | (simp [*]; done) | omega)); done) | (rintro (⟨rfl, rfl⟩ | ⟨rfl, h1, h2⟩) <;> ((first | (refine absurd ?_ z; clear z) | (refine absurd ?_ q; clear q)); (first | (simp; done) | (simp [*]; done) | omega))) | (rintro (⟨rfl, rfl⟩ | ⟨rfl, rfl⟩) <;> ((first | (refine absurd ?_ z; clear z) | (refine absurd ?_ q; clear q)); (first | (simp; done) | (simp [*]; done) | omega))) | omega)])
        · (try dsimp only) <;> (rw [g3 _ _ (by first | simp | omega), g2 _ _ (by first | simp | omega)])
          exact m2a
        · (try dsimp only) <;> (rw [g3 _ _ (by first | simp | omega), g2 _ _ (by first | simp | omega)])
          exact m2b
        · (try dsimp only) <;> (rw [g3 _ _ (by first | simp | omega), g2 _ _ (by first | simp | omega), f2 _ _ (by first | simp | omega)])
          exact v1
  · unfold f_X11_bar
    obtain ⟨N2, e2, g2⟩ := th0 M1
    refine ok_lt ?_
    rw [e2]; clear e2
    exact ok_b (m_areTwo' (k0 N2 (fun c i h1 h2 => by rw [g2 c i h2, f1 c i (by omega)])) h14 _ _) (fun z => absurd z hab) (fun z => ok_ite_t rfl (ok_some ⟨rfl, I1.congr (fun c i q => g2 c i (by unfold isS isFa isO isX1 isX2 at q; omega))⟩))
theorem op_twins (I : Inv M) (a b : Int) {is : Int} (his : isZ is) : Alk (f_X10_twins a b is M) (f_X11_twins a b is) := by
  have h14 := I.1.n14
  have hn := I.1.n
  unfold Alk f_X10_twins
  refine ok_lt ?_
  obtain ⟨M1, e1, f1, v1⟩ := mup_gen M 0 16 0
  rw [e1]; clear e1
  have I1 := inv_b0 I f1 v1
  have C1 : CF M M1 := I.cf.fr (fun c i q => f1 c i (by unfold isC at q; omega))
  have k0 : ∀ N : Mem, (∀ c i, 80 ≤ c → ¬ (c = 80 ∧ i = 0) → N c i = M c i) → N 80 1 = (nK M : Int) := fun N h => by rw [h 80 1 (by omega) (by omega)]; exact hn.symm
  refine ok_b (c2_areTwo C1 a b) (fun hab => ok_ite_f (by decide) ?_) (fun hab => ok_ite_t rfl (ok_some ?_))
  · obtain ⟨a, rfl, ha⟩ := nat_of hab.1
    obtain ⟨b, rfl, hb⟩ := nat_of hab.2.1
    have hne : a ≠ b := fun z => hab.2.2 (by rw [z])
    have hma : mIs (M1 11 a) (fun c => decide (M 89 (14 * a + c) = 1)) := by rw [f1 11 a (by omega)]; exact (I.1.d2 a (by omega)).m
    have hmb : mIs (M1 11 b) (fun c => decide (M 89 (14 * b + c) = 1)) := by rw [f1 11 b (by omega)]; exact (I.1.d2 b (by omega)).m
    have hz := I.1.d5 a b (by omega) (by omega)
    have hsym : decide (M 89 (14 * a + b) = 1) = decide (M 89 (14 * b + a) = 1) := by rw [hz.2.1]
    refine ok_bnd (c_setPair aln11 (by omega) (by omega) hne hma hmb hsym his) (fun r M2 hM2 => ?_)
    rcases hM2 with ⟨he, hq⟩ | ⟨hne2, hr, f2, m2a, m2b⟩
    · cases hq
      refine ok_ite_t rfl (ok_some ?_)
      have e := (dec_is hz.1 his).mp he
      unfold f_X11_twins
      obtain ⟨N2, e2, g2⟩ := th0 M1
      refine ok_lt ?_
      rw [e2]; clear e2
      have inv : Inv N2 := I1.congr (fun c i q => g2 c i (by unfold isS isFa isO isX1 isX2 at q; omega))
      refine ok_b (m_areTwo' (k0 N2 (fun c i h1 h2 => by rw [g2 c i h2, f1 c i (by omega)])) h14 _ _) (fun _ => ok_ite_f (by decide) ?_) (fun z => absurd hab z)
      refine ok_bnd (m_turns aln89 (by omega) (show a < 14 by omega) (show b < 14 by omega) his) (fun r N3 hN3 => ?_)
      rcases hN3 with ⟨-, hq⟩ | ⟨hx, -⟩
      · cases hq
        exact ok_ite_t rfl (ok_some ⟨rfl, inv⟩)
      · exact absurd (by rw [g2 89 _ (by omega), f1 89 _ (by omega)]; exact e) hx
    · dsimp only at hr f2 m2a m2b
      subst hr
      refine ok_ite_f (by decide) (ok_some ?_)
      have e : M 89 (14 * a + b) ≠ is := fun z => hne2 ((dec_is hz.1 his).mpr z)
      unfold f_X11_twins
      obtain ⟨N2, e2, g2⟩ := th0 M2
      refine ok_lt ?_
      rw [e2]; clear e2
      refine ok_b (m_areTwo' (k0 N2 (fun c i h1 h2 => by rw [g2 c i h2, f2 c i (by omega), f1 c i (by omega)])) h14 _ _) (fun _ => ok_ite_f (by decide) ?_) (fun z => absurd hab z)
      refine ok_bnd (m_turns aln89 (by omega) (show a < 14 by omega) (show b < 14 by omega) his) (fun r N3 hN3 => ?_)
      rcases hN3 with ⟨hx, -⟩ | ⟨-, hr, g3, x43, xa, xb⟩
      · exact absurd (by rw [g2 89 _ (by omega), f2 89 _ (by omega), f1 89 _ (by omega)] at hx; exact hx) e
      · dsimp only at hr g3 x43 xa xb
        subst hr
        refine ok_ite_f (by decide) (ok_some ⟨rfl, up_twins (a := a) (b := b) (v := is) ha hb hne his I (fun c i q => ?_) ?_ ?_ xa xb ?_ x43⟩)
        · (try dsimp only) <;> (rw [g3 _ _ (by first | (rintro ⟨rfl, rfl⟩; ((first | (refine absurd ?_ z; clear z) | (refine absurd ?_ q; clear q)); (first | (simp; done) | (simp [*]; done) | omega)); done) | (rintro (⟨rfl, rfl⟩ | ⟨rfl, h1, h2⟩) <;> ((first | (refine absurd ?_ z; clear z) | (refine absurd ?_ q; clear q)); (first | (simp; done) | (simp [*]; done) | omega))) | (rintro (⟨rfl, rfl⟩ | ⟨rfl, rfl⟩) <;> ((first | (refine absurd ?_ z; clear z) | (refine absurd ?_ q; clear q)); (first | (simp; done) | (simp [*]; done) | omega))) | omega), g2 _ _ (by first | (rintro ⟨rfl, rfl⟩; ((first | (refine absurd ?_ z; clear z) | (refine absurd ?_ q; clear q)); (first | (simp; done) | (simp [*]; done) | omega)); done) | (rintro (⟨rfl, rfl⟩ | ⟨rfl, h1, h2⟩) <;> ((first | (refine absurd ?_ z; clear z) | (refine absurd ?_ q; clear q)); (first | (simp; done) | (simp [*]; done) | omega))) | (rintro (⟨rfl, rfl⟩ | ⟨rfl, rfl⟩) <;> ((first | (refine absurd ?_ z; clear z) | (refine absurd ?_ q; clear q)); (first | (simp; done) | (simp [*]; done) | omega))) | omega), f2 _ _ (by first | (rintro ⟨rfl, rfl⟩; ((first | (refine absurd ?_ z; clear z) | (refine absurd ?_ q; clear q)); (first | (simp; done) | (simp [*]; done) | omega)); done) | (rintro (⟨rfl, rfl⟩ | ⟨rfl, h1, h2⟩) <;> ((first | (refine absurd ?_ z; clear z) | (refine absurd ?_ q; clear q)); (first | (simp; done) | (simp [*]; done) | omega))) | (rintro (⟨rfl, rfl⟩ | ⟨rfl, rfl⟩) <;> ((first | (refine absurd ?_ z; clear z) | (refine absurd ?_ q; clear q)); (first | (simp; done) | (simp [*]; done) | omega))) | omega), f1 _ _ (by first | (rintro ⟨rfl, rfl⟩; ((first | (refine absurd ?_ z; clear z) | (refine absurd ?_ q; clear q)); (first | (simp; done) | (simp [*]; done) | omega)); done) | (rintro (⟨rfl, rfl⟩ | ⟨rfl, h1, h2⟩) <;> ((first | (refine absurd ?_ z; clear z) | (refine absurd ?_ q; clear q)); (first | (simp; done) | (simp [*]; done) | omega))) | (rintro (⟨rfl, rfl⟩ | ⟨rfl, rfl⟩) <;> ((first | (refine absurd ?_ z; clear z) | (refine absurd ?_ q; clear q)); (first | (simp; done) | (simp [*]; done) | omega))) | omega)])
        · (try dsimp only) <;> (rw [g3 _ _ (by first | simp | omega), g2 _ _ (by first | simp | omega)])
          exact m2a
        · (try dsimp only) <;> (rw [g3 _ _ (by first | simp | omega), g2 _ _ (by first | simp | omega)])
          exact m2b
        · (try dsimp only) <;> (rw [g3 _ _ (by first | simp | omega), g2 _ _ (by first | simp | omega), f2 _ _ (by first | simp | omega)])
          exact v1
  · unfold f_X11_twins
    obtain ⟨N2, e2, g2⟩ := th0 M1
    refine ok_lt ?_
    rw [e2]; clear e2
    exact ok_b (m_areTwo' (k0 N2 (fun c i h1 h2 => by rw [g2 c i h2, f1 c i (by omega)])) h14 _ _) (fun z => absurd z hab) (fun z => ok_ite_t rfl (ok_some ⟨rfl, I1.congr (fun c i q => g2 c i (by unfold isS isFa isO isX1 isX2 at q; omega))⟩))
theorem op_classes (I : Inv M) (n : Int) : Alk (f_X10_classes n M) (f_X11_classes n) := by
  have h14 := I.1.n14
  have hn := I.1.n
  by_cases hv : 2 ≤ n ∧ n ≤ 3
  · by_cases hl : ∀ c, c < nK M → M 110 c < n
    · unfold Alk f_X10_classes
      refine ok_b (c_within _ _ _ _) (fun _ => ok_ite_f (by decide) ?_) (fun z => absurd hv z)
      refine ok_lpr (P := fun _ => True) (P2 := fun _ => False) ?_ (fun v _ => ?_) (fun q hq => hq.elim)
      · unfold f_X10_classes_l13
        refine ok_whl 14 (fun k s => s = (k : Int)) (FU_big (by omega)) rfl ?_
        rintro k v hk rfl
        unfold f_X10_classes_s13
        refine ok_ite (fun h => ok_some trivial) (fun h => ok_gd (by omega) ?_)
        have hlt : M 1 k < n := by
          rw [I.l1 k]
          by_cases hkn : k < nK M
          · exact hl k hkn
          · have := (I.2.1.ls k (by omega)).2 (by omega)
            omega
        rw [toN]
        refine ok_ite_t hlt ?_
        rw [wrap_n1 (by omega)]
        exact ok_lt (ok_some ⟨by omega, rfl⟩)
      · unfold f_X10_classes_j37
        refine ok_lt ?_
        obtain ⟨M1, e1, f1, v1⟩ := mup_gen M 0 16 0
        rw [e1]; clear e1
        refine ok_lt ?_
        obtain ⟨M2, e2, f2, v2⟩ := mup_gen M1 3 13 n
        rw [e2]; clear e2
        refine ok_some ?_
        unfold f_X11_classes
        obtain ⟨N2, e2, g2⟩ := th0 M2
        refine ok_lt ?_
        rw [e2]; clear e2
        refine ok_b (m_within _ _ _ _) (fun _ => ok_ite_f (by decide) ?_) (fun z => absurd hv z)
        refine ok_lpr (P := fun _ => True) (P2 := fun _ => False) ?_ (fun v _ => ?_) (fun q hq => hq.elim)
        · unfold f_X11_classes_l18
          refine ok_whl (nK M) (fun k s => s = (k : Int)) (FU_big (by omega)) rfl ?_
          rintro k v hk rfl
          unfold f_X11_classes_s18
          have k1 : N2 80 1 = (nK M : Int) := by rw [g2 80 1 (by omega), f2 80 1 (by omega), f1 80 1 (by omega)]; exact hn.symm
          have k2 : N2 110 k = M 110 k := by rw [g2 110 k (by omega), f2 110 k (by omega), f1 110 k (by omega)]
          rw [k1, toN, k2]
          refine ok_ite (fun h => ok_some trivial) (fun h => ok_gd (by omega) (ok_ite_t (hl k (by omega)) ?_))
          rw [wrap_n1 (by omega)]
          exact ok_lt (ok_some ⟨by omega, rfl⟩)
        · unfold f_X11_classes_j44
          refine ok_lt ?_
          obtain ⟨N3, e3, g3, x3⟩ := mup_gen N2 80 12 n
          rw [e3]; clear e3
          refine ok_lt ?_
          obtain ⟨N4, e4, g4, x4⟩ := mup_gen N3 80 43 0
          rw [e4]; clear e4
          refine ok_some ⟨rfl, up_classes (v := n) (by omega) hl I (fun c i q => ?_) ?_ ?_ ?_ x4⟩
          · (try dsimp only) <;> (rw [g4 _ _ (by first | (rintro ⟨rfl, rfl⟩; ((first | (refine absurd ?_ z; clear z) | (refine absurd ?_ q; clear q)); (first | (simp; done) | (simp [*]; done) | omega)); done) | (rintro (⟨rfl, rfl⟩ | ⟨rfl, h1, h2⟩) <;> ((first | (refine absurd ?_ z; clear z) | (refine absurd ?_ q; clear q)); (first | (simp; done) | (simp [*]; done) | omega))) | (rintro (⟨rfl, rfl⟩ | ⟨rfl, rfl⟩) <;> ((first | (refine absurd ?_ z; clear z) | (refine absurd ?_ q; clear q)); (first | (simp; done) | (simp [*]; done) | omega))) | omega), g3 _ _ (by first | (rintro ⟨rfl, rfl⟩; ((first | (refine absurd ?_ z; clear z) | (refine absurd ?_ q; clear q)); (first | (simp; done) | (simp [*]; done) | omega)); done) | (rintro (⟨rfl, rfl⟩ | ⟨rfl, h1, h2⟩) <;> ((first | (refine absurd ?_ z; clear z) | (refine absurd ?_ q; clear q)); (first | (simp; done) | (simp [*]; done) | omega))) | (rintro (⟨rfl, rfl⟩ | ⟨rfl, rfl⟩) <;> ((first | (refine absurd ?_ z; clear z) | (refine absurd ?_ q; clear q)); (first | (simp; done) | (simp [*]; done) | omega))) | omega), g2 _ _ (by first | (rintro ⟨rfl, rfl⟩; ((first | (refine absurd ?_ z; clear z) | (refine absurd ?_ q; clear q)); (first | (simp; done) | (simp [*]; done) | omega)); done) | (rintro (⟨rfl, rfl⟩ | ⟨rfl, h1, h2⟩) <;> ((first | (refine absurd ?_ z; clear z) | (refine absurd ?_ q; clear q)); (first | (simp; done) | (simp [*]; done) | omega))) | (rintro (⟨rfl, rfl⟩ | ⟨rfl, rfl⟩) <;> ((first | (refine absurd ?_ z; clear z) | (refine absurd ?_ q; clear q)); (first | (simp; done) | (simp [*]; done) | omega))) | omega), f2 _ _ (by first | (rintro ⟨rfl, rfl⟩; ((first | (refine absurd ?_ z; clear z) | (refine absurd ?_ q; clear q)); (first | (simp; done) | (simp [*]; done) | omega)); done) | (rintro (⟨rfl, rfl⟩ | ⟨rfl, h1, h2⟩) <;> ((first | (refine absurd ?_ z; clear z) | (refine absurd ?_ q; clear q)); (first | (simp; done) | (simp [*]; done) | omega))) | (rintro (⟨rfl, rfl⟩ | ⟨rfl, rfl⟩) <;> ((first | (refine absurd ?_ z; clear z) | (refine absurd ?_ q; clear q)); (first | (simp; done) | (simp [*]; done) | omega))) | omega), f1 _ _ (by first | (rintro ⟨rfl, rfl⟩; ((first | (refine absurd ?_ z; clear z) | (refine absurd ?_ q; clear q)); (first | (simp; done) | (simp [*]; done) | omega)); done) | (rintro (⟨rfl, rfl⟩ | ⟨rfl, h1, h2⟩) <;> ((first | (refine absurd ?_ z; clear z) | (refine absurd ?_ q; clear q)); (first | (simp; done) | (simp [*]; done) | omega))) | (rintro (⟨rfl, rfl⟩ | ⟨rfl, rfl⟩) <;> ((first | (refine absurd ?_ z; clear z) | (refine absurd ?_ q; clear q)); (first | (simp; done) | (simp [*]; done) | omega))) | omega)])
          · (try dsimp only) <;> (rw [g4 _ _ (by first | simp | omega), g3 _ _ (by first | simp | omega), g2 _ _ (by first | simp | omega)])
            exact v2
          · (try dsimp only) <;> (rw [g4 _ _ (by first | simp | omega)])
            exact x3
          · (try dsimp only) <;> (rw [g4 _ _ (by first | simp | omega), g3 _ _ (by first | simp | omega), g2 _ _ (by first | simp | omega), f2 _ _ (by first | simp | omega)])
            exact v1
    · have hl2 : ∃ c, c < nK M ∧ n ≤ M 110 c := by
        apply Classical.byContradiction
        intro hc
        exact hl (fun c hc2 => by
          apply Classical.byContradiction
          intro z
          exact hc ⟨c, hc2, by omega⟩)
      obtain ⟨c0, hc0, hge⟩ := hl2
      refine alk_ro (ans := 0) I ?_ (fun M1 h1 => ?_)
      · unfold f_X10_classes
        refine ok_b (c_within _ _ _ _) (fun _ => ok_ite_f (by decide) ?_) (fun z => absurd hv z)
        refine ok_lpr (P := fun _ => False) (P2 := fun q => q = (0, M)) ?_ (fun v hv => hv.elim) (fun q hq => ok_some (by rw [hq]; exact ⟨lvC.rf M, rfl⟩))
        unfold f_X10_classes_l13
        refine ok_whl c0 (fun k s => s = (k : Int)) (FU_big (by omega)) rfl ?_
        rintro k v hk rfl
        unfold f_X10_classes_s13
        rw [toN, I.l1 k]
        refine ok_ite_f (by omega) (ok_gd (by omega) (ok_ite (fun h => ?_) (fun h => ok_some rfl)))
        have hne : k ≠ c0 := fun z => by subst z; omega
        rw [wrap_n1 (by omega)]
        exact ok_lt (ok_some ⟨by omega, rfl⟩)
      · unfold f_X11_classes
        obtain ⟨M2, e2, H2, f2, l2, g2⟩ := m_start I h1
        refine ok_lt ?_
        rw [e2]
        refine ok_b (m_within _ _ _ _) (fun _ => ok_ite_f (by decide) ?_) (fun z => absurd hv z)
        refine ok_lpr (P := fun _ => False) (P2 := fun q => q = (0, M2)) ?_ (fun v hv => hv.elim) (fun q hq => ok_some (by rw [hq]; exact ⟨l2, rfl⟩))
        unfold f_X11_classes_l18
        refine ok_whl c0 (fun k s => s = (k : Int)) (FU_big (by omega)) rfl ?_
        rintro k v hk rfl
        unfold f_X11_classes_s18
        rw [toN, g2 110 k (by omega) (by omega), H2.n]
        refine ok_ite_f (by omega) (ok_gd (by omega) (ok_ite (fun h => ?_) (fun h => ok_some rfl)))
        have hne : k ≠ c0 := fun z => by subst z; omega
        rw [wrap_n1 (by omega)]
        exact ok_lt (ok_some ⟨by omega, rfl⟩)
  · refine alk_ro (ans := 0) I ?_ (fun M1 h1 => ?_)
    · unfold f_X10_classes
      exact ok_b (c_within _ _ _ _) (fun z => absurd z hv) (fun z => ok_ite_t rfl (ok_some ⟨lvC.rf M, rfl⟩))
    · unfold f_X11_classes
      obtain ⟨M2, e2, H2, f2, l2, g2⟩ := m_start I h1
      refine ok_lt ?_
      rw [e2]
      exact ok_b (m_within _ _ _ _) (fun z => absurd z hv) (fun z => ok_ite_t rfl (ok_some ⟨l2, rfl⟩))
theorem op_word (I : Inv M) (c v w : Int) : Alk (f_X10_word c v w M) (f_X11_word c v w) := by
  have h14 := I.1.n14
  have hn := I.1.n
  by_cases hc : 0 ≤ c ∧ c < (nK M : Int)
  by_cases hl : M 110 c.toNat = -1
  rotate_left
  by_cases hv : 0 ≤ v ∧ v ≤ 10
  by_cases hw : 0 ≤ w ∧ w ≤ 5
  · obtain ⟨c, rfl, hc2⟩ := nat_of hc
    obtain ⟨v, rfl, -, hv2⟩ := nat_le (lo := 0) (n := 10) hv
    obtain ⟨w, rfl, -, hw2⟩ := nat_le (lo := 0) (n := 5) hw
    rw [toN] at hl
    unfold Alk f_X10_word
    refine ok_b (c2_has I.cf _) (fun _ => ok_ite_f (by decide) ?_) (fun z => absurd hc z)
    rw [toN, I.l1 c]
    refine ok_gd (by omega) (ok_ite_f hl ?_)
    refine ok_b (c_within _ _ _ _) (fun _ => ok_ite_f (by decide) ?_) (fun z => absurd hv z)
    refine ok_b (c_within _ _ _ _) (fun _ => ok_ite_f (by decide) ?_) (fun z => absurd hw z)
    refine ok_gd (by omega) (ok_lt ?_)
    obtain ⟨M1, e1, f1, v1⟩ := mup_gen M 14 c (v : Int)
    rw [e1]; clear e1
    refine ok_gd (by omega) (ok_lt ?_)
    obtain ⟨M2, e2, f2, v2⟩ := mup_gen M1 15 c (w : Int)
    rw [e2]; clear e2
    refine ok_some ?_
    unfold f_X11_word
    obtain ⟨N2, e2, g2⟩ := th0 M2
    refine ok_lt ?_
    rw [e2]; clear e2
    have k1 : N2 80 1 = (nK M : Int) := by rw [g2 80 1 (by omega), f2 80 1 (by omega), f1 80 1 (by omega)]; exact hn.symm
    refine ok_b (m_isChild' k1 h14 _) (fun _ => ok_ite_f (by decide) ?_) (fun z => absurd hc z)
    rw [toN, g2 110 c (by omega), f2 110 c (by omega), f1 110 c (by omega)]
    refine ok_gd (by omega) (ok_ite_f hl ?_)
    refine ok_b (m_within _ _ _ _) (fun _ => ok_ite_f (by decide) ?_) (fun z => absurd hv z)
    refine ok_b (m_within _ _ _ _) (fun _ => ok_ite_f (by decide) ?_) (fun z => absurd hw z)
    refine ok_gd (by omega) (ok_lt ?_)
    obtain ⟨N3, e3, g3, x3⟩ := mup_gen N2 114 c (v : Int)
    rw [e3]; clear e3
    refine ok_gd (by omega) (ok_lt ?_)
    obtain ⟨N4, e4, g4, x4⟩ := mup_gen N3 115 c (w : Int)
    rw [e4]; clear e4
    refine ok_some ⟨rfl, up_word (cc := c) (v := v) (w := w) hc2 hv2 hw2 I (fun c i q => ?_) ?_ ?_ ?_ x4⟩
    · (try dsimp only) <;> (rw [g4 _ _ (by first | (rintro ⟨rfl, rfl⟩; ((first | (refine absurd ?_ z; clear z) | (refine absurd ?_ q; clear q)); (first | (simp; done) | (simp [*]; done) | omega)); done) | (rintro (⟨rfl, rfl⟩ | ⟨rfl, h1, h2⟩) <;> ((first | (refine absurd ?_ z; clear z) | (refine absurd ?_ q; clear q)); (first | (simp; done) | (simp [*]; done) | omega))) | (rintro (⟨rfl, rfl⟩ | ⟨rfl, rfl⟩) <;> ((first | (refine absurd ?_ z; clear z) | (refine absurd ?_ q; clear q)); (first | (simp; done) | (simp [*]; done) | omega))) | omega), g3 _ _ (by first | (rintro ⟨rfl, rfl⟩; ((first | (refine absurd ?_ z; clear z) | (refine absurd ?_ q; clear q)); (first | (simp; done) | (simp [*]; done) | omega)); done) | (rintro (⟨rfl, rfl⟩ | ⟨rfl, h1, h2⟩) <;> ((first | (refine absurd ?_ z; clear z) | (refine absurd ?_ q; clear q)); (first | (simp; done) | (simp [*]; done) | omega))) | (rintro (⟨rfl, rfl⟩ | ⟨rfl, rfl⟩) <;> ((first | (refine absurd ?_ z; clear z) | (refine absurd ?_ q; clear q)); (first | (simp; done) | (simp [*]; done) | omega))) | omega), g2 _ _ (by first | (rintro ⟨rfl, rfl⟩; ((first | (refine absurd ?_ z; clear z) | (refine absurd ?_ q; clear q)); (first | (simp; done) | (simp [*]; done) | omega)); done) | (rintro (⟨rfl, rfl⟩ | ⟨rfl, h1, h2⟩) <;> ((first | (refine absurd ?_ z; clear z) | (refine absurd ?_ q; clear q)); (first | (simp; done) | (simp [*]; done) | omega))) | (rintro (⟨rfl, rfl⟩ | ⟨rfl, rfl⟩) <;> ((first | (refine absurd ?_ z; clear z) | (refine absurd ?_ q; clear q)); (first | (simp; done) | (simp [*]; done) | omega))) | omega), f2 _ _ (by first | (rintro ⟨rfl, rfl⟩; ((first | (refine absurd ?_ z; clear z) | (refine absurd ?_ q; clear q)); (first | (simp; done) | (simp [*]; done) | omega)); done) | (rintro (⟨rfl, rfl⟩ | ⟨rfl, h1, h2⟩) <;> ((first | (refine absurd ?_ z; clear z) | (refine absurd ?_ q; clear q)); (first | (simp; done) | (simp [*]; done) | omega))) | (rintro (⟨rfl, rfl⟩ | ⟨rfl, rfl⟩) <;> ((first | (refine absurd ?_ z; clear z) | (refine absurd ?_ q; clear q)); (first | (simp; done) | (simp [*]; done) | omega))) | omega), f1 _ _ (by first | (rintro ⟨rfl, rfl⟩; ((first | (refine absurd ?_ z; clear z) | (refine absurd ?_ q; clear q)); (first | (simp; done) | (simp [*]; done) | omega)); done) | (rintro (⟨rfl, rfl⟩ | ⟨rfl, h1, h2⟩) <;> ((first | (refine absurd ?_ z; clear z) | (refine absurd ?_ q; clear q)); (first | (simp; done) | (simp [*]; done) | omega))) | (rintro (⟨rfl, rfl⟩ | ⟨rfl, rfl⟩) <;> ((first | (refine absurd ?_ z; clear z) | (refine absurd ?_ q; clear q)); (first | (simp; done) | (simp [*]; done) | omega))) | omega)])
    · (try dsimp only) <;> (rw [g4 _ _ (by first | simp | omega), g3 _ _ (by first | simp | omega), g2 _ _ (by first | simp | omega), f2 _ _ (by first | simp | omega)])
      exact v1
    · (try dsimp only) <;> (rw [g4 _ _ (by first | simp | omega)])
      exact x3
    · (try dsimp only) <;> (rw [g4 _ _ (by first | simp | omega), g3 _ _ (by first | simp | omega), g2 _ _ (by first | simp | omega)])
      exact v2
  all_goals (refine alk_ro (ans := 0) I ?_ (fun M1 h1 => ?_))
  all_goals first
    | (unfold f_X10_word
       refine ok_b (c2_has I.cf _) (fun a1 => ok_ite_f (by decide) ?_) (fun z => ok_ite_t rfl (ok_some ⟨lvC.rf M, rfl⟩))
       refine ok_gd (by omega) (ok_ite (fun h => ok_some ⟨lvC.rf M, rfl⟩) (fun h => ?_))
       rw [I.l1 c.toNat] at h
       refine ok_b (c_within _ _ _ _) (fun a2 => ok_ite_f (by decide) ?_) (fun z => ok_ite_t rfl (ok_some ⟨lvC.rf M, rfl⟩))
       refine ok_b (c_within _ _ _ _) (fun a3 => ok_ite_f (by decide) ?_) (fun z => ok_ite_t rfl (ok_some ⟨lvC.rf M, rfl⟩))
       exfalso
       first | exact hc a1 | exact h hl | exact hv a2 | exact hw a3)
    | (unfold f_X11_word
       obtain ⟨M2, e2, H2, f2, l2, g2⟩ := m_start I h1
       refine ok_lt ?_
       rw [e2]
       refine ok_b (m2_isChild H2 _) (fun a1 => ok_ite_f (by decide) ?_) (fun z => ok_ite_t rfl (ok_some ⟨l2, rfl⟩))
       refine ok_gd (by omega) (ok_ite (fun h => ok_some ⟨l2, rfl⟩) (fun h => ?_))
       rw [g2 110 c.toNat (by omega) (by omega)] at h
       refine ok_b (m_within _ _ _ _) (fun a2 => ok_ite_f (by decide) ?_) (fun z => ok_ite_t rfl (ok_some ⟨l2, rfl⟩))
       refine ok_b (m_within _ _ _ _) (fun a3 => ok_ite_f (by decide) ?_) (fun z => ok_ite_t rfl (ok_some ⟨l2, rfl⟩))
       exfalso
       first | exact hc a1 | exact h hl | exact hv a2 | exact hw a3)
end PAIRS
