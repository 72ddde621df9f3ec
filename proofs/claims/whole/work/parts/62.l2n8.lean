/-! change -/
theorem enum_p (p : Nat → Bool) (N : Nat) : ∃ mem : Nat → Nat, ∀ i, i < fb_ct p N → mem i < N ∧ p (mem i) = true ∧ fb_ct p (mem i) = i := by
  have h : ∀ i, ∃ c, i < fb_ct p N → c < N ∧ p c = true ∧ fb_ct p c = i := by
    intro i
    by_cases hi : i < fb_ct p N
    · obtain ⟨c, h1, h2, h3⟩ := fb_ct_kth hi
      exact ⟨c, fun _ => ⟨h1, h2, h3⟩⟩
    · exact ⟨0, fun z => absurd z hi⟩
  exact ⟨fun i => Classical.choose (h i), fun i hi => Classical.choose_spec (h i) hi⟩
theorem ct_lt {p : Nat → Bool} {c N : Nat} (hc : c < N) (hp : p c = true) : fb_ct p c < fb_ct p N := by
  have := fb_ct_mono p (m := c + 1) (n := N) (by omega)
  rw [fb_ct_succ, if_pos hp] at this
  omega
def onL (M : Mem) (c : Nat) : Bool := decide (M 110 c ≠ -1)
section CHANGE
variable {M : Mem}
theorem c_admit1 {M0 : Mem} {k : Nat} (h : M0 35 2 = (k : Int)) (hk : k < 9) (c st : Int) : ∃ M', f_X8_admit c st M0 = some M' ∧ M' 35 2 = ((k + 1 : Nat) : Int) ∧ M' 36 k = c ∧ M' 37 k = st ∧ ∀ c i, ¬ ((c = 35 ∧ i = 2) ∨ (c = 36 ∧ i = k) ∨ (c = 37 ∧ i = k)) → M' c i = M0 c i := by
  obtain ⟨M2, e2, f2, v2⟩ := mup_gen M0 36 k c
  have s2 : M2 35 2 = (k : Int) := by rw [f2 _ _ (by omega)]; exact h
  obtain ⟨M3, e3, f3, v3⟩ := mup_gen M2 37 k st
  have s3 : M3 35 2 = (k : Int) := by rw [f3 _ _ (by omega)]; exact s2
  obtain ⟨M4, e4, f4, v4⟩ := mup_gen M3 35 2 ((k + 1 : Nat) : Int)
  refine ⟨M4, ok_to ?_, v4, by rw [f4 _ _ (by omega), f3 _ _ (by omega)]; exact v2, by rw [f4 _ _ (by omega)]; exact v3, fun c i q => by rw [f4 c i (by omega), f3 c i (by omega), f2 c i (by omega)]⟩
  unfold f_X8_admit
  rw [h, toN, e2]
  refine ok_ite_f (by omega) (ok_gd (by omega) (ok_lt ?_))
  rw [s2, toN, e3]
  refine ok_gd (by omega) (ok_lt ?_)
  rw [s3, wrap_n1 (by omega), e4]
  exact ok_lt (ok_some rfl)
theorem op_change (I : Inv M) : Alk (f_X10_change M) f_X11_change := by
  have h14 := I.1.n14
  have h3 := I.1.k23
  have hn := I.1.n
  have hkC := I.1.k
  let p : Nat → Bool := onL M
  have hp : ∀ c, p c = true ↔ M 110 c ≠ -1 := fun c => decide_eq_true_iff
  have ecnt : cnt (fun c => M 110 c ≠ -1) (nK M) = ((fb_ct p (nK M) : Nat) : Int) := by
    rw [ct_cnt]
    exact cnt_congr (fun c _ => (hp c).symm)
  have out : ∀ a : Int, Okk (f_X11_change M) (fun q2 => q2.1 = a ∧ lvM M q2.2) → Okk (f_X11_change M) (fun q2 => q2.1 = a ∧ Inv q2.2) := fun a h => ok_mono h (fun q hq => ⟨hq.1, I.congr hq.2⟩)
  unfold Alk f_X10_change
  refine ok_e (c_countListed I.cf) ?_
  rw [cntl I, ecnt]
  have lis : ∀ M2, MF M M2 → (∀ c, M2 110 c = M 110 c) → f_X11_listed M2 = some ((fb_ct p (nK M) : Nat) : Int) := by
    intro M2 H2 h
    rw [m_listed H2, ← ecnt]
    exact congrArg some (cnt_congr (fun c _ => by rw [h c]))
  refine ok_ite (fun h0 => ok_some (out (-1) ?_)) (fun h0 => ok_ite (fun h9 => ?_) (fun h9 => ok_some (out (-3) ?_)))
  · unfold f_X11_change
    obtain ⟨M2, e2, H2, f2, l2, g2⟩ := m_start I (lvC.rf M)
    refine ok_lt ?_
    rw [e2]
    exact ok_e (lis M2 H2 (fun c => f2 110 c (by omega))) (ok_ite_t h0 (ok_some ⟨rfl, l2⟩))
  · -- the members
    obtain ⟨mem, hmem⟩ := enum_p p (nK M)
    have hn9 : fb_ct p (nK M) ≤ 9 := by omega
    have hn0 : 0 < fb_ct p (nK M) := by omega
    have hinc : ∀ i j, i < j → j < fb_ct p (nK M) → mem i < mem j := by
      intro i j hij hj
      apply Classical.byContradiction
      intro hc
      have := fb_ct_mono p (m := mem j) (n := mem i) (by omega)
      have := (hmem i (by omega)).2.2
      have := (hmem j hj).2.2
      omega
    have hat : ∀ c, c < nK M → M 110 c ≠ -1 → fb_ct p c < fb_ct p (nK M) ∧ mem (fb_ct p c) = c := by
      intro c hc hl
      have h1 := ct_lt hc ((hp c).mpr hl)
      have h2 := hmem _ h1
      exact ⟨h1, fb_ct_kth_one h2.2.1 ((hp c).mpr hl) h2.2.2⟩
    have hno : ∀ c, c < nK M → (∀ i, i < fb_ct p (nK M) → mem i ≠ c) → M 110 c = -1 := by
      intro c hc h
      apply Classical.byContradiction
      intro hl
      have := hat c hc hl
      exact h _ this.1 this.2
    have hstay : ∀ i, i < fb_ct p (nK M) → M 110 (mem i) ≠ -1 := fun i hi => (hp _).mp (hmem i hi).2.1
    have SM : MS M (fb_ct p (nK M)) mem := ⟨hn9, fun i hi => (hmem i hi).1, hinc⟩
    generalize hN : fb_ct p (nK M) = n at hn9 hn0 hinc hat hno hstay SM h0 h9 lis ecnt
    have hmem' : ∀ i, i < n → mem i < nK M := SM.2.1
    -- the class
    refine ok_lt ?_
    obtain ⟨M1, e1, f1, v1⟩ := mup_gen M 0 16 0
    rw [e1]; clear e1
    have C1 : CF M M1 := I.cf.fr (fun c i q => f1 c i (by unfold isC at q; omega))
    rw [C1.r11, C1.td]
    refine ok_gd I.cf.ru (ok_obn (c_prepare (known := M 80 14) C1) (fun M2 hM2 => ?_))
    obtain ⟨J2, f2⟩ := hM2
    obtain ⟨M3, e3, b3, b17, f3⟩ := c_begin M2
    refine ok_e e3 ?_
    have J3 : JP M (M 80 14) M3 := J2.fr (fun c i q => f3 c i (by unfold isC at q; omega))
    have l3 : ∀ c, M3 1 c = M 110 c := fun c => by rw [f3 1 c (by omega), f2 1 c (by omega), f1 1 c (by omega)]; exact I.l1 c
    refine ok_obn (P := fun q => (∀ c i, ¬ ((c = 35 ∧ i = 2) ∨ c = 36 ∨ c = 37) → q.2 c i = M3 c i) ∧ q.2 35 2 = (n : Int) ∧ (∀ i, i < n → q.2 36 i = (mem i : Int)) ∧ ∀ i, i < n → q.2 37 i = M 110 (mem i)) ?_ (fun q hq => ?_)
    · unfold f_X10_change_l49
      refine ok_whl (nK M) (fun k q => q.1 = (k : Int) ∧ (∀ c i, ¬ ((c = 35 ∧ i = 2) ∨ c = 36 ∨ c = 37) → q.2 c i = M3 c i) ∧ q.2 35 2 = ((fb_ct p k : Nat) : Int) ∧ (∀ i, i < fb_ct p k → q.2 36 i = (mem i : Int)) ∧ ∀ i, i < fb_ct p k → q.2 37 i = M 110 (mem i)) (FU_big (by omega)) ⟨rfl, fun _ _ _ => rfl, b3, fun i h => absurd h (by show ¬ i < 0; omega), fun i h => absurd h (by show ¬ i < 0; omega)⟩ ?_
      rintro k ⟨v, M4⟩ hk ⟨k1, hF, k2, k36, k37⟩
      dsimp only at k1 hF k2 k36 k37 ⊢
      subst k1
      have C4 : CF M M4 := J3.c.fr (fun c i q => hF c i (by unfold isC at q; omega))
      unfold f_X10_change_s49
      (try simp (disch := omega) only [wrap_of, toN, nA, n1, mr2, mr3, mr4, mr9, mr14, ml2, ml3, ml4, ml7, ml14, ml28, C4.n])
      rw [hF 1 k (by omega), l3 k]
      refine ok_ite (fun h => ?_) (fun h => ?_)
      · have e : k = nK M := by omega
        subst e
        rw [hN] at k2 k36 k37
        exact ok_some ⟨hF, k2, k36, k37⟩
      have hkn : k < nK M := by omega
      refine ok_gd (by omega) (ok_ite (fun h5 => ?_) (fun h5 => ok_gd (by omega) ?_))
      · have ep : p k = false := by
          cases e : p k with
          | false => rfl
          | true => exact absurd h5 ((hp k).mp e)
        have es : fb_ct p (k + 1) = fb_ct p k := by rw [fb_ct_succ, ep]; rfl
        refine ok_lt (ok_some ⟨hkn, rfl, hF, by rw [es]; exact k2, by rw [es]; exact k36, by rw [es]; exact k37⟩)
      · have hh := hat k hkn h5
        have es : fb_ct p (k + 1) = fb_ct p k + 1 := by rw [fb_ct_succ, if_pos ((hp k).mpr h5)]
        obtain ⟨M5, e5, g2, g36, g37, f5⟩ := c_admit1 k2 (by omega) (k : Int) (M 110 k)
        refine ok_e e5 (ok_lt (ok_some ⟨hkn, rfl, fun c i q => ?_, by rw [es]; exact g2, fun i hi => ?_, fun i hi => ?_⟩))
        · try dsimp only
          rw [f5 c i (by omega)]; exact hF c i q
        · try dsimp only
          rw [es] at hi
          by_cases e : i = fb_ct p k
          · subst e; rw [g36, hh.2]
          · rw [f5 _ _ (by omega)]; exact k36 i (by omega)
        · try dsimp only
          rw [es] at hi
          by_cases e : i = fb_ct p k
          · subst e; rw [g37, hh.2]
          · rw [f5 _ _ (by omega)]; exact k37 i (by omega)
    obtain ⟨v, M4⟩ := q
    obtain ⟨f4, g2, g36, g37⟩ := hq
    dsimp only at f4 g2 g36 g37 ⊢
    have J4 : JP M (M 80 14) M4 := J3.fr (fun c i q => f4 c i (by unfold isC at q; omega))
    have S4 : SU M n mem (fun i => M 110 (mem i)) M4 := ⟨hn9, hmem', hinc, g2, g36, g37⟩
    unfold f_X10_change_j90
    refine ok_obn (c_run J4 S4 hn0 (by rw [f4 35 17 (by omega)]; exact b17) (Or.inr hstay)) (fun M5 hM5 => ?_)
    obtain ⟨B5, S5, f5⟩ := hM5
    have fr5 : ∀ c i, ¬ frB c → ¬ (c = 0 ∧ i = 16) → M5 c i = M c i := fun c i q z => by
      unfold frB at q
      rw [f5 c i (by omega), f4 c i (by omega), f3 c i (by omega), f2 c i (by omega), f1 c i (by omega)]
    have v16 : M5 0 16 = 0 := by rw [f5 0 16 (by omega), f4 0 16 (by omega), f3 0 16 (by omega), f2 0 16 (by omega)]; exact v1
    have C5 : CF M M5 := I.cf.fr (fun c i q => fr5 c i (by unfold isC at q; unfold frB; omega) (by unfold isC at q; omega))
    have hB5 := B5
    unfold Best at hB5
    -- the model, from any memory that the class may have left
    have model : ∀ (MX : Mem) (a : Int), (∀ c i, c ≠ 1 → MX c i = M5 c i) → (∀ i, nK M ≤ i → MX 1 i = M5 1 i) →
        ((M5 35 17 = 0 ∧ a = -2 ∧ ∀ i, MX 1 i = M5 1 i) ∨ (M5 35 17 = 1 ∧ a = M5 35 18 ∧ ∀ c, c < nK M → SeatR n mem M5 c (MX 1 c))) → Okk (f_X11_change MX) (fun q2 => q2.1 = a ∧ Inv q2.2) := by
      intro MX a fX farX cases
      have frX : ∀ c i, isFa c i ∨ 80 ≤ c → MX c i = M c i := fun c i q => by
        rw [fX c i (by unfold isFa at q; omega), fr5 c i (by unfold isFa at q; unfold frB; omega) (by unfold isFa at q; omega)]
      unfold f_X11_change
      obtain ⟨N2, e2, n2⟩ := th0 MX
      refine ok_lt ?_
      rw [e2]
      have H2 : MF M N2 := ⟨I.1, fun c i q => by rw [n2 c i (by unfold isFa at q; omega), frX c i (Or.inl q)]⟩
      have l110 : ∀ c, N2 110 c = M 110 c := fun c => by rw [n2 110 c (by omega), frX 110 c (Or.inr (by omega))]
      have hl := lis N2 H2 l110
      refine ok_e hl (ok_ite_f h0 (ok_e hl (ok_ite_t h9 ?_)))
      refine ok_obn (m_looks H2) (fun N3 hN3 => ?_)
      obtain ⟨n3, L3, p3⟩ := hN3
      refine ok_lt ?_
      obtain ⟨N4, e4, n4, v43⟩ := mup_gen N3 80 43 0
      rw [e4]; clear e4
      have L4 : LR M (M 80 14) N4 := L3.fr (fun c i q => n4 c i (by unfold isFa at q; omega))
      have l4 : ∀ c, N4 110 c = M 110 c := fun c => by rw [n4 110 c (by omega), n3 110 c (by omega)]; exact l110 c
      refine ok_obn (P := fun q => (∀ c i, c ≠ 108 → q.2 c i = N4 c i) ∧ ∀ c, c < nK M → q.2 108 c = if M 110 c = -1 then -1 else 0) ?_ (fun q hq => ?_)
      · unfold f_X11_change_l37
        refine ok_whl (nK M) (fun k q => q.1 = (k : Int) ∧ (∀ c i, c ≠ 108 → q.2 c i = N4 c i) ∧ ∀ c, c < k → q.2 108 c = if M 110 c = -1 then -1 else 0) (FU_big (by omega)) ⟨rfl, fun _ _ _ => rfl, fun c h => absurd h (by omega)⟩ ?_
        rintro k ⟨v, N5⟩ hk ⟨k1, hF, hT⟩
        dsimp only at k1 hF hT ⊢
        subst k1
        have e1 : N5 80 1 = (nK M : Int) := by rw [hF 80 1 (by omega)]; exact L4.1.n
        unfold f_X11_change_s37
        (try simp (disch := omega) only [wrap_of, toN, nA, n1, mr2, mr3, mr4, mr9, mr14, ml2, ml3, ml4, ml7, ml14, ml28, e1])
        rw [hF 110 k (by omega), l4 k]
        refine ok_ite (fun h => ?_) (fun h => ?_)
        · have e : k = nK M := by omega
          subst e; exact ok_some ⟨hF, hT⟩
        have hkn : k < nK M := by omega
        have fin : ∀ x : Int, x = (if M 110 k = -1 then -1 else 0) → Okk (lt (mup N5 108 k x) fun M_2 => lt ((k + 1 : Nat) : Int) fun v2_2 => (some (Sum.inl (v2_2, M_2)) : Option ((Int × Mem) ⊕ (Int × Mem)))) (inS (fun q => k < nK M ∧ q.1 = ((k + 1 : Nat) : Int) ∧ (∀ c i, c ≠ 108 → q.2 c i = N4 c i) ∧ ∀ c, c < k + 1 → q.2 108 c = if M 110 c = -1 then -1 else 0) (fun q : Int × Mem => (∀ c i, c ≠ 108 → q.2 c i = N4 c i) ∧ ∀ c, c < nK M → q.2 108 c = if M 110 c = -1 then -1 else 0)) := by
          intro x hx
          refine ok_lt (ok_lt (ok_some ⟨hkn, rfl, fun c i q => ?_, fun c hc => ?_⟩))
          · try dsimp only
            rw [mup_o _ _ (by omega)]; exact hF c i q
          · try dsimp only
            by_cases e : c = k
            · subst e; rw [mup_s]; exact hx
            · rw [mup_o _ _ (by omega)]; exact hT c (by omega)
        exact ok_gd (by omega) (ok_ite (fun h5 => ok_gd (by omega) (fin (-1) (by rw [if_pos h5]))) (fun h5 => ok_gd (by omega) (fin 0 (by rw [if_neg h5]))))
      obtain ⟨v, N5⟩ := q
      obtain ⟨n5, p5⟩ := hq
      dsimp only at n5 p5 ⊢
      unfold f_X11_change_j72
      refine ok_lt (ok_lt ?_)
      obtain ⟨N6, e6, n6, v45⟩ := mup_gen N5 80 45 1000000000
      rw [e6]; clear e6
      obtain ⟨N7, e7, n7, v46⟩ := mup_gen N6 80 46 1000000000
      rw [e7]; clear e7
      have L7 : LR M (M 80 14) N7 := L4.fr (fun c i q => by rw [n7 c i (by unfold isFa at q; omega), n6 c i (by unfold isFa at q; omega), n5 c i (by unfold isFa at q; omega)])
      have W7 : WP M n mem (fun _ => 0) (planOf N7) := by
        refine ⟨fun i hi => ?_, fun c hc hz => ?_⟩
        · show N7 108 (mem i) = 0
          rw [n7 _ _ (by omega), n6 _ _ (by omega), p5 _ (hmem' i hi), if_neg (hstay i hi)]
        · show N7 108 c = -1
          rw [n7 _ _ (by omega), n6 _ _ (by omega), p5 c hc, if_pos (hno c hc hz)]
      have l7 : ∀ c, N7 110 c = M 110 c := fun c => by rw [n7 _ _ (by omega), n6 _ _ (by omega), n5 _ _ (by omega)]; exact l4 c
      refine ok_obn (m_cloop (stay := fun i => M 110 (mem i)) L7 SM (fun i _ => by show 0 < nC M; omega) (cod_zero _ _) W7 (by rw [n7 _ _ (by omega)]; exact v45) v46 (fun i hi => ⟨(l7 _).symm, hstay i hi⟩) (fun c hc h => by rw [l7]; exact hno c hc h)) (fun N8 hN8 => ?_)
      obtain ⟨n8, f, mB, mf0, mf1⟩ := hN8
      have u := BestLt.uniq hB5 mB.1
      have frN : ∀ c i, ¬ ((c = 80 ∧ (i = 0 ∨ (43 ≤ i ∧ i ≤ 46))) ∨ (106 ≤ c ∧ c ≤ 109)) → N8 c i = MX c i := fun c i q => by
        rw [n8 c i (by omega), n7 c i (by omega), n6 c i (by omega), n5 c i (by omega), n4 c i (by omega), n3 c i (by omega), n2 c i (by omega)]
      have z43 : N8 80 43 = 0 := by rw [n8 _ _ (by omega), n7 _ _ (by omega), n6 _ _ (by omega), n5 _ _ (by omega)]; exact v43
      have z16 : N8 0 16 = 0 := by rw [frN 0 16 (by omega), fX 0 16 (by omega)]; exact v16
      have frO : ∀ c i, (isFa c i ∨ isO c i) ∧ c ≠ 1 ∧ c ≠ 110 → N8 c i = M c i := fun c i q => by
        unfold isFa isO at q
        rw [frN c i (by omega), fX c i (by omega), fr5 c i (by unfold frB; omega) (by omega)]
      have f01 : f = 0 ∨ f = 1 := by
        rcases mB.1 with q | q
        · exact Or.inl q.1
        · exact Or.inr q.1
      unfold f_X11_change_j221
      refine ok_ite (fun h46 => ok_some ⟨?_, ?_⟩) (fun h46 => ?_)
      · have hf : f = 0 := by
          rcases f01 with z | z
          · exact z
          · have := mf1 z; omega
        rcases cases with q | q
        · exact q.2.1.symm
        · have := u.1; omega
      · have hf : f = 0 := by
          rcases f01 with z | z
          · exact z
          · have := mf1 z; omega
        have l1 : ∀ i, MX 1 i = M 1 i := by
          rcases cases with q | q
          · intro i; rw [q.2.2 i, fr5 1 i (by unfold frB; omega) (by omega)]
          · have := u.1; omega
        show Inv N8
        refine I.lst3 frO (Or.inl z16) (Or.inl z43) (fun c hc => ?_) (fun c => ?_)
        · rw [frN 110 c (by omega), frX 110 c (Or.inr (by omega)), frN 80 12 (by omega), frX 80 12 (Or.inr (by omega)), frN 80 1 (by omega), frX 80 1 (Or.inr (by omega))]
          exact I.2.1.ls c hc
        · rw [frN 1 c (by omega), frN 110 c (by omega), frX 110 c (Or.inr (by omega)), l1 c]
          exact I.l1 c
      · have hf : f = 1 := by
          rcases f01 with z | z
          · exact absurd (mf0 z) h46
          · exact z
        have hf5 : M5 35 17 = 1 := u.1.trans hf
        obtain ⟨u1, u2, u3⟩ := u.2 hf5
        obtain ⟨q1, q2, q3⟩ : M5 35 17 = 1 ∧ a = M5 35 18 ∧ ∀ c, c < nK M → SeatR n mem M5 c (MX 1 c) := by
          rcases cases with q | q
          · have := q.1; omega
          · exact q
        have H8 : MF M N8 := ⟨I.1, fun c i q => by rw [frN c i (by unfold isFa at q; omega), frX c i (Or.inl q)]⟩
        refine ok_obn (m_take236 H8) (fun q hq => ?_)
        obtain ⟨v, N9⟩ := q
        obtain ⟨n9, t9⟩ := hq
        dsimp only at n9 t9 ⊢
        unfold f_X11_change_j262
        refine ok_some ⟨?_, ?_⟩
        · show N9 80 46 = a
          rw [n9 80 46 (by omega), q2, u1]
        · have vals : ∀ c, c < nK M → N9 110 c = N9 1 c ∧ -1 ≤ N9 110 c ∧ N9 110 c < M 80 12 := by
            intro c hc
            have e1 : N9 1 c = MX 1 c := by rw [n9 1 c (by omega), frN 1 c (by omega)]
            rw [t9 c hc, e1]
            rcases q3 c hc with ⟨i, hi, g1, g2⟩ | ⟨g1, g2⟩
            · subst g1
              have e2 := u3 i hi
              rw [g2]
              refine ⟨e2.symm, ?_⟩
              rcases mB.1 with z | ⟨-, w, w1, w2, w3, w4, -⟩
              · have := z.1; omega
              · have e3 := w4 i hi
                have b := w1 i hi
                have e4 : N8 109 (mem i) = (w i : Int) := e3
                omega
            · rw [g2, (mB.2.2 hf).2 c hc g1]
              exact ⟨rfl, by omega, by omega⟩
          have far : ∀ c, nK M ≤ c → N9 110 c = M 110 c ∧ N9 1 c = M 1 c := fun c hc => ⟨by rw [n9 110 c (by omega), frN 110 c (by omega), frX 110 c (Or.inr (by omega))], by rw [n9 1 c (by omega), frN 1 c (by omega), farX c hc, fr5 1 c (by unfold frB; omega) (by omega)]⟩
          have e12 : N9 80 12 = M 80 12 := by rw [n9 80 12 (by omega), frN 80 12 (by omega), frX 80 12 (Or.inr (by omega))]
          have e801 : N9 80 1 = M 80 1 := by rw [n9 80 1 (by omega), frN 80 1 (by omega), frX 80 1 (Or.inr (by omega))]
          show Inv N9
          refine I.lst3 (fun c i q => by rw [n9 c i (by omega)]; exact frO c i q) (Or.inl (by rw [n9 0 16 (by omega)]; exact z16)) (Or.inl (by rw [n9 80 43 (by omega)]; exact z43)) (fun c hc => ?_) (fun c => ?_)
          · rw [e12, e801]
            by_cases hcn : c < nK M
            · have := vals c hcn
              exact ⟨this.2, fun z => by omega⟩
            · rw [(far c (by omega)).1]
              exact I.2.1.ls c hc
          · by_cases hcn : c < nK M
            · exact (vals c hcn).1.symm
            · rw [(far c (by omega)).1, (far c (by omega)).2]
              exact I.l1 c
    refine ok_ite (fun h17 => ok_some (model M5 (-2) (fun _ _ _ => rfl) (fun _ _ => rfl) (Or.inl ⟨h17, rfl, fun _ => rfl⟩))) (fun h17 => ?_)
    have hf5 : M5 35 17 = 1 := by
      rcases hB5 with z | z
      · exact absurd z.1 h17
      · exact z.1
    refine ok_obn (c_take C5 (mem := mem) S5.2.2.2.1 hn9 S5.2.2.2.2.1) (fun M6 hM6 => ok_some ?_)
    obtain ⟨f6, t6⟩ := hM6
    exact model M6 _ (fun c i q => f6 c i (by omega)) (fun i hi => f6 1 i (by omega)) (Or.inr ⟨hf5, f6 35 18 (by omega), t6⟩)
  · unfold f_X11_change
    obtain ⟨M2, e2, H2, f2, l2, g2⟩ := m_start I (lvC.rf M)
    refine ok_lt ?_
    rw [e2]
    have hl := lis M2 H2 (fun c => f2 110 c (by omega))
    exact ok_e hl (ok_ite_f h0 (ok_e hl (ok_ite_f h9 (ok_some ⟨rfl, l2⟩))))
end CHANGE
