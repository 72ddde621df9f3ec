/-! plan, planned, keep, change -/
theorem Inv.lst3 {M M' : Mem} (I : Inv M) (hf : ∀ c i, (isFa c i ∨ isO c i) ∧ c ≠ 1 ∧ c ≠ 110 → M' c i = M c i) (x1 : X1 M') (x2 : X2 M') (h1 : Ls M') (h2 : eqp 1 110 M') : Inv M' :=
  ⟨I.1.congr (fun c i q => hf c i ⟨Or.inl q, by unfold isFa at q; omega, by unfold isFa at q; omega⟩), I.2.1.lst (fun c i q => hf c i ⟨Or.inr q.1, q.2⟩) h1 h2, x1, x2⟩
section KEEP
variable {B M : Mem}
/-- the seat of a child in the best plan -/
def SeatR (n : Nat) (mem : Nat → Nat) (M : Mem) (c : Nat) (r : Int) : Prop := (∃ i, i < n ∧ mem i = c ∧ r = M 47 i) ∨ ((∀ i, i < n → mem i ≠ c) ∧ r = -1)
theorem c_seatOf {n : Nat} {mem : Nat → Nat} (h35 : M 35 2 = (n : Int)) (h9 : n ≤ 9) (h36 : ∀ i, i < n → M 36 i = (mem i : Int)) (c : Int) : Okk (f_X8_seatOf c M) (fun r => (∃ i, i < n ∧ (mem i : Int) = c ∧ r = M 47 i) ∨ ((∀ i, i < n → (mem i : Int) ≠ c) ∧ r = -1)) := by
  unfold f_X8_seatOf
  refine ok_lpr (P := fun _ => ∀ i, i < n → (mem i : Int) ≠ c) (P2 := fun r => ∃ i, i < n ∧ (mem i : Int) = c ∧ r = M 47 i) ?_ (fun v hv => ok_some (Or.inr ⟨hv, rfl⟩)) (fun r hr => ok_some (Or.inl hr))
  unfold f_X8_seatOf_l2
  refine ok_first (n := n) (by omega) (fun i => (mem i : Int) = c) _ (fun k hk hj => ?_) (fun hj => ?_)
  · unfold f_X8_seatOf_s2
    (try simp (disch := omega) only [wrap_of, toN, nA, n1, mr2, mr3, mr4, mr9, mr14, ml2, ml3, ml4, ml7, ml14, ml28, h35])
    rw [h36 k hk]
    refine ok_ite_f (by omega) (ok_gd (by omega) ?_)
    exact ok_ite (fun h => ok_gd (by omega) (ok_some (Or.inr ⟨h, _, rfl, k, hk, h, rfl⟩))) (fun h => ok_lt (ok_some (Or.inl ⟨h, rfl⟩)))
  · unfold f_X8_seatOf_s2
    (try simp (disch := omega) only [wrap_of, toN, nA, n1, mr2, mr3, mr4, mr9, mr14, ml2, ml3, ml4, ml7, ml14, ml28, h35])
    exact ok_ite_t (by omega) (ok_some ⟨_, rfl, hj⟩)
theorem c_take (H : CF B M) {n : Nat} {mem : Nat → Nat} (h35 : M 35 2 = (n : Int)) (h9 : n ≤ 9) (h36 : ∀ i, i < n → M 36 i = (mem i : Int)) : Okk (f_X10_takeSearched M) (fun M' => (∀ c i, ¬ (c = 1 ∧ i < nK B) → M' c i = M c i) ∧ ∀ c, c < nK B → SeatR n mem M c (M' 1 c)) := by
  have h14 := H.1.n14
  unfold f_X10_takeSearched
  refine ok_obn (P := fun q => (∀ c i, ¬ (c = 1 ∧ i < nK B) → q.2 c i = M c i) ∧ ∀ c, c < nK B → SeatR n mem M c (q.2 1 c)) ?_ (fun s hs => ok_some hs)
  unfold f_X10_takeSearched_l2
  refine ok_whl (nK B) (fun k q => q.1 = (k : Int) ∧ (∀ c i, ¬ (c = 1 ∧ i < nK B) → q.2 c i = M c i) ∧ ∀ c, c < k → SeatR n mem M c (q.2 1 c)) (FU_big (by omega)) ⟨rfl, fun _ _ _ => rfl, fun c h => absurd h (by omega)⟩ ?_
  rintro k ⟨v, M1⟩ hk ⟨h1, hF, hT⟩
  dsimp only at h1 hF hT ⊢
  subst h1
  have H1 : CF B M1 := H.fr (fun c i q => hF c i (by unfold isC at q; omega))
  have e35 : M1 35 2 = (n : Int) := by rw [hF 35 2 (by omega)]; exact h35
  have e36 : ∀ i, i < n → M1 36 i = (mem i : Int) := fun i hi => by rw [hF 36 i (by omega)]; exact h36 i hi
  unfold f_X10_takeSearched_s2
  (try simp (disch := omega) only [wrap_of, toN, nA, n1, mr2, mr3, mr4, mr9, mr14, ml2, ml3, ml4, ml7, ml14, ml28, H1.n])
  refine ok_ite (fun h => ?_) (fun h => ?_)
  · have e : k = nK B := by omega
    subst e; exact ok_some ⟨hF, hT⟩
  have hkn : k < nK B := by omega
  refine ok_obn (c_seatOf e35 h9 e36 k) (fun r hr => ok_gd (by omega) (ok_lt (ok_lt (ok_some ⟨hkn, rfl, fun c i q => ?_, fun c hc => ?_⟩))))
  · try dsimp only
    rw [mup_o _ _ (by omega)]; exact hF c i q
  · try dsimp only
    by_cases e : c = k
    · subst e
      rw [mup_s]
      rcases hr with ⟨i, hi, h1, h2⟩ | ⟨h1, h2⟩
      · exact Or.inl ⟨i, hi, by omega, by rw [h2]; exact hF 47 i (by omega)⟩
      · exact Or.inr ⟨fun i hi z => h1 i hi (by omega), h2⟩
    · rw [mup_o _ _ (by omega)]; exact hT c (by omega)
theorem m_keep22 (H : MF B M) (v1 : Int) : Okk (f_X11_keep_l22 v1 0 M) (fun q => (∀ c i, ¬ (c = 110 ∧ i < nK B) → q.2 c i = M c i) ∧ ∀ c, c < nK B → q.2 110 c = M 109 c) := by
  have h14 := H.1.n14
  unfold f_X11_keep_l22
  refine ok_whl (nK B) (fun k q => q.1 = (k : Int) ∧ (∀ c i, ¬ (c = 110 ∧ i < nK B) → q.2 c i = M c i) ∧ ∀ c, c < k → q.2 110 c = M 109 c) (FU_big (by omega)) ⟨rfl, fun _ _ _ => rfl, fun c h => absurd h (by omega)⟩ ?_
  rintro k ⟨v, M1⟩ hk ⟨h1, hF, hT⟩
  dsimp only at h1 hF hT ⊢
  subst h1
  have e1 : M1 80 1 = (nK B : Int) := by rw [hF 80 1 (by omega)]; exact H.n
  unfold f_X11_keep_s22
  (try simp (disch := omega) only [wrap_of, toN, nA, n1, mr2, mr3, mr4, mr9, mr14, ml2, ml3, ml4, ml7, ml14, ml28, e1])
  refine ok_ite (fun h => ?_) (fun h => ?_)
  · have e : k = nK B := by omega
    subst e; exact ok_some ⟨hF, hT⟩
  have hkn : k < nK B := by omega
  refine ok_gd (by omega) (ok_gd (by omega) (ok_lt (ok_lt (ok_some ⟨hkn, rfl, fun c i q => ?_, fun c hc => ?_⟩))))
  · try dsimp only
    rw [mup_o _ _ (by omega)]; exact hF c i q
  · try dsimp only
    by_cases e : c = k
    · subst e; rw [mup_s]; exact hF 109 c (by omega)
    · rw [mup_o _ _ (by omega)]; exact hT c (by omega)
theorem m_take236 (H : MF B M) : Okk (f_X11_change_l236 0 M) (fun q => (∀ c i, ¬ (c = 110 ∧ i < nK B) → q.2 c i = M c i) ∧ ∀ c, c < nK B → q.2 110 c = M 109 c) := by
  have h14 := H.1.n14
  unfold f_X11_change_l236
  refine ok_whl (nK B) (fun k q => q.1 = (k : Int) ∧ (∀ c i, ¬ (c = 110 ∧ i < nK B) → q.2 c i = M c i) ∧ ∀ c, c < k → q.2 110 c = M 109 c) (FU_big (by omega)) ⟨rfl, fun _ _ _ => rfl, fun c h => absurd h (by omega)⟩ ?_
  rintro k ⟨v, M1⟩ hk ⟨h1, hF, hT⟩
  dsimp only at h1 hF hT ⊢
  subst h1
  have e1 : M1 80 1 = (nK B : Int) := by rw [hF 80 1 (by omega)]; exact H.n
  unfold f_X11_change_s236
  (try simp (disch := omega) only [wrap_of, toN, nA, n1, mr2, mr3, mr4, mr9, mr14, ml2, ml3, ml4, ml7, ml14, ml28, e1])
  refine ok_ite (fun h => ?_) (fun h => ?_)
  · have e : k = nK B := by omega
    subst e; exact ok_some ⟨hF, hT⟩
  have hkn : k < nK B := by omega
  refine ok_gd (by omega) (ok_gd (by omega) (ok_lt (ok_lt (ok_some ⟨hkn, rfl, fun c i q => ?_, fun c hc => ?_⟩))))
  · try dsimp only
    rw [mup_o _ _ (by omega)]; exact hF c i q
  · try dsimp only
    by_cases e : c = k
    · subst e; rw [mup_s]; exact hF 109 c (by omega)
    · rw [mup_o _ _ (by omega)]; exact hT c (by omega)
/-- what the model finds behind the class -/
def isY (c i : Nat) : Prop := isFa c i ∨ isX1 c i ∨ isX2 c i
theorem m_after {M1 M2 : Mem} (fM : Fa M1) (hX : X2 M1) {known a : Int} (hC : CBok M1 known a) (h2 : ∀ c i, isY c i → M2 c i = M1 c i) : Okk (f_X11_bests known M2) (fun q => X2 q.2 ∧ (∀ c i, ¬ ((c = 80 ∧ 43 ≤ i ∧ i ≤ 45) ∨ (106 ≤ c ∧ c ≤ 109)) → q.2 c i = M2 c i) ∧ q.1 = a ∧ Fa q.2 ∧ MBok q.2 known a ∧ CBok q.2 known a) := by
  have ff : ∀ c i, isFa c i → M2 c i = M1 c i := fun c i q => h2 c i (Or.inl q)
  have fM2 := fM.congr ff
  have hX2 : X2 M2 := hX.congr fM fM2 (fa_fe ff) (by rw [ff 80 14 (by unfold isFa; omega)]; exact Int.le_refl _) (fun c i q => h2 c i (Or.inr (Or.inr q)))
  refine ok_mono (m_bests fM2 hX2 known) (fun q hq => ?_)
  obtain ⟨x, f, mb⟩ := hq
  have ff3 : ∀ c i, isFa c i → q.2 c i = M1 c i := fun c i z => by rw [f c i (by unfold isFa at z; omega), ff c i z]
  have fM3 := fM.congr ff3
  have cb : CBok q.2 known a := hC.congr fM fM3 (fa_fe ff3) (ff3 80 14 (by unfold isFa; omega)) (fun c i z => by rw [f c i (by unfold isX1 at z; omega), h2 c i (Or.inr (Or.inl z))])
  have e := (best_one fM3 cb mb).1
  exact ⟨x, f, e.symm, fM3, by rw [e]; exact mb, cb⟩
theorem inv_after {M1 M2 : Mem} (I : Inv M1) (h : ∀ c i, ¬ ((c = 80 ∧ (i = 0 ∨ (43 ≤ i ∧ i ≤ 45))) ∨ (106 ≤ c ∧ c ≤ 109)) → M2 c i = M1 c i) (x : X2 M2) : Inv M2 := by
  have ff : ∀ c i, isFa c i → M2 c i = M1 c i := fun c i q => h c i (by unfold isFa at q; omega)
  have fM := I.1.congr ff
  exact ⟨fM, I.2.1.congr (fun c i q => h c i (by unfold isO at q; omega)), I.2.2.1.congr I.1 fM (fa_fe ff) (ff 80 14 (by unfold isFa; omega)) (fun c i q => h c i (by unfold isX1 at q; omega)), x⟩
theorem op_plan (I : Inv M) (known : Int) : Alk (f_X10_plan known M) (f_X11_plan known) := by
  unfold Alk f_X10_plan
  refine ok_bnd (c_bestPlan I known) (fun a M1 hM1 => ok_some ?_)
  obtain ⟨I1, -, C1⟩ := hM1
  dsimp only at I1 C1 ⊢
  unfold f_X11_plan
  obtain ⟨M2, e2, f2⟩ := th0 M1
  refine ok_lt ?_
  rw [e2]
  refine ok_bnd (m_after I1.1 I1.2.2.2 C1 (fun c i q => f2 c i (by unfold isY isFa isX1 isX2 at q; omega))) (fun r M3 hM3 => ok_some ?_)
  obtain ⟨x, f, e, -, -, -⟩ := hM3
  dsimp only at x f e ⊢
  exact ⟨e, inv_after I1 (fun c i q => by rw [f c i (by omega), f2 c i (by omega)]) x⟩
theorem op_planned (I : Inv M) (known c : Int) : Alk (f_X10_planned known c M) (f_X11_planned known c) := by
  have h14 := I.1.n14
  unfold Alk f_X10_planned
  refine ok_bnd (c_bestPlan I known) (fun a M1 hM1 => ?_)
  obtain ⟨I1, f1, C1⟩ := hM1
  dsimp only at I1 f1 C1 ⊢
  -- the model behind it, with an answer r that is known to go with a
  have go : ∀ r : Int, (a < 0 → r = -1) → (0 ≤ a → szOf M1 known ≤ 9 → M1 35 2 = (szOf M1 known : Int) → (∀ i, i < szOf M1 known → M1 36 i = (i : Int)) → (∃ i, i < szOf M1 known ∧ (i : Int) = c ∧ r = M1 47 i) ∨ ((∀ i, i < szOf M1 known → (i : Int) ≠ c) ∧ r = -1)) → Okk (f_X11_planned known c M1) (fun q2 => q2.1 = r ∧ Inv q2.2) := by
    intro r hr hr2
    unfold f_X11_planned
    obtain ⟨M2, e2, f2⟩ := th0 M1
    refine ok_lt ?_
    rw [e2]
    refine ok_bnd (m_after I1.1 I1.2.2.2 C1 (fun c i q => f2 c i (by unfold isY isFa isX1 isX2 at q; omega))) (fun b M3 hM3 => ?_)
    obtain ⟨x, f, e, F3, mb, cb⟩ := hM3
    dsimp only at x f e F3 mb cb ⊢
    subst e
    have inv := inv_after I1 (fun c i q => by rw [f c i (by omega), f2 c i (by omega)]) x
    have fr : ∀ c i, isFa c i ∨ isX1 c i → M3 c i = M1 c i := fun c i q => by rw [f c i (by unfold isFa isX1 at q; omega), f2 c i (by unfold isFa isX1 at q; omega)]
    have esz : szOf M3 known = szOf M1 known := fe_sz (fa_fe (fun c i q => fr c i (Or.inl q))) known
    have enK : nK M3 = nK M1 := fe_nK (fa_fe (fun c i q => fr c i (Or.inl q)))
    refine ok_ite (fun h => ok_some ⟨(hr h).symm, inv⟩) (fun h => ?_)
    have b1 := (best_one F3 cb mb).2 (by omega)
    rw [esz] at b1
    obtain ⟨b2, b3, b4, b5⟩ := b1
    have k2 := hr2 (by omega) b2 (by rw [← fr 35 2 (Or.inr (by unfold isX1; omega))]; exact b3) (fun i hi => by rw [← fr 36 i (Or.inr (by unfold isX1; omega))]; exact (b4 i hi).1)
    refine ok_b (m2_isChild (MF.rf F3) c) (fun hc => ?_) (fun hc => ok_ite_t rfl (ok_some ⟨?_, inv⟩))
    · obtain ⟨c, rfl, hc2⟩ := nat_of hc
      rw [toN]
      have := F3.n14
      refine ok_ite_f (by decide) (ok_gd (by omega) (ok_some ⟨?_, inv⟩))
      show M3 109 c = r
      rcases k2 with ⟨i, hi, h1, h2⟩ | ⟨h1, h2⟩
      · have : i = c := by omega
        subst this
        rw [h2, ← fr 47 i (Or.inr (by unfold isX1; omega))]
        exact (b4 i hi).2.1.symm
      · rw [h2]
        exact b5 c hc2 (by
          apply Classical.byContradiction
          intro z
          exact h1 c (by omega) rfl)
    · show -1 = r
      rcases k2 with ⟨i, hi, h1, h2⟩ | ⟨h1, h2⟩
      · exfalso
        have := (sz_is I1.1 known).1
        exact hc (by rw [enK]; omega)
      · exact h2.symm
  refine ok_ite (fun h => ?_) (fun h => ok_some (go (-1) (fun _ => rfl) (fun z => by omega)))
  rcases C1 with q | q | ⟨q1, q2, q3, q4, q5, q6⟩
  · exact absurd q.2 (by omega)
  · exact absurd q.2.2 (by omega)
  · refine ok_obn (c_seatOf (mem := idN) q5 q3 q6 c) (fun r hr => ok_some (go r (fun z => by omega) (fun _ _ _ _ => hr)))
theorem op_keep (I : Inv M) : Alk (f_X10_keep M) f_X11_keep := by
  have h14 := I.1.n14
  unfold Alk f_X10_keep
  rw [I.1.a3.1]
  refine ok_bnd (c_bestPlan I (M 80 14)) (fun a M1 hM1 => ?_)
  obtain ⟨I1, f1, C1⟩ := hM1
  dsimp only at I1 f1 C1 ⊢
  have enK : nK M1 = nK M := by unfold nK; rw [f1 80 1 (by unfold frB; omega) (by omega)]
  have e14 : M1 80 14 = M 80 14 := f1 80 14 (by unfold frB; omega) (by omega)
  refine ok_ite (fun h => ok_some ?_) (fun h => ?_)
  · unfold f_X11_keep
    obtain ⟨M2, e2, f2⟩ := th0 M1
    refine ok_lt ?_
    rw [e2, f2 80 14 (by omega), e14]
    refine ok_bnd (m_after I1.1 I1.2.2.2 C1 (fun c i q => f2 c i (by unfold isY isFa isX1 isX2 at q; omega))) (fun b M3 hM3 => ?_)
    obtain ⟨x, f, e, F3, mb, cb⟩ := hM3
    dsimp only at x f e F3 mb cb ⊢
    subst e
    exact ok_ite_f (by omega) (ok_some ⟨rfl, show Inv M3 from inv_after I1 (fun c i q => by rw [f c i (by omega), f2 c i (by omega)]) x⟩)
  · have C1' := C1
    rcases C1' with q | q | ⟨q1, q2, q3, q4, q5, q6⟩
    · exact absurd q.2 (by omega)
    · exact absurd q.2.2 (by omega)
    refine ok_obn (c_take (mem := idN) I1.cf q5 q3 q6) (fun M2 hM2 => ok_some ?_)
    obtain ⟨f2, t2⟩ := hM2
    unfold f_X11_keep
    obtain ⟨M3, e3, f3⟩ := th0 M2
    refine ok_lt ?_
    rw [e3, f3 80 14 (by omega), f2 80 14 (by omega), e14]
    refine ok_bnd (m_after (M2 := M3) I1.1 I1.2.2.2 C1 (fun c i q => by rw [f3 c i (by unfold isY isFa isX1 isX2 at q; omega), f2 c i (by unfold isY isFa isX1 isX2 at q; omega)])) (fun b M4 hM4 => ?_)
    obtain ⟨x, f, e, F4, mb, cb⟩ := hM4
    dsimp only at x f e F4 mb cb ⊢
    subst e
    have fr : ∀ c i, (isFa c i ∨ isO c i ∨ isX1 c i) ∧ c ≠ 1 → M4 c i = M1 c i := fun c i q => by
      unfold isFa isO isX1 at q
      rw [f c i (by omega), f3 c i (by omega), f2 c i (by omega)]
    have ff : ∀ c i, isFa c i → M4 c i = M1 c i := fun c i q => fr c i ⟨Or.inl q, by unfold isFa at q; omega⟩
    have esz := fe_sz (fa_fe ff) (M 80 14)
    have enK4 : nK M4 = nK M1 := fe_nK (fa_fe ff)
    refine ok_ite_t (by omega) (ok_obn (m_keep22 (MF.rf F4) b) (fun q hq => ?_))
    obtain ⟨v, M5⟩ := q
    obtain ⟨f5, t5⟩ := hq
    dsimp only at f5 t5 ⊢
    unfold f_X11_keep_j48
    refine ok_some ⟨rfl, ?_⟩
    obtain ⟨b2, b3, b4, b5⟩ := (best_one F4 cb mb).2 (by omega)
    rw [esz] at b2 b3 b4 b5
    rw [enK4] at b5 t5 f5
    have ff5 : ∀ c i, isFa c i → M5 c i = M1 c i := fun c i q => by rw [f5 c i (by unfold isFa at q; omega), ff c i q]
    have F5 := I1.1.congr ff5
    have e12 : M5 80 12 = M1 80 12 := ff5 80 12 (by unfold isFa; omega)
    have e1 : M5 80 1 = M1 80 1 := ff5 80 1 (by unfold isFa; omega)
    have hn := I1.1.n
    have hk := I1.1.k
    have enC : nC M4 = nC M1 := fe_nC (fa_fe ff)
    have vals : ∀ c, c < nK M1 → M5 110 c = M5 1 c ∧ -1 ≤ M5 110 c ∧ M5 110 c < M1 80 12 := by
      intro c hc
      have m1 : M5 1 c = M2 1 c := by rw [f5 1 c (by omega), f 1 c (by omega), f3 1 c (by omega)]
      rw [t5 c hc, m1]
      have w47 : ∀ i, M4 47 i = M1 47 i := fun i => fr 47 i ⟨Or.inr (Or.inr (by unfold isX1; omega)), by omega⟩
      rcases t2 c hc with ⟨i, hi, h1, h2⟩ | ⟨h1, h2⟩
      · have hi' : i = c := h1
        subst hi'
        have b6 := b4 i hi
        rw [w47] at b6
        rw [h2]
        refine ⟨b6.2.1.symm, by omega, by omega⟩
      · rw [h2, b5 c hc (by
          apply Classical.byContradiction
          intro z
          exact h1 c (by omega) rfl)]
        have := I1.1.k23
        exact ⟨rfl, by omega, by omega⟩
    have far : ∀ c, nK M1 ≤ c → M5 110 c = M1 110 c ∧ M5 1 c = M1 1 c := fun c hc => ⟨by rw [f5 110 c (by omega), f 110 c (by omega), f3 110 c (by omega), f2 110 c (by omega)], by rw [f5 1 c (by omega), f 1 c (by omega), f3 1 c (by omega), f2 1 c (by omega)]⟩
    show Inv M5
    refine I1.lst3 (fun c i q => ?_) (I1.2.2.1.congr I1.1 F5 (fa_fe ff5) (ff5 80 14 (by unfold isFa; omega)) (fun c i q => by rw [f5 c i (by unfold isX1 at q; omega)]; exact fr c i ⟨Or.inr (Or.inr q), by unfold isX1 at q; omega⟩)) (x.congr F4 F5 (fun c i q => f5 c i (by unfold isF at q; omega)) (by rw [f5 80 14 (by omega)]; exact Int.le_refl _) (fun c i q => f5 c i (by unfold isX2 at q; omega))) (fun c hc => ?_) (fun c => ?_)
    · rw [f5 c i (by omega)]
      exact fr c i ⟨q.1.elim Or.inl (fun z => Or.inr (Or.inl z)), q.2.1⟩
    · rw [e12, e1]
      by_cases hcn : c < nK M1
      · have := vals c hcn
        exact ⟨this.2, fun z => by omega⟩
      · have := (far c (by omega)).1
        rw [this]
        exact I1.2.1.ls c hc
    · by_cases hcn : c < nK M1
      · exact (vals c hcn).1.symm
      · have := far c (by omega)
        rw [this.1, this.2]
        exact I1.l1 c
end KEEP
