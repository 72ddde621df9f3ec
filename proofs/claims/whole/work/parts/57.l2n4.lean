/-! calls that only ask: of a child, of the book, of marks, of the list -/
theorem m_start {M M1 : Mem} (I : Inv M) (h1 : lvC M M1) : ∃ M2, mup M1 80 0 0 = M2 ∧ MF M M2 ∧ (∀ c i, ¬ (c = 80 ∧ i = 0) → M2 c i = M1 c i) ∧ lvM M1 M2 ∧ (∀ c i, 80 ≤ c → ¬ (c = 80 ∧ i = 0) → M2 c i = M c i) := by
  obtain ⟨M2, e2, f2⟩ := th0 M1
  refine ⟨M2, e2, (h1.mf I).fr (fun c i q => f2 c i (by unfold isFa at q; omega)), f2, lvM.of (fun c i q => f2 c i (by unfold frM at q; omega)), fun c i q z => (f2 c i z).trans (h1 c i (Or.inr q))⟩
theorem m2_isChild {B M : Mem} (H : MF B M) (c : Int) : f_X11_isChild c M = some (b2i (0 ≤ c ∧ c < (nK B : Int))) := by
  rw [m_isChild H.fa.a1 c]
  refine congrArg some (b2i_congr ?_)
  rw [H.n]
theorem c2_has {B M : Mem} (H : CF B M) (c : Int) : f_X1_has c M = some (b2i (0 ≤ c ∧ c < (nK B : Int))) := by
  rw [c_has H.fa.a1 c]
  refine congrArg some (b2i_congr ?_)
  rw [H.at 80 1 (by unfold isC; omega), H.1.n]
theorem m2_areTwo {B M : Mem} (H : MF B M) (a b : Int) : f_X11_areTwo a b M = some (b2i ((0 ≤ a ∧ a < (nK B : Int)) ∧ (0 ≤ b ∧ b < (nK B : Int)) ∧ a ≠ b)) := by
  rw [m_areTwo H.fa.a1 a b]
  refine congrArg some (b2i_congr ?_)
  rw [H.n]
theorem c2_areTwo {B M : Mem} (H : CF B M) (a b : Int) : f_X1_areTwo a b M = some (b2i ((0 ≤ a ∧ a < (nK B : Int)) ∧ (0 ≤ b ∧ b < (nK B : Int)) ∧ a ≠ b)) := by
  rw [c_areTwo H.fa.a1 a b]
  refine congrArg some (b2i_congr ?_)
  rw [H.at 80 1 (by unfold isC; omega), H.1.n]
theorem c2_isDay {B M : Mem} (H : CF B M) (k : Int) : f_X10_isDay k M = some (b2i (okDay B k)) := by
  rw [c_isDay H.fa.a3 k]
  refine congrArg some (b2i_congr ?_)
  unfold okDay
  rw [H.at 80 14 (by unfold isC; omega)]
theorem nat_of {x : Int} {n : Nat} (h : 0 ≤ x ∧ x < (n : Int)) : ∃ k : Nat, x = (k : Int) ∧ k < n := ⟨x.toNat, by omega, by omega⟩
theorem ok_b {α : Type} {p : Prop} [Decidable p] {x : Option Int} {f : Int → Option α} {Q : α → Prop} (h : x = some (b2i p)) (h1 : p → Okk (f 1) Q) (h0 : ¬ p → Okk (f 0) Q) : Okk (obn x f) Q := by
  rw [h]
  by_cases hp : p
  · rw [b2i_t hp]; exact h1 hp
  · rw [b2i_f hp]; exact h0 hp
section ASK
variable {M : Mem}
theorem op_place (I : Inv M) : Alk (pr M (f_X10_place M)) f_X11_place := by
  refine alk_pr (ans := M 29 1) I rfl ?_
  unfold f_X11_place
  obtain ⟨M2, e2, H2, f2, l2, g2⟩ := m_start I (lvC.rf M)
  refine ok_lt ?_
  rw [e2]
  exact ok_some ⟨l2, by show M2 80 34 = _; rw [f2 80 34 (by omega)]; exact I.2.1.o10.symm⟩
theorem op_steps (I : Inv M) : Alk (pr M (f_X10_steps M)) f_X11_steps := by
  refine alk_pr (ans := M 0 15) I rfl ?_
  unfold f_X11_steps
  obtain ⟨M2, e2, H2, f2, l2, g2⟩ := m_start I (lvC.rf M)
  refine ok_lt ?_
  rw [e2]
  exact ok_some ⟨l2, by show M2 80 48 = _; rw [f2 80 48 (by omega)]; exact I.2.1.o6.symm⟩
theorem op_classOf (I : Inv M) (c : Int) : Alk (pr M (f_X10_classOf c M)) (f_X11_classOf c) := by
  have h14 := I.1.n14
  refine alk_pr (ans := if 0 ≤ c ∧ c < (nK M : Int) then M 110 c.toNat else -1) I (ok_to ?_) ?_
  · unfold f_X10_classOf
    refine ok_b (c2_has I.cf c) (fun h => ok_ite_f (by decide) (ok_gd (by omega) (ok_some ?_))) (fun h => ok_ite_t rfl (ok_some ?_))
    · rw [if_pos h]; exact I.l1 _
    · rw [if_neg h]
  · unfold f_X11_classOf
    obtain ⟨M2, e2, H2, f2, l2, g2⟩ := m_start I (lvC.rf M)
    refine ok_lt ?_
    rw [e2]
    refine ok_b (m2_isChild H2 c) (fun h => ok_ite_f (by decide) (ok_gd (by omega) (ok_some ⟨l2, ?_⟩))) (fun h => ok_ite_t rfl (ok_some ⟨l2, ?_⟩))
    · rw [if_pos h]; exact f2 _ _ (by omega)
    · rw [if_neg h]
theorem op_regret (I : Inv M) (a b : Int) : Alk (pr M (f_X10_regret a b M)) (f_X11_regret a b) := by
  have h14 := I.1.n14
  refine alk_pr (ans := if (0 ≤ a ∧ a < (nK M : Int)) ∧ (0 ≤ b ∧ b < (nK M : Int)) ∧ a ≠ b then M 87 (14 * a.toNat + b.toNat) else -1) I (ok_to ?_) ?_
  · unfold f_X10_regret
    refine ok_b (c2_areTwo I.cf a b) (fun h => ?_) (fun h => ok_ite_t rfl (ok_some ?_))
    · rw [if_pos h]
      obtain ⟨a, rfl, ha⟩ := nat_of h.1
      obtain ⟨b, rfl, hb⟩ := nat_of h.2.1
      (try simp (disch := omega) only [wrap_of, toN, nA, n1, mr2, mr3, mr4, mr9, mr14, ml2, ml3, ml4, ml7, ml14, ml28])
      refine ok_ite_f (by decide) (ok_gd (by omega) (ok_some ?_))
      exact I.1.e13 _
    · rw [if_neg h]
  · unfold f_X11_regret
    obtain ⟨M2, e2, H2, f2, l2, g2⟩ := m_start I (lvC.rf M)
    refine ok_lt ?_
    rw [e2]
    refine ok_b (m2_areTwo H2 a b) (fun h => ?_) (fun h => ok_ite_t rfl (ok_some ⟨l2, ?_⟩))
    · rw [if_pos h]
      obtain ⟨a, rfl, ha⟩ := nat_of h.1
      obtain ⟨b, rfl, hb⟩ := nat_of h.2.1
      (try simp (disch := omega) only [wrap_of, toN, nA, n1, mr2, mr3, mr4, mr9, mr14, ml2, ml3, ml4, ml7, ml14, ml28])
      refine ok_ite_f (by decide) (ok_gd (by omega) (ok_some ⟨l2, ?_⟩))
      exact f2 _ _ (by omega)
    · rw [if_neg h]
/-- THE BOOK at a day -/
def bookS (M : Mem) (c d : Int) : Nat → Int
  | 0 => -1
  | k + 1 => if M 116 k = c ∧ M 117 k ≤ d then M 118 k else bookS M c d k
theorem op_was (I : Inv M) (c d : Int) : Alk (pr M (f_X10_was c d M)) (f_X11_was c d) := by
  have h14 := I.1.n14
  have o8 := I.2.1.o8
  obtain ⟨m, hm⟩ : ∃ m : Nat, M 80 56 = (m : Int) := ⟨(M 80 56).toNat, by have := o8.2.1; omega⟩
  have hm4 : m ≤ 400 := by have := o8.2.2; omega
  have e57 : M 57 0 = (m : Int) := o8.1.trans hm
  refine alk_pr (ans := if 0 ≤ c ∧ c < (nK M : Int) then (if okDay M d then (if d = M 80 14 then M 110 c.toNat else bookS M c d m) else -1) else -1) I (ok_to ?_) ?_
  · unfold f_X10_was
    refine ok_b (c2_has I.cf c) (fun h => ?_) (fun h => ok_ite_t rfl (ok_some (by rw [if_neg h])))
    rw [if_pos h]
    refine ok_ite_f (by decide) (ok_b (c2_isDay I.cf d) (fun h2 => ?_) (fun h2 => ok_ite_t rfl (ok_some (by rw [if_neg h2]))))
    rw [if_pos h2, I.cf.td]
    refine ok_ite_f (by decide) ?_
    refine ok_ite (fun h3 => ok_gd (by omega) (ok_some (by rw [if_pos h3]; exact I.l1 _))) (fun h3 => ?_)
    rw [if_neg h3]
    have hl : f_X0_seatAt_l5 c d M (-1) 0 = some (bookS M c d m, (m : Int)) := by
      unfold f_X0_seatAt_l5
      refine whl_n m (fun k => (bookS M c d k, (k : Int))) (by omega) rfl (fun k hk => ok_to ?_) (ok_to ?_)
      · have e1 := I.2.1.e58 k
        have e2 := I.2.1.e60 k
        have e3 := I.2.1.e59 k
        have eS : bookS M c d (k + 1) = if M 116 k = c ∧ M 117 k ≤ d then M 118 k else bookS M c d k := rfl
        unfold f_X0_seatAt_s5
        try dsimp only
        (try simp (disch := omega) only [wrap_of, toN, nA, n1, mr2, mr3, mr4, mr9, mr14, ml2, ml3, ml4, ml7, ml14, ml28, e57, e1, e2, e3])
        rw [eS]
        refine ok_ite_f (by omega) (ok_gd (by omega) ?_)
        refine ok_ite (fun h5 => ok_gd (by omega) (ok_ite (fun h6 => ok_lt (ok_some ?_)) (fun h6 => ok_gd (by omega) (ok_lt (ok_lt (ok_some ?_)))))) (fun h5 => ok_lt (ok_some ?_))
        · rw [if_neg (fun z => by omega)]
        · rw [if_pos ⟨h5, by omega⟩]
        · rw [if_neg (fun z => h5 z.1)]
      · unfold f_X0_seatAt_s5
        try dsimp only
        (try simp (disch := omega) only [wrap_of, toN, nA, n1, mr2, mr3, mr4, mr9, mr14, ml2, ml3, ml4, ml7, ml14, ml28, e57])
        exact ok_ite_t (by omega) (ok_some rfl)
    unfold f_X0_seatAt
    refine ok_e (a := bookS M c d m) ?_ (ok_some rfl)
    rw [hl]
    rfl
  · unfold f_X11_was
    obtain ⟨M2, e2, H2, f2, l2, g2⟩ := m_start I (lvC.rf M)
    refine ok_lt ?_
    rw [e2]
    refine ok_b (m2_isChild H2 c) (fun h => ?_) (fun h => ok_ite_t rfl (ok_some ⟨l2, by rw [if_neg h]⟩))
    rw [if_pos h, H2.td]
    have hd : f_X11_within d 0 (M 80 14) M2 = some (b2i (okDay M d)) := m_within _ _ _ _
    refine ok_ite_f (by decide) (ok_b hd (fun h2 => ?_) (fun h2 => ok_ite_t rfl (ok_some ⟨l2, by rw [if_neg h2]⟩)))
    rw [if_pos h2]
    refine ok_ite_f (by decide) ?_
    refine ok_ite (fun h3 => ok_gd (by omega) (ok_some ⟨l2, by rw [if_pos h3]; exact f2 _ _ (by omega)⟩)) (fun h3 => ?_)
    rw [if_neg h3]
    have hl : f_X11_was_l47 c d M2 (-1) 0 = some (bookS M c d m, (m : Int)) := by
      have e56 : M2 80 56 = (m : Int) := by rw [f2 _ _ (by omega)]; exact hm
      unfold f_X11_was_l47
      refine whl_n m (fun k => (bookS M c d k, (k : Int))) (by omega) rfl (fun k hk => ok_to ?_) (ok_to ?_)
      · have e1 := f2 116 k (by omega)
        have e2 := f2 117 k (by omega)
        have e3 := f2 118 k (by omega)
        have eS : bookS M c d (k + 1) = if M 116 k = c ∧ M 117 k ≤ d then M 118 k else bookS M c d k := rfl
        unfold f_X11_was_s47
        try dsimp only
        (try simp (disch := omega) only [wrap_of, toN, nA, n1, mr2, mr3, mr4, mr9, mr14, ml2, ml3, ml4, ml7, ml14, ml28, e56, e1, e2, e3])
        rw [eS]
        refine ok_ite_f (by omega) (ok_gd (by omega) ?_)
        refine ok_ite (fun h5 => ok_gd (by omega) (ok_ite (fun h6 => ok_lt (ok_some ?_)) (fun h6 => ok_gd (by omega) (ok_lt (ok_lt (ok_some ?_)))))) (fun h5 => ok_lt (ok_some ?_))
        · rw [if_neg (fun z => by omega)]
        · rw [if_pos ⟨h5, by omega⟩]
        · rw [if_neg (fun z => h5 z.1)]
      · unfold f_X11_was_s47
        try dsimp only
        (try simp (disch := omega) only [wrap_of, toN, nA, n1, mr2, mr3, mr4, mr9, mr14, ml2, ml3, ml4, ml7, ml14, ml28, e56])
        exact ok_ite_t (by omega) (ok_some rfl)
    refine ok_e hl ?_
    unfold f_X11_was_j92
    exact ok_some ⟨l2, rfl⟩
theorem op_scaled (I : Inv M) (t c q d : Int) : Alk (f_X10_scaled t c q d M) (f_X11_scaled t c q d) := by
  have h14 := I.1.n14
  refine alk_ro (ans := if -1 ≤ t ∧ t ≤ 3 then (if 0 ≤ c ∧ c < (nK M : Int) then (if 0 ≤ q ∧ q ≤ 1 then (if okDay M d then (if t = -1 then togetherS M c q d else scaledS M t c q d) else -1) else -1) else -1) else -1) I ?_ (fun M1 h1 => ?_)
  · unfold f_X10_scaled
    refine ok_b (c_within _ _ _ _) (fun h => ?_) (fun h => ok_ite_t rfl (ok_some ⟨lvC.rf M, by rw [if_neg h]⟩))
    rw [if_pos h]
    refine ok_ite_f (by decide) (ok_b (c2_has I.cf c) (fun h2 => ?_) (fun h2 => ok_ite_t rfl (ok_some ⟨lvC.rf M, by rw [if_neg h2]⟩)))
    rw [if_pos h2]
    refine ok_ite_f (by decide) (ok_b (c_within _ _ _ _) (fun h3 => ?_) (fun h3 => ok_ite_t rfl (ok_some ⟨lvC.rf M, by rw [if_neg h3]⟩)))
    rw [if_pos h3]
    refine ok_ite_f (by decide) (ok_b (c2_isDay I.cf d) (fun h4 => ?_) (fun h4 => ok_ite_t rfl (ok_some ⟨lvC.rf M, by rw [if_neg h4]⟩)))
    rw [if_pos h4]
    refine ok_ite_f (by decide) (ok_obn (c_learn2 I.cf d) (fun M2 hM2 => ?_))
    obtain ⟨f2, hL⟩ := hM2
    obtain ⟨c, rfl, hc⟩ := nat_of h2
    obtain ⟨q, rfl, hq⟩ := nat_of (n := 2) (show 0 ≤ q ∧ q < ((2 : Nat) : Int) by omega)
    have lv : lvC M M2 := lvC.of (fun c i z => f2 c i (by unfold frC at z; omega))
    refine ok_ite (fun h5 => ?_) (fun h5 => ?_)
    · rw [if_pos h5]
      exact ok_obn (c_overall I.1.a1 I.1.a4 I.1.c6 hL (by omega) hq) (fun r hr => ok_some ⟨lv, hr⟩)
    · rw [if_neg h5]
      obtain ⟨t, rfl, ht⟩ := nat_of (n := 4) (show 0 ≤ t ∧ t < ((4 : Nat) : Int) by omega)
      exact ok_obn (c_scale I.1.a1 I.1.a4 I.1.c6 hL ht (by omega) hq) (fun r hr => ok_some ⟨lv, hr⟩)
  · unfold f_X11_scaled
    obtain ⟨M2, e2, H2, f2, l2, g2⟩ := m_start I h1
    refine ok_lt ?_
    rw [e2]
    refine ok_b (m_within _ _ _ _) (fun h => ?_) (fun h => ok_ite_t rfl (ok_some ⟨l2, by rw [if_neg h]⟩))
    rw [if_pos h]
    refine ok_ite_f (by decide) (ok_b (m2_isChild H2 c) (fun h2 => ?_) (fun h2 => ok_ite_t rfl (ok_some ⟨l2, by rw [if_neg h2]⟩)))
    rw [if_pos h2]
    refine ok_ite_f (by decide) (ok_b (m_within _ _ _ _) (fun h3 => ?_) (fun h3 => ok_ite_t rfl (ok_some ⟨l2, by rw [if_neg h3]⟩)))
    rw [if_pos h3, H2.td]
    have hd : f_X11_within d 0 (M 80 14) M2 = some (b2i (okDay M d)) := m_within _ _ _ _
    refine ok_ite_f (by decide) (ok_b hd (fun h4 => ?_) (fun h4 => ok_ite_t rfl (ok_some ⟨l2, by rw [if_neg h4]⟩)))
    rw [if_pos h4]
    refine ok_ite_f (by decide) ?_
    refine ok_ite (fun h5 => ?_) (fun h5 => ?_)
    · rw [if_pos h5]
      exact ok_e (m2_together H2 c q d) (ok_some ⟨l2, rfl⟩)
    · rw [if_neg h5]
      refine ok_obn (m_scaledOf H2.fa.a1 H2.fa.a4 t c q d) (fun r hr => ok_some ⟨l2, ?_⟩)
      rw [hr, fe_scaled H2.fe]
/-- of THE LIST, as it stands -/
theorem c_list (I : Inv M) : Okk (f_X4_prepare (M 0 11) (M 80 14) M) (fun M1 => JP M (M 80 14) M1 ∧ lvC M M1 ∧ Okk (f_X10_gatherList M1) (fun M2 => JP M (M 80 14) M2 ∧ lvC M M2 ∧ (∀ c i, c ≠ 2 → M2 c i = M1 c i) ∧ ∀ k, k < 3 → gIs M (M2 2 k) (GP M (lsP M) k))) := by
  have h14 := I.1.n14
  refine ok_mono (c_prepare I.cf) (fun M1 hM1 => ?_)
  obtain ⟨J1, f1⟩ := hM1
  have lv1 : lvC M M1 := lvC.of (fun c i z => f1 c i (by unfold frC at z; omega))
  refine ⟨J1, lv1, ?_⟩
  have e1 : ∀ c, M1 1 c = M 110 c := fun c => by rw [f1 1 c (by omega)]; exact I.l1 c
  refine ok_mono (c_gather J1.c (fun c hc => by rw [e1]; exact I.lsb (by omega))) (fun M2 hM2 => ?_)
  obtain ⟨f2, g2⟩ := hM2
  refine ⟨J1.fr (fun c i q => f2 c i (by unfold isC at q; omega)), lvC.of (fun c i z => by rw [f2 c i (by unfold frC at z; omega), f1 c i (by unfold frC at z; omega)]), f2, fun k hk => ?_⟩
  have e : GP M (fun c => M1 1 c) = GP M (lsP M) := GP_congr (fun c _ => e1 c)
  rw [← e]
  exact g2 k hk
theorem aln2 : aln 2 = 3 := by decide +kernel
theorem m_list (I : Inv M) {M1 M2 : Mem} (H2 : MF M M2) (l2 : lvM M1 M2) (g2 : ∀ c i, 80 ≤ c → ¬ (c = 80 ∧ i = 0) → M2 c i = M c i) : Okk (f_X11_looks M2) (fun M3 => LR M (M 80 14) M3 ∧ lvM M1 M3 ∧ GP M (planOf M3) = GP M (lsP M) ∧ PB M (planOf M3) ∧ ∀ c, c < nK M → planOf M3 c = M 110 c) := by
  have h14 := I.1.n14
  refine ok_mono (m_looks H2) (fun M3 hM3 => ?_)
  obtain ⟨f3, L3, p3⟩ := hM3
  have e3 : ∀ c, c < nK M → planOf M3 c = M 110 c := fun c hc => by show M3 108 c = _; rw [p3 c hc, g2 110 c (by omega) (by omega)]
  refine ⟨L3, fun c i q => ?_, GP_congr e3, fun c hc => by rw [e3 c hc]; exact I.pb c hc, e3⟩
  rw [f3 c i (by unfold isS isFa isO isX1 isX2 at q; omega)]
  exact l2 c i q
theorem op_harm (I : Inv M) (s : Int) : Alk (f_X10_harm s M) (f_X11_harm s) := by
  have h14 := I.1.n14
  have h16 := I.1.s16
  refine alk_ro (ans := if cnt (fun c => M 110 c ≠ -1) (nK M) = 0 then -1 else if -1 ≤ s ∧ s ≤ (nS M : Int) - 1 then (if s = -1 then harmGG M (M 80 14) (GP M (lsP M)) else harmBG M (M 80 14) (GP M (lsP M)) s.toNat) else -1) I ?_ (fun M1 h1 => ?_)
  · unfold f_X10_harm
    refine ok_e (c_countListed I.cf) ?_
    rw [cntl I]
    refine ok_ite (fun h0 => ok_some ⟨lvC.rf M, by rw [if_pos h0]⟩) (fun h0 => ?_)
    rw [if_neg h0, I.cf.r11, I.cf.rc, I.cf.td, wrap_of (x := (nS M : Int) - 1) (by omega) (by omega)]
    refine ok_gd I.cf.ru (ok_b (c_within _ _ _ _) (fun h => ?_) (fun h => ok_ite_t rfl (ok_some ⟨lvC.rf M, by rw [if_neg h]⟩)))
    rw [if_pos h]
    refine ok_ite_f (by decide) (ok_gd I.cf.ru (ok_obn (c_list I) (fun M1 hM1 => ?_)))
    refine ok_obn hM1.2.2 (fun M2 hM2 => ?_)
    obtain ⟨J2, lv2, -, g2⟩ := hM2
    have hg : ∀ k, k < nC M → gIs M (M2 2 k) (GP M (lsP M) k) := fun k hk => g2 k (by have := I.1.k23; omega)
    refine ok_ite (fun h5 => ?_) (fun h5 => ?_)
    · rw [if_pos h5]
      exact ok_e (c_harmOf J2 aln2 hg) (ok_some ⟨lv2, rfl⟩)
    · rw [if_neg h5]
      obtain ⟨s, rfl, hs⟩ := nat_of (n := nS M) (show 0 ≤ s ∧ s < (nS M : Int) by omega)
      exact ok_e (c_harmBy J2 aln2 hg hs) (ok_some ⟨lv2, rfl⟩)
  · unfold f_X11_harm
    obtain ⟨M2, e2, H2, f2, l2, g2⟩ := m_start I h1
    refine ok_lt ?_
    rw [e2]
    have ec : cnt (fun c => M2 110 c ≠ -1) (nK M) = cnt (fun c => M 110 c ≠ -1) (nK M) := cnt_congr (fun c _ => by rw [g2 110 c (by omega) (by omega)])
    refine ok_e (m_listed H2) ?_
    rw [ec]
    refine ok_ite (fun h0 => ok_some ⟨l2, by rw [if_pos h0]⟩) (fun h0 => ?_)
    rw [if_neg h0, H2.s, wrap_of (x := (nS M : Int) - 1) (by omega) (by omega)]
    refine ok_b (m_within _ _ _ _) (fun h => ?_) (fun h => ok_ite_t rfl (ok_some ⟨l2, by rw [if_neg h]⟩))
    rw [if_pos h]
    refine ok_ite_f (by decide) (ok_obn (m_list I H2 l2 g2) (fun M3 hM3 => ?_))
    obtain ⟨L3, l3, gp3, pb3, -⟩ := hM3
    refine ok_ite (fun h5 => ?_) (fun h5 => ?_)
    · rw [if_pos h5]
      refine ok_e (m_allHarm L3 pb3) (ok_some ⟨l3, ?_⟩)
      rw [harm_pg I.1 pb3, gp3]
    · rw [if_neg h5]
      obtain ⟨s, rfl, hs⟩ := nat_of (n := nS M) (show 0 ≤ s ∧ s < (nS M : Int) by omega)
      refine ok_e (m_harmOf L3 pb3 hs) (ok_some ⟨l3, ?_⟩)
      rw [harmBy_pg I.1 pb3, gp3, toN]
theorem op_allowed (I : Inv M) (w : Int) : Alk (f_X10_allowed w M) (f_X11_allowed w) := by
  have h14 := I.1.n14
  refine alk_ro (ans := if cnt (fun c => M 110 c ≠ -1) (nK M) = 0 then -1 else if 0 ≤ w ∧ w ≤ 1 then (if w = 1 then lackGG M (M 80 14) (GP M (lsP M)) else if pb (soundG M (M 80 14) (GP M (lsP M)) ∧ lackGG M (M 80 14) (GP M (lsP M)) = 0) = true then 1 else 0) else -1) I ?_ (fun M1 h1 => ?_)
  · unfold f_X10_allowed
    refine ok_e (c_countListed I.cf) ?_
    rw [cntl I]
    refine ok_ite (fun h0 => ok_some ⟨lvC.rf M, by rw [if_pos h0]⟩) (fun h0 => ?_)
    rw [if_neg h0, I.cf.r11, I.cf.td]
    refine ok_b (c_within _ _ _ _) (fun h => ?_) (fun h => ok_ite_t rfl (ok_some ⟨lvC.rf M, by rw [if_neg h]⟩))
    rw [if_pos h]
    refine ok_ite_f (by decide) (ok_gd I.cf.ru (ok_obn (c_list I) (fun M1 hM1 => ?_)))
    refine ok_obn hM1.2.2 (fun M2 hM2 => ?_)
    obtain ⟨J2, lv2, -, g2⟩ := hM2
    have hg : ∀ k, k < nC M → gIs M (M2 2 k) (GP M (lsP M) k) := fun k hk => g2 k (by have := I.1.k23; omega)
    refine ok_ite (fun h5 => ?_) (fun h5 => ?_)
    · rw [if_pos h5]
      exact ok_e (c_lackOf J2 aln2 hg) (ok_some ⟨lv2, rfl⟩)
    · rw [if_neg h5]
      refine ok_obn (c_allows J2 aln2 hg) (fun r hr => ?_)
      refine ok_ite (fun h6 => ok_some ⟨lv2, ?_⟩) (fun h6 => ok_some ⟨lv2, ?_⟩)
      · rw [pb_f.mpr (hr.f h6)]; rfl
      · rw [pb_iff.mpr (hr.t h6)]; rfl
  · unfold f_X11_allowed
    obtain ⟨M2, e2, H2, f2, l2, g2⟩ := m_start I h1
    refine ok_lt ?_
    rw [e2]
    have ec : cnt (fun c => M2 110 c ≠ -1) (nK M) = cnt (fun c => M 110 c ≠ -1) (nK M) := cnt_congr (fun c _ => by rw [g2 110 c (by omega) (by omega)])
    refine ok_e (m_listed H2) ?_
    rw [ec]
    refine ok_ite (fun h0 => ok_some ⟨l2, by rw [if_pos h0]⟩) (fun h0 => ?_)
    rw [if_neg h0]
    refine ok_b (m_within _ _ _ _) (fun h => ?_) (fun h => ok_ite_t rfl (ok_some ⟨l2, by rw [if_neg h]⟩))
    rw [if_pos h]
    refine ok_ite_f (by decide) (ok_obn (m_list I H2 l2 g2) (fun M3 hM3 => ?_))
    obtain ⟨L3, l3, gp3, pb3, -⟩ := hM3
    have eL : lackS M (M 80 14) (planOf M3) = lackGG M (M 80 14) (GP M (lsP M)) := by rw [lack_pg, gp3]
    have eS := sound_pg (known := M 80 14) I.1 pb3
    rw [gp3] at eS
    refine ok_ite (fun h5 => ?_) (fun h5 => ?_)
    · rw [if_pos h5]
      exact ok_e (m_lack L3) (ok_some ⟨l3, eL⟩)
    · rw [if_neg h5]
      refine ok_obn (m_isSound L3 pb3) (fun r hr => ?_)
      refine ok_ite (fun h6 => ok_some ⟨l3, ?_⟩) (fun h6 => ok_e (m_lack L3) ?_)
      · rw [pb_f.mpr (fun z => hr.f h6 (eS.mpr z.1))]; rfl
      · rw [eL]
        refine ok_ite (fun h7 => ok_some ⟨l3, ?_⟩) (fun h7 => ok_some ⟨l3, ?_⟩)
        · rw [pb_iff.mpr ⟨eS.mp (hr.t h6), h7⟩]; rfl
        · rw [pb_f.mpr (fun z => h7 z.2)]; rfl
theorem op_served (I : Inv M) (c : Int) : Alk (f_X10_served c M) (f_X11_served c) := by
  have h14 := I.1.n14
  refine alk_ro (ans := if 0 ≤ c ∧ c < (nK M : Int) then (if M 110 c.toNat = -1 then -1 else (servedG M (GP M (lsP M) (M 110 c.toNat).toNat) c.toNat : Int)) else -1) I ?_ (fun M1 h1 => ?_)
  · unfold f_X10_served
    refine ok_b (c2_has I.cf c) (fun h => ?_) (fun h => ok_ite_t rfl (ok_some ⟨lvC.rf M, by rw [if_neg h]⟩))
    rw [if_pos h]
    obtain ⟨c, rfl, hc⟩ := nat_of h
    have b := I.lsb (c := c) (by omega)
    rw [toN, I.l1 c]
    refine ok_ite_f (by decide) (ok_gd (by omega) ?_)
    refine ok_ite (fun h0 => ok_some ⟨lvC.rf M, by rw [if_pos h0]⟩) (fun h0 => ?_)
    rw [if_neg h0]
    refine ok_obn (c_gather I.cf (fun c hc => by rw [I.l1]; exact I.lsb (by omega))) (fun M2 hM2 => ?_)
    obtain ⟨f2, g2⟩ := hM2
    rw [lsP_gp I] at g2
    have C2 : CF M M2 := I.cf.fr (fun c i q => f2 c i (by unfold isC at q; omega))
    rw [f2 1 c (by omega), I.l1 c]
    obtain ⟨k, hk⟩ : ∃ k : Nat, M 110 c = (k : Int) := ⟨(M 110 c).toNat, by omega⟩
    rw [hk, toN]
    rw [hk] at b
    refine ok_gd (by omega) (ok_gd (by omega) (ok_e (c_bestWish C2 hc (g2 k (by omega)).1) (ok_some ⟨lvC.of (fun c i z => f2 c i (by unfold frC at z; omega)), rfl⟩)))
  · unfold f_X11_served
    obtain ⟨M2, e2, H2, f2, l2, g2⟩ := m_start I h1
    refine ok_lt ?_
    rw [e2]
    refine ok_b (m2_isChild H2 c) (fun h => ?_) (fun h => ok_ite_t rfl (ok_some ⟨l2, by rw [if_neg h]⟩))
    rw [if_pos h]
    obtain ⟨c, rfl, hc⟩ := nat_of h
    have b := I.lsb (c := c) (by omega)
    rw [toN, g2 110 c (by omega) (by omega)]
    refine ok_ite_f (by decide) (ok_gd (by omega) ?_)
    refine ok_ite (fun h0 => ok_some ⟨l2, by rw [if_pos h0]⟩) (fun h0 => ?_)
    rw [if_neg h0]
    refine ok_obn (m_list I H2 l2 g2) (fun M3 hM3 => ?_)
    obtain ⟨L3, l3, gp3, pb3, p3⟩ := hM3
    refine ok_e (m_servedIn L3.1 hc) (ok_some ⟨l3, ?_⟩)
    have e := served_pg (P := planOf M3) I.1 hc (k := (M 110 c).toNat) (by rw [p3 c hc]; omega)
    rw [e, gp3]
end ASK
