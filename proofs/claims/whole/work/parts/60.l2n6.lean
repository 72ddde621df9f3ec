/-! the best plan: bestPlan of the class, bests of the model -/
theorem cnt_down {p : Nat → Prop} [∀ k, Decidable (p k)] : ∀ n, (∀ c d, c ≤ d → d < n → p d → p c) → ∃ m, m ≤ n ∧ cnt p n = (m : Int) ∧ ∀ c, c < n → (p c ↔ c < m)
  | 0, _ => ⟨0, Nat.le_refl _, rfl, fun c h => absurd h (by omega)⟩
  | n + 1, hd => by
    obtain ⟨m, h1, h2, h3⟩ := cnt_down (p := p) n (fun c d h1 h2 => hd c d h1 (by omega))
    rw [cnt_succ, h2]
    by_cases hp : p n
    · have all : ∀ c, c < n → p c := fun c hc => hd c n (by omega) (by omega) hp
      have em : m = n := by
        apply Classical.byContradiction
        intro hne
        have := (h3 m (by omega)).mp (all m (by omega))
        omega
      subst em
      refine ⟨m + 1, Nat.le_refl _, by rw [if_pos hp]; omega, fun c hc => ⟨fun _ => hc, fun _ => ?_⟩⟩
      by_cases e : c = m
      · subst e; exact hp
      · exact all c (by omega)
    · refine ⟨m, by omega, by rw [if_neg hp]; omega, fun c hc => ?_⟩
      by_cases e : c = n
      · subst e
        exact ⟨fun z => absurd z hp, fun z => absurd z (by omega)⟩
      · exact h3 c (by omega)
theorem sz_is {M : Mem} (h : Fa M) (known : Int) : szOf M known ≤ nK M ∧ cnt (fun c => M 84 c ≤ known) (nK M) = (szOf M known : Int) ∧ ∀ c, c < nK M → (M 84 c ≤ known ↔ c < szOf M known) := by
  have hn := h.n
  obtain ⟨m, h1, h2, h3⟩ := cnt_down (p := fun c => M 84 c ≤ known) (nK M) (fun c d hcd hd hp => by
    have := (h.c1 c (by omega)).2.2.2.2 d hcd (by omega)
    omega)
  have e : szOf M known = m := by unfold szOf; rw [h2, toN]
  rw [e]
  exact ⟨h1, h2, h3⟩
section BESTP
variable {M : Mem}
theorem MS_id (h : Fa M) {n : Nat} (h9 : n ≤ 9) (hn : n ≤ nK M) : MS M n idN := ⟨h9, fun i hi => by show i < nK M; omega, fun i j hij _ => hij⟩
def frB (c : Nat) : Prop := c = 23 ∨ (30 ≤ c ∧ c ≤ 47)
theorem c_admits {M0 : Mem} {n : Nat} (h9 : n ≤ 9) (h0 : M0 35 2 = 0) : Okk (f_X10_searchBest_l57 n 0 M0) (fun q => (∀ c i, ¬ ((c = 35 ∧ i = 2) ∨ c = 36 ∨ c = 37) → q.2 c i = M0 c i) ∧ q.2 35 2 = (n : Int) ∧ (∀ i, i < n → q.2 36 i = (i : Int)) ∧ ∀ i, i < n → q.2 37 i = -1) := by
  unfold f_X10_searchBest_l57
  refine ok_whl n (fun k q => q.1 = (k : Int) ∧ (∀ c i, ¬ ((c = 35 ∧ i = 2) ∨ c = 36 ∨ c = 37) → q.2 c i = M0 c i) ∧ q.2 35 2 = (k : Int) ∧ (∀ i, i < k → q.2 36 i = (i : Int)) ∧ ∀ i, i < k → q.2 37 i = -1) (FU_big (by omega)) ⟨rfl, fun _ _ _ => rfl, h0, fun i h => absurd h (by omega), fun i h => absurd h (by omega)⟩ ?_
  rintro k ⟨v, M1⟩ hk ⟨h1, hF, h2, h36, h37⟩
  dsimp only at h1 hF h2 h36 h37 ⊢
  subst h1
  unfold f_X10_searchBest_s57 f_X8_admit
  refine ok_ite (fun h => ?_) (fun h => ?_)
  · have e : k = n := by omega
    subst e; exact ok_some ⟨hF, h2, h36, h37⟩
  have hkn : k < n := by omega
  rw [h2, wrap_n1 (by omega)]
  refine ok_obn (P := fun M' => (∀ c i, ¬ ((c = 35 ∧ i = 2) ∨ c = 36 ∨ c = 37) → M' c i = M0 c i) ∧ M' 35 2 = ((k + 1 : Nat) : Int) ∧ (∀ i, i < k + 1 → M' 36 i = (i : Int)) ∧ ∀ i, i < k + 1 → M' 37 i = -1) ?_ (fun M' hM' => ok_lt (ok_some ⟨hkn, rfl, hM'⟩))
  refine ok_ite_f (by omega) (ok_gd (by omega) (ok_lt ?_))
  rw [toN]
  obtain ⟨M2, e2, f2, v2⟩ := mup_gen M1 36 k (k : Int)
  rw [e2]; clear e2
  have s2 : M2 35 2 = (k : Int) := by rw [f2 _ _ (by omega)]; exact h2
  rw [s2, toN]
  refine ok_gd (by omega) (ok_lt ?_)
  obtain ⟨M3, e3, f3, v3⟩ := mup_gen M2 37 k (-1)
  rw [e3]; clear e3
  have s3 : M3 35 2 = (k : Int) := by rw [f3 _ _ (by omega)]; exact s2
  rw [s3, wrap_n1 (by omega)]
  refine ok_lt ?_
  obtain ⟨M4, e4, f4, v4⟩ := mup_gen M3 35 2 ((k + 1 : Nat) : Int)
  rw [e4]; clear e4
  refine ok_some ⟨fun c i q => by rw [f4 c i (by omega), f3 c i (by omega), f2 c i (by omega)]; exact hF c i q, v4, fun i hi => ?_, fun i hi => ?_⟩
  · rw [f4 _ _ (by omega), f3 _ _ (by omega)]
    by_cases e : i = k
    · subst e; exact v2
    · rw [f2 _ _ (by omega)]; exact h36 i (by omega)
  · rw [f4 _ _ (by omega)]
    by_cases e : i = k
    · subst e; exact v3
    · rw [f3 _ _ (by omega), f2 _ _ (by omega)]; exact h37 i (by omega)
theorem c_begin (M0 : Mem) : ∃ M1, f_X8_begin M0 = some M1 ∧ M1 35 2 = 0 ∧ M1 35 17 = 0 ∧ ∀ c i, ¬ (c = 35 ∧ (i = 2 ∨ i = 17)) → M1 c i = M0 c i :=
  ⟨_, rfl, by rw [mup_o _ _ (by omega), mup_s], mup_s _ _ _ _, fun c i q => by rw [mup_o _ _ (by omega), mup_o _ _ (by omega)]⟩
theorem c_searchBest (I : Inv M) (known : Int) : Okk (f_X10_searchBest known M) (fun q => (∀ c i, ¬ frB c → q.2 c i = M c i) ∧ CBok q.2 known q.1) := by
  have h14 := I.1.n14
  obtain ⟨z1, z2, z3⟩ := sz_is I.1 known
  have key : ∀ (s0 : Int), (s0 = if okDay M known then (szOf M known : Int) else 0) → Okk (f_X10_searchBest_j20 known s0 M) (fun q => (∀ c i, ¬ frB c → q.2 c i = M c i) ∧ CBok q.2 known q.1) := by
    intro s0 hs0
    unfold f_X10_searchBest_j20
    refine ok_ite (fun h0 => ok_some ⟨fun _ _ _ => rfl, Or.inl ⟨fun z => ?_, rfl⟩⟩) (fun h0 => ?_)
    · have z1 := z.1
      have z2 := z.2
      dsimp only at z1 z2
      rw [if_pos z1] at hs0
      omega
    have hd : okDay M known := by
      apply Classical.byContradiction
      intro hc
      rw [if_neg hc] at hs0
      exact h0 hs0
    rw [if_pos hd] at hs0
    subst hs0
    refine ok_ite (fun h9 => ?_) (fun h9 => ok_some ⟨fun _ _ _ => rfl, Or.inr (Or.inl ⟨hd, show 9 < szOf M known by omega, rfl⟩)⟩)
    rw [I.cf.r11]
    refine ok_gd I.cf.ru (ok_obn (c_prepare (known := known) I.cf) (fun M1 hM1 => ?_))
    obtain ⟨J1, f1⟩ := hM1
    obtain ⟨M2, e2, b2, b17, f2⟩ := c_begin M1
    refine ok_e e2 (ok_obn (c_admits (n := szOf M known) (by omega) b2) (fun q hq => ?_))
    obtain ⟨v, M3⟩ := q
    obtain ⟨f3, g2, g36, g37⟩ := hq
    dsimp only at f3 g2 g36 g37 ⊢
    have J3 : JP M known M3 := J1.fr (fun c i q => by rw [f3 c i (by unfold isC at q; omega), f2 c i (by unfold isC at q; omega)])
    have S3 : SU M (szOf M known) idN stN M3 := ⟨by omega, fun i hi => by show i < nK M; omega, fun i j hij _ => hij, g2, g36, g37⟩
    unfold f_X10_searchBest_j77
    refine ok_obn (c_run J3 S3 (by omega) (by rw [f3 35 17 (by omega)]; exact b17) (Or.inl (fun i _ => rfl))) (fun M4 hM4 => ?_)
    obtain ⟨B4, S4, f4⟩ := hM4
    have fr : ∀ c i, ¬ frB c → M4 c i = M c i := fun c i q => by
      unfold frB at q
      rw [f4 c i (by omega), f3 c i (by omega), f2 c i (by omega), f1 c i (by omega)]
    have fe : FE M M4 := fun c i q => fr c i (by unfold isF at q; unfold frB; omega)
    have fM4 : Fa M4 := I.1.congr (fun c i q => fr c i (by unfold isFa at q; unfold frB; omega))
    have fin : ∀ ans : Int, (M4 35 17 = 0 → ans = -2) → (M4 35 17 = 1 → ans = M4 35 19) → CBok M4 known ans := by
      intro ans h0 h1
      refine Or.inr (Or.inr ?_)
      unfold okDay
      rw [fe_sz fe, fe_okW fe I.1 fM4, fe_hmW fe I.1, fe_nC fe, fr 80 14 (by unfold frB; omega)]
      exact ⟨hd, by omega, by omega, ⟨M4 35 17, M4 35 18, M4 35 19, B4, h0, h1⟩, S4.2.2.2.1, S4.2.2.2.2.1⟩
    refine ok_ite (fun h => ok_some ⟨fr, fin _ (fun _ => rfl) (fun z => by omega)⟩) (fun h => ok_some ⟨fr, fin _ (fun z => absurd z h) (fun _ => rfl)⟩)
  unfold f_X10_searchBest
  refine ok_b (c2_isDay I.cf known) (fun hd => ok_ite_f (by decide) (ok_e (c_cameBy I.cf known) ?_)) (fun hd => ok_ite_t rfl (key 0 (by rw [if_neg hd])))
  rw [z2]
  exact key _ (by rw [if_pos hd])
theorem c_bestPlan (I : Inv M) (known : Int) : Okk (f_X10_bestPlan known M) (fun q => Inv q.2 ∧ (∀ c i, ¬ frB c → ¬ (c = 0 ∧ 16 ≤ i ∧ i ≤ 18) → q.2 c i = M c i) ∧ CBok q.2 known q.1) := by
  have run : Okk (bnd (f_X10_searchBest known M) fun r M_2 => lt (mup M_2 0 18 r) fun M_3 => lt (mup M_3 0 17 known) fun M_4 => lt (mup M_4 0 16 1) fun M_5 => some ((M_5 0 18), M_5)) (fun q => Inv q.2 ∧ (∀ c i, ¬ frB c → ¬ (c = 0 ∧ 16 ≤ i ∧ i ≤ 18) → q.2 c i = M c i) ∧ CBok q.2 known q.1) := by
    refine ok_bnd (c_searchBest I known) (fun r M2 hM2 => ?_)
    obtain ⟨f2, hC⟩ := hM2
    dsimp only at f2 hC
    refine ok_lt (ok_lt (ok_lt (ok_some ?_)))
    have f : ∀ c i, ¬ (c = 0 ∧ 16 ≤ i ∧ i ≤ 18) → mup (mup (mup M2 0 18 r) 0 17 known) 0 16 1 c i = M2 c i := fun c i q => by rw [mup_o _ _ (by omega), mup_o _ _ (by omega), mup_o _ _ (by omega)]
    have e18 : mup (mup (mup M2 0 18 r) 0 17 known) 0 16 1 0 18 = r := by rw [mup_o _ _ (by omega), mup_o _ _ (by omega), mup_s]
    have e17 : mup (mup (mup M2 0 18 r) 0 17 known) 0 16 1 0 17 = known := by rw [mup_o _ _ (by omega), mup_s]
    have e16 : mup (mup (mup M2 0 18 r) 0 17 known) 0 16 1 0 16 = 1 := mup_s _ _ _ _
    generalize mup (mup (mup M2 0 18 r) 0 17 known) 0 16 1 = M5 at f e18 e17 e16 ⊢
    have fr : ∀ c i, ¬ frB c → ¬ (c = 0 ∧ 16 ≤ i ∧ i ≤ 18) → M5 c i = M c i := fun c i q z => (f c i z).trans (f2 c i q)
    have ff : ∀ c i, isFa c i → M5 c i = M c i := fun c i q => fr c i (by unfold isFa at q; unfold frB; omega) (by unfold isFa at q; omega)
    have ff2 : ∀ c i, isFa c i → M2 c i = M c i := fun c i q => f2 c i (by unfold isFa at q; unfold frB; omega)
    have fM := I.1.congr ff
    have fM2 := I.1.congr ff2
    have C5 : CBok M5 known r := by
      unfold CBok okDay at hC ⊢
      have fe : FE M2 M5 := fun c i q => f c i (by unfold isF at q; omega)
      rw [fe_sz fe, fe_okW fe fM2 fM, fe_hmW fe fM2, fe_nC fe, f 80 14 (by omega), f 35 2 (by omega), show (fun i => M5 47 i) = fun i => M2 47 i from funext (fun i => f 47 i (by omega))]
      rcases hC with q | q | ⟨q1, q2, q3, q4, q5, q6⟩
      · exact Or.inl q
      · exact Or.inr (Or.inl q)
      · exact Or.inr (Or.inr ⟨q1, q2, q3, q4, q5, fun i hi => by rw [f 36 i (by omega)]; exact q6 i hi⟩)
    refine ⟨⟨fM, I.2.1.congr (fun c i q => fr c i (by unfold isO at q; unfold frB; omega) (by unfold isO at q; omega)), Or.inr ⟨e16, show CBok M5 (M5 0 17) (M5 0 18) by rw [e17, e18]; exact C5⟩, I.2.2.2.congr I.1 fM (fa_fe ff) (show M 80 14 ≤ M5 80 14 by rw [ff 80 14 (by unfold isFa; omega)]; exact Int.le_refl _) (fun c i q => fr c i (by unfold isX2 at q; unfold frB; omega) (by unfold isX2 at q; omega))⟩, fr, show CBok M5 known (M5 0 18) by rw [e18]; exact C5⟩
  unfold f_X10_bestPlan
  refine ok_ite (fun h => run) (fun h => ok_ite (fun h2 => ok_some ⟨I, fun _ _ _ _ => rfl, ?_⟩) (fun h2 => run))
  rcases I.2.2.1 with z | z
  · exact absurd z h
  · rw [h2] at z
    exact z.2
theorem m_bests0 {M1 : Mem} {known : Int} (H : LR M known M1) {n : Nat} (hn : ∀ c, c < nK M → (M 84 c ≤ known ↔ c < n)) (v1 : Int) (hv1 : v1 = known) : Okk (f_X11_bests_l77 v1 0 M1) (fun q => (∀ c i, c ≠ 108 → q.2 c i = M1 c i) ∧ ∀ c, c < nK M → q.2 108 c = if c < n then 0 else -1) := by
  subst hv1
  have h14 := H.1.1.n14
  unfold f_X11_bests_l77
  refine ok_whl (nK M) (fun k q => q.1 = (k : Int) ∧ (∀ c i, c ≠ 108 → q.2 c i = M1 c i) ∧ ∀ c, c < k → q.2 108 c = if c < n then 0 else -1) (FU_big (by omega)) ⟨rfl, fun _ _ _ => rfl, fun c h => absurd h (by omega)⟩ ?_
  rintro k ⟨v, M2⟩ hk ⟨h1, hF, hT⟩
  dsimp only at h1 hF hT ⊢
  subst h1
  have H2 : MF M M2 := H.1.fr (fun c i q => hF c i (by unfold isFa at q; omega))
  unfold f_X11_bests_s77
  (try simp (disch := omega) only [wrap_of, toN, nA, n1, mr2, mr3, mr4, mr9, mr14, ml2, ml3, ml4, ml7, ml14, ml28, H2.n, H2.w])
  refine ok_ite (fun h => ?_) (fun h => ?_)
  · have e : k = nK M := by omega
    subst e; exact ok_some ⟨hF, hT⟩
  have hkn : k < nK M := by omega
  have hh := hn k hkn
  have fin : ∀ x : Int, x = (if k < n then 0 else -1) → Okk (lt (mup M2 108 k x) fun M_2 => lt ((k + 1 : Nat) : Int) fun v2_2 => (some (Sum.inl (v2_2, M_2)) : Option ((Int × Mem) ⊕ (Int × Mem)))) (inS (fun q => k < nK M ∧ q.1 = ((k + 1 : Nat) : Int) ∧ (∀ c i, c ≠ 108 → q.2 c i = M1 c i) ∧ ∀ c, c < k + 1 → q.2 108 c = if c < n then 0 else -1) (fun q : Int × Mem => (∀ c i, c ≠ 108 → q.2 c i = M1 c i) ∧ ∀ c, c < nK M → q.2 108 c = if c < n then 0 else -1)) := by
    intro x hx
    refine ok_lt (ok_lt (ok_some ⟨hkn, rfl, fun c i q => ?_, fun c hc => ?_⟩))
    · try dsimp only
      rw [mup_o _ _ (by omega)]; exact hF c i q
    · try dsimp only
      by_cases e : c = k
      · subst e; rw [mup_s]; exact hx
      · rw [mup_o _ _ (by omega)]; exact hT c (by omega)
  refine ok_gd (by omega) (ok_ite (fun h5 => ok_gd (by omega) (fin (-1) ?_)) (fun h5 => ok_gd (by omega) (fin 0 ?_)))
  · rw [if_neg (fun z => by have := hh.mpr z; omega)]
  · rw [if_pos (hh.mp (by omega))]
theorem cod_zero (C : Nat) : ∀ n, cod C (fun _ => 0) n = 0
  | 0 => rfl
  | n + 1 => by show C * cod C (fun _ => 0) n + 0 = 0; rw [cod_zero C n]; omega
theorem m_bests (hF : Fa M) (hX : X2 M) (known : Int) : Okk (f_X11_bests known M) (fun q => X2 q.2 ∧ (∀ c i, ¬ ((c = 80 ∧ 43 ≤ i ∧ i ≤ 45) ∨ (106 ≤ c ∧ c ≤ 109)) → q.2 c i = M c i) ∧ MBok q.2 known q.1) := by
  have h14 := hF.n14
  have h3 := hF.k23
  have H := MF.rf hF
  obtain ⟨z1, z2, z3⟩ := sz_is hF known
  have hdd : f_X11_within known 0 (M 80 14) M = some (b2i (okDay M known)) := m_within _ _ _ _
  unfold f_X11_bests
  refine ok_b hdd (fun hd => ok_ite_f (by decide) ?_) (fun hd => ok_ite_t rfl (ok_some ⟨hX, fun _ _ _ => rfl, Or.inl ⟨fun z => hd z.1, rfl⟩⟩))
  have hcb := m_cameBy H known
  rw [z2] at hcb
  refine ok_e hcb (ok_ite (fun h0 => ok_some ⟨hX, fun _ _ _ => rfl, Or.inl ⟨fun z => by have z2 := z.2; dsimp only at z2; omega, rfl⟩⟩) (fun h0 => ok_e hcb ?_))
  refine ok_ite (fun h9 => ?_) (fun h9 => ok_some ⟨hX, fun _ _ _ => rfl, Or.inr (Or.inl ⟨hd, show 9 < szOf M known by omega, rfl⟩)⟩)
  have run : Okk (obn (f_X11_learns known M) fun M_2 => obn (f_X11_bests_l77 known 0 M_2) fun s => f_X11_bests_j112 known s.2) (fun q => X2 q.2 ∧ (∀ c i, ¬ ((c = 80 ∧ 43 ≤ i ∧ i ≤ 45) ∨ (106 ≤ c ∧ c ≤ 109)) → q.2 c i = M c i) ∧ MBok q.2 known q.1) := by
    refine ok_obn (m_learns H known) (fun M1 hM1 => ?_)
    obtain ⟨f1, L1⟩ := hM1
    refine ok_obn (m_bests0 L1 z3 known rfl) (fun q hq => ?_)
    obtain ⟨v, M2⟩ := q
    obtain ⟨f2, p2⟩ := hq
    dsimp only at f2 p2 ⊢
    unfold f_X11_bests_j112
    refine ok_lt ?_
    obtain ⟨M3, e3, f3, v3⟩ := mup_gen M2 80 45 1000000000
    rw [e3]; clear e3
    have L3 : LR M known M3 := L1.fr (fun c i q => by rw [f3 c i (by unfold isFa at q; omega), f2 c i (by unfold isFa at q; omega)])
    have W3 : WP M (szOf M known) idN (fun _ => 0) (planOf M3) := by
      refine ⟨fun i hi => ?_, fun c hc hno => ?_⟩
      · show M3 108 i = 0
        rw [f3 _ _ (by omega), p2 i (by omega), if_pos hi]
      · show M3 108 c = -1
        rw [f3 _ _ (by omega), p2 c hc, if_neg (fun z => hno c z rfl)]
    refine ok_obn (m_bloop L3 (MS_id hF (by omega) z1) (fun i _ => by show 0 < nC M; omega) (cod_zero _ _) W3 v3 known) (fun M4 hM4 => ?_)
    obtain ⟨f4, f, B4⟩ := hM4
    unfold f_X11_bests_j192
    refine ok_lt (ok_lt ?_)
    obtain ⟨M5, e5, f5, v5⟩ := mup_gen M4 80 43 1
    rw [e5]; clear e5
    obtain ⟨M6, e6, f6, v6⟩ := mup_gen M5 80 44 known
    rw [e6]; clear e6
    have fr : ∀ c i, ¬ ((c = 80 ∧ 43 ≤ i ∧ i ≤ 45) ∨ (106 ≤ c ∧ c ≤ 109)) → M6 c i = M c i := fun c i q => by rw [f6 c i (by omega), f5 c i (by omega), f4 c i (by omega), f3 c i (by omega), f2 c i (by omega), f1 c i (by omega)]
    have ff : ∀ c i, isFa c i → M6 c i = M c i := fun c i q => fr c i (by unfold isFa at q; omega)
    have fM := hF.congr ff
    have fe := fa_fe ff
    have B6 : MBx M known (szOf M known) idN stN (nC M ^ szOf M known) 0 f M6 := B4.fr (by rw [f6 _ _ (by omega), f5 _ _ (by omega)]) (fun i => by rw [f6 _ _ (by omega), f5 _ _ (by omega)])
    have B6' : MBx M6 known (szOf M known) idN stN (nC M ^ szOf M known) 0 f M6 := by
      unfold MBx at B6 ⊢
      rw [fe_okW fe hF fM, fe_hmW fe hF, fe_nC fe, fe_nK fe]
      exact B6
    have f01 : f = 0 ∨ f = 1 := by
      rcases B6.1 with q | q
      · exact Or.inl q.1
      · exact Or.inr q.1
    have e14 : M6 80 14 = M 80 14 := ff 80 14 (by unfold isFa; omega)
    have e44 : M6 80 44 = known := v6
    have inv : X2 M6 := Or.inr (by
      unfold okDay
      rw [e44, e14, fe_sz fe, fe_nC fe]
      exact ⟨hd, by omega, by omega, f, B6'⟩)
    have fin : ∀ ans : Int, (f = 0 → ans = -2) → (f = 1 → ans = M6 80 45) → MBok M6 known ans := by
      intro ans g0 g1
      refine Or.inr (Or.inr ?_)
      unfold okDay
      rw [e14, fe_sz fe, fe_nC fe]
      exact ⟨hd, by omega, by omega, f, B6', g0, g1⟩
    refine ok_ite (fun h => ok_some ⟨inv, fr, fin _ (fun _ => rfl) (fun z => ?_)⟩) (fun h => ok_some ⟨inv, fr, fin _ (fun z => ?_) (fun _ => rfl)⟩)
    · have := (B6.2.2 z).1; omega
    · exact absurd (B6.2.1 z) h
  refine ok_ite (fun h43 => run) (fun h43 => ok_ite (fun h44 => ?_) (fun h44 => run))
  have hX2 := hX
  rcases hX2 with z | ⟨q1, q2, q3, f, q4⟩
  · exact absurd z h43
  · rw [← h44] at q1 q2 q3 q4
    refine ok_ite (fun h => ok_some ⟨hX, fun _ _ _ => rfl, Or.inr (Or.inr ⟨q1, q2, q3, f, q4, fun _ => rfl, fun z => ?_⟩)⟩) (fun h => ok_some ⟨hX, fun _ _ _ => rfl, Or.inr (Or.inr ⟨q1, q2, q3, f, q4, fun z => ?_, fun _ => rfl⟩)⟩)
    · have := (q4.2.2 z).1; omega
    · exact absurd (q4.2.1 z) h
/-- what both found is one -/
theorem best_one (h : Fa M) {known a b : Int} (hC : CBok M known a) (hM : MBok M known b) : a = b ∧ (0 ≤ a → szOf M known ≤ 9 ∧ M 35 2 = (szOf M known : Int) ∧ (∀ i, i < szOf M known → M 36 i = (i : Int) ∧ M 47 i = M 109 i ∧ 0 ≤ M 109 i ∧ M 109 i < (nC M : Int)) ∧ ∀ c, c < nK M → szOf M known ≤ c → M 109 c = -1) := by
  rcases hC with ⟨c1, c2⟩ | ⟨c1, c2, c3⟩ | ⟨c1, c2, c3, ⟨f, bm, bh, cB, c0, c4⟩, c5, c6⟩
  · rcases hM with ⟨m1, m2⟩ | ⟨m1, m2, m3⟩ | ⟨m1, m2, m3, -⟩
    · exact ⟨by omega, fun z => by omega⟩
    · exact absurd ⟨m1, by omega⟩ c1
    · exact absurd ⟨m1, m2⟩ c1
  · rcases hM with ⟨m1, m2⟩ | ⟨m1, m2, m3⟩ | ⟨m1, m2, m3, -⟩
    · exact absurd ⟨c1, by omega⟩ m1
    · exact ⟨by omega, fun z => by omega⟩
    · omega
  · rcases hM with ⟨m1, m2⟩ | ⟨m1, m2, m3⟩ | ⟨m1, m2, m3, f', mB, m0, m4⟩
    · exact absurd ⟨c1, c2⟩ m1
    · omega
    · have u := BestLt.uniq cB mB.1
      have f01 : f = 0 ∨ f = 1 := by
        rcases cB with q | q
        · exact Or.inl q.1
        · exact Or.inr q.1
      rcases f01 with hf | hf
      · have e1 := c0 hf
        have e2 := m0 (u.1.symm.trans hf)
        exact ⟨by omega, fun z => by omega⟩
      · have e1 := c4 hf
        have e2 := m4 (u.1.symm.trans hf)
        obtain ⟨u1, u2, u3⟩ := u.2 hf
        refine ⟨by omega, fun _ => ⟨c3, c5, fun i hi => ⟨c6 i hi, u3 i hi, ?_⟩, fun c hc hge => (mB.2.2 (u.1.symm.trans hf)).2 c hc (fun i hi e => by have : i = c := e; omega)⟩⟩
        rcases mB.1 with q | ⟨-, w, w1, w2, w3, w4, -⟩
        · have := q.1; omega
        · have e := w4 i hi
          have b := w1 i hi
          have e' : M 109 i = (w i : Int) := e
          omega
end BESTP
