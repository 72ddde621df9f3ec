/-! make: both sides -/
section MAKE
variable {M : Mem}
theorem stF_V {B : Mem} {known : Int} (h : goodTo B known (nK B)) : VP B (stF B known (nK B)) := fun x hx => by
  have := stF_b (nK B) h x
  exact ⟨this.2.2 hx, this.2.1⟩
/-- the class's STEPS, all -/
theorem c_improve {B M M0 : Mem} {known : Int} {P : Nat → Int} (X : CS B known P 0 M0 M) (hV : VP B P) {T : Nat} (hT : T < 885736) (hT1 : ¬ hasSt B known (itF B known P T)) (hT2 : ∀ t, t < T → hasSt B known (itF B known P t)) : Okk (f_X2_improve M) (fun M' => CS B known (itF B known P T) (T : Int) M0 M') := by
  unfold f_X2_improve
  refine ok_obn (P := fun M' => CS B known (itF B known P T) (T : Int) M0 M') ?_ (fun M' hM' => by unfold f_X2_improve_j36; exact ok_some hM')
  unfold f_X2_improve_l0
  refine ok_whl T (fun t N => CS B known (itF B known P t) (t : Int) M0 N) (FU_big (by omega)) X ?_
  intro t N ht XN
  have hVt := it_V X.1.c hV t (fun i hi => hT2 i (by omega))
  have e4 : N 48 4 = (t : Int) := XN.2.2.2.2.2.2
  have more : ∀ (N2 : Mem) (Q : Nat → Int), stRel B known (itF B known P t) Q → CS B known Q (t : Int) M0 N2 → Okk (lt (mup N2 48 4 (wrap ((N2 48 4) + 1))) fun M_3 => (some (.inl M_3) : Option (Mem ⊕ Mem))) (inS (fun s' => t < T ∧ CS B known (itF B known P (t + 1)) ((t + 1 : Nat) : Int) M0 s') (fun M' => CS B known (itF B known P T) (T : Int) M0 M')) := fun N2 Q hQ X2 => by
    have htT : t < T := by
      apply Classical.byContradiction
      intro z
      have e : t = T := by omega
      rw [e] at hQ
      exact hT1 ⟨Q, hQ⟩
    have eQ : itF B known P (t + 1) = Q := nxP_of hQ
    obtain ⟨J, x1, x2, x3, x4, x5, x6⟩ := X2
    rw [x6, wrap_n1 (by omega)]
    obtain ⟨N3, e3, f3, v3⟩ := mup_gen N2 48 4 ((t + 1 : Nat) : Int)
    refine ok_lt ?_
    rw [e3]
    refine ok_some ⟨htT, ?_⟩
    rw [eQ]
    exact ⟨J.fr (fun x i q => f3 x i (by unfold isC at q; omega)), fun x i q1 q2 q3 => by rw [f3 x i (by omega)]; exact x1 x i q1 q2 q3, fun j hj => by rw [f3 49 j (by omega)]; exact x2 j hj, fun x hx => by rw [f3 50 x (by omega)]; exact x3 x hx, by rw [f3 48 5 (by omega)]; exact x4, by rw [f3 48 6 (by omega)]; exact x5, v3⟩
  unfold f_X2_improve_s0
  rw [e4]
  refine ok_ite_f (by omega) (ok_bnd (c_byMove XN hVt) (fun r N2 hr => ?_))
  rcases hr with ⟨r0, nm, X2⟩ | ⟨r1, c, k, hm, X2⟩
  · dsimp only at r0 nm X2 ⊢
    refine ok_ite_t r0 (ok_bnd (c_bySwap X2 hVt) (fun r2 N3 hr2 => ?_))
    rcases hr2 with ⟨q0, ns, X3⟩ | ⟨q1, a, b, hs, X3⟩
    · dsimp only at q0 ns X3 ⊢
      refine ok_ite_t q0 (ok_some ?_)
      have e : t = T := by
        apply Classical.byContradiction
        intro z
        obtain ⟨Q, hQ⟩ := hT2 t (by omega)
        rcases hQ with ⟨c, k, h1, -⟩ | ⟨-, a, b, h2, -⟩
        · exact nm c h1.1 k h1.2.1
        · exact ns a b h2.1 h2.2.1 h2.2.2.1
      subst e; exact X3
    · dsimp only at q1 hs X3 ⊢
      exact ok_ite_f (by omega) (more N3 _ (Or.inr ⟨nm, a, b, hs, rfl⟩) X3)
  · dsimp only at r1 hm X2 ⊢
    exact ok_ite_f (by omega) (more N2 _ (Or.inl ⟨c, k, hm, rfl⟩) X2)
/-- the model's STEPS, all -/
theorem m_improve {B M M0 : Mem} {known : Int} {P : Nat → Int} (X : MPl B known P M0 M) (hz : M 80 48 = 0) (hV : VP B P) {T : Nat} (hT : T < 885736) (hT1 : ¬ hasSt B known (itF B known P T)) (hT2 : ∀ t, t < T → hasSt B known (itF B known P t)) : Okk (f_X11_make_l79 M) (fun M' => LR B known M' ∧ (∀ x i, x ≠ 108 → ¬ (x = 80 ∧ i = 48) → M' x i = M0 x i) ∧ (∀ x, x < nK B → M' 108 x = itF B known P T x) ∧ M' 80 48 = (T : Int)) := by
  unfold f_X11_make_l79
  refine ok_whl T (fun t N => LR B known N ∧ (∀ x i, x ≠ 108 → ¬ (x = 80 ∧ i = 48) → N x i = M0 x i) ∧ (∀ x, x < nK B → N 108 x = itF B known P t x) ∧ N 80 48 = (t : Int)) (FU_big (by omega)) ⟨X.1, fun x i q _ => X.2.1 x i q, X.2.2, hz⟩ ?_
  rintro t N ht ⟨L, hf, hp, h48⟩
  have hVt := it_V X.1.1.1.cf hV t (fun i hi => hT2 i (by omega))
  have XN : MPl B known (itF B known P t) N N := ⟨L, fun _ _ _ => rfl, hp⟩
  have more : ∀ (N2 : Mem) (Q : Nat → Int), stRel B known (itF B known P t) Q → MPl B known Q N N2 → Okk (lt (mup N2 80 48 (wrap ((N2 80 48) + 1))) fun M_3 => (some (.inl M_3) : Option (Mem ⊕ Mem))) (inS (fun s' => t < T ∧ LR B known s' ∧ (∀ x i, x ≠ 108 → ¬ (x = 80 ∧ i = 48) → s' x i = M0 x i) ∧ (∀ x, x < nK B → s' 108 x = itF B known P (t + 1) x) ∧ s' 80 48 = ((t + 1 : Nat) : Int)) (fun M' => LR B known M' ∧ (∀ x i, x ≠ 108 → ¬ (x = 80 ∧ i = 48) → M' x i = M0 x i) ∧ (∀ x, x < nK B → M' 108 x = itF B known P T x) ∧ M' 80 48 = (T : Int))) := fun N2 Q hQ X2 => by
    have htT : t < T := by
      apply Classical.byContradiction
      intro z
      have e : t = T := by omega
      rw [e] at hQ
      exact hT1 ⟨Q, hQ⟩
    have eQ : itF B known P (t + 1) = Q := nxP_of hQ
    rw [X2.2.1 80 48 (by omega), h48, wrap_n1 (by omega)]
    obtain ⟨N3, e3, f3, v3⟩ := mup_gen N2 80 48 ((t + 1 : Nat) : Int)
    refine ok_lt ?_
    rw [e3]
    refine ok_some ⟨htT, X2.1.fr (fun x i q => f3 x i (by unfold isFa at q; omega)), fun x i q1 q2 => ?_, fun x hx => ?_, v3⟩
    · rw [f3 x i q2, X2.2.1 x i q1]; exact hf x i q1 q2
    · rw [f3 108 x (by omega), X2.2.2 x hx, eQ]
  unfold f_X11_make_s79
  refine ok_bnd (m_betters XN hVt) (fun r N2 hr => ?_)
  rcases hr with ⟨r0, nm, ns, X2⟩ | ⟨r1, hr⟩
  · dsimp only at r0 nm ns X2 ⊢
    refine ok_ite_t r0 (ok_some ?_)
    have e : t = T := by
      apply Classical.byContradiction
      intro z
      obtain ⟨Q, hQ⟩ := hT2 t (by omega)
      rcases hQ with ⟨c, k, h1, -⟩ | ⟨-, a, b, h2, -⟩
      · exact nm c h1.1 k h1.2.1
      · exact ns a b h2.1 h2.2.1 h2.2.2.1
    subst e
    exact ⟨X2.1, fun x i q1 q2 => by rw [X2.2.1 x i q1]; exact hf x i q1 q2, X2.2.2, by rw [X2.2.1 80 48 (by omega)]; exact h48⟩
  · dsimp only at r1 hr ⊢
    refine ok_ite_f (by omega) ?_
    rcases hr with ⟨c, k, hm, X2⟩ | ⟨nm, a, b, hs, X2⟩
    · exact more N2 _ (Or.inl ⟨c, k, hm, rfl⟩) X2
    · exact more N2 _ (Or.inr ⟨nm, a, b, hs, rfl⟩) X2
/-- the model's first PLAN -/
theorem m_starts {B M : Mem} {known : Int} (L : LR B known M) (hp : ∀ x, x < nK B → M 108 x = -1) : Okk (f_X11_make_l47 0 M) (inS (fun s => goodTo B known (nK B) ∧ MPl B known (stF B known (nK B)) M s.2) (fun q => q.1 = -2 ∧ (∀ x i, x ≠ 108 → q.2 x i = M x i) ∧ ∃ c, c < nK B ∧ goodTo B known c ∧ softF B known (stF B known c) c = -1)) := by
  have h14 := L.1.1.n14
  unfold f_X11_make_l47
  refine ok_whl (nK B) (fun c s => s.1 = (c : Int) ∧ goodTo B known c ∧ MPl B known (stF B known c) M s.2) (FU_big (by omega)) ⟨rfl, fun x hx => absurd hx (by omega), L, fun _ _ _ => rfl, hp⟩ ?_
  rintro c ⟨u, N⟩ hc ⟨hu, hgd, X⟩
  dsimp only at hu hgd X ⊢
  subst hu
  unfold f_X11_make_s47
  rw [X.1.1.n, wrap_n1 (by omega)]
  refine ok_ite (fun h => ?_) (fun h => ?_)
  · have e : c = nK B := by omega
    subst e; exact ok_some ⟨hgd, X⟩
  have hcn : c < nK B := by omega
  have hPB : PB B (stF B known c) := fun x hx => by have := stF_b c hgd x; omega
  obtain ⟨eg, pb⟩ := X.pl hPB
  refine ok_bnd (m_softest X.1 pb hcn (lt := 0) (Or.inl rfl)) (fun r N2 hr => ?_)
  obtain ⟨f2, v2, v, hS⟩ := hr
  dsimp only at f2 v2 hS ⊢
  have egp : ∀ k : Nat, GP B (upP (planOf N) c k) = GP B (upP (stF B known c) c k) := fun k => GP_congr (fun x hx => by
    by_cases e : x = c
    · subst e; rw [upP_at, upP_at]
    · rw [upP_ne _ _ e, upP_ne _ _ e]; exact X.2.2 x hx)
  have eok : okS B known ((0 : Int) ≠ 0) (planOf N) c = okS B known ((0 : Int) ≠ 0) (stF B known c) c := by
    funext k
    unfold okS
    rw [egp k]
  have ehm : hmS B known (planOf N) c = hmS B known (stF B known c) c := by
    funext k
    unfold hmS
    rw [egp k]
  rw [eok, ehm] at hS
  have er := softF_of hS
  have eb := softF_b hS
  refine ok_ite (fun h5 => ok_some ⟨rfl, fun x i q => by show N2 x i = _; rw [f2 x i (by omega)]; exact X.2.1 x i q, c, hcn, hgd, by rw [er]; exact h5⟩) (fun h5 => ok_lt (ok_some ⟨hcn, rfl, fun x hx => ?_, ?_⟩))
  · by_cases e : x = c
    · rw [e, er]; omega
    · exact hgd x (by omega)
  · have := X.set f2 v2
    have eP : stF B known (c + 1) = upP (stF B known c) c r := by show upP (stF B known c) c (softF B known (stF B known c) c) = _; rw [er]
    rw [eP]; exact this
theorem op_make (I : Inv M) : Alk (f_X10_make M) f_X11_make := by
  have h14 := I.1.n14
  have h3 := I.1.k23
  have hkC := I.1.k
  have hn := I.1.n
  have n3 : M 3 0 = (nK M : Int) := I.cf.n
  by_cases h0 : nK M = 0
  · refine alk_ro I (ans := -1) ?_ (fun M1 h1 => ?_)
    · unfold f_X10_make
      rw [n3]
      exact ok_ite_t (by omega) (ok_some ⟨lvC.rf M, rfl⟩)
    · obtain ⟨M2, e2, H2, f2, l2, g2⟩ := m_start I h1
      unfold f_X11_make
      refine ok_lt ?_
      rw [e2, H2.n]
      exact ok_ite_t (by omega) (ok_some ⟨l2, rfl⟩)
  -- the model, up to its first PLAN
  have model : ∀ (M1 : Mem) (Q : Res → Prop), (∀ c i, ((isS c i ∨ 80 ≤ c) ∧ ¬ (c = 0 ∧ i = 15) ∧ c ≠ 1) → M1 c i = M c i) →
      (∀ M5, (∀ x i, ¬ (106 ≤ x ∧ x ≤ 108) → ¬ (x = 80 ∧ i = 0) → M5 x i = M1 x i) → (∃ c, c < nK M ∧ goodTo M (M 80 14) c ∧ softF M (M 80 14) (stF M (M 80 14) c) c = -1) → Q (-2, M5)) →
      (∀ M4 M5, (∀ x i, ¬ (106 ≤ x ∧ x ≤ 108) → ¬ (x = 80 ∧ i = 0) → M4 x i = M1 x i) → goodTo M (M 80 14) (nK M) → MPl M (M 80 14) (stF M (M 80 14) (nK M)) M4 M5 → Okk (f_X11_make_j74 M5) Q) → Okk (f_X11_make M1) Q := by
    intro M1 Q fr k1 k2
    unfold f_X11_make
    obtain ⟨M2, e2, f2⟩ := th0 M1
    have H2 : MF M M2 := ⟨I.1, fun x i q => by rw [f2 x i (by unfold isFa at q; omega)]; exact fr x i ⟨Or.inl (Or.inl q), by unfold isFa at q; omega, by unfold isFa at q; omega⟩⟩
    refine ok_lt ?_
    rw [e2, H2.n, H2.td]
    refine ok_ite_f (by omega) (ok_obn (m_learns H2 (M 80 14)) (fun M3 hM3 => ?_))
    obtain ⟨f3, L3⟩ := hM3
    refine ok_obn (P := fun s => (∀ x i, x ≠ 108 → s.2 x i = M3 x i) ∧ ∀ x, x < nK M → s.2 108 x = -1) ?_ (fun s hs => ?_)
    · unfold f_X11_make_l24
      refine ok_whl (nK M) (fun c s => s.1 = (c : Int) ∧ (∀ x i, x ≠ 108 → s.2 x i = M3 x i) ∧ ∀ x, x < c → s.2 108 x = -1) (FU_big (by omega)) ⟨rfl, fun _ _ _ => rfl, fun x hx => absurd hx (by omega)⟩ ?_
      rintro c ⟨u, N⟩ hc ⟨hu, hf, hp⟩
      dsimp only at hu hf hp ⊢
      subst hu
      unfold f_X11_make_s24
      rw [hf 80 1 (by omega), L3.1.n, toN, wrap_n1 (by omega)]
      refine ok_ite (fun h => ?_) (fun h => ?_)
      · have e : c = nK M := by omega
        subst e; exact ok_some ⟨hf, hp⟩
      obtain ⟨N2, e5, f5, v5⟩ := mup_gen N 108 c (-1)
      refine ok_gd (by omega) (ok_lt (ok_lt ?_))
      rw [e5]
      refine ok_some ⟨by omega, rfl, fun x i q => by show N2 x i = _; rw [f5 x i (by omega)]; exact hf x i q, fun x hx => ?_⟩
      show N2 108 x = -1
      by_cases e : x = c
      · rw [e, v5]
      · rw [f5 108 x (by omega)]; exact hp x (by omega)
    · obtain ⟨u, M4⟩ := s
      obtain ⟨f4, p4⟩ := hs
      dsimp only at f4 p4 ⊢
      have L4 : LR M (M 80 14) M4 := L3.fr (fun x i q => f4 x i (by unfold isFa at q; omega))
      have fr4 : ∀ x i, ¬ (106 ≤ x ∧ x ≤ 108) → ¬ (x = 80 ∧ i = 0) → M4 x i = M1 x i := fun x i q1 q2 => by rw [f4 x i (by omega), f3 x i (by omega), f2 x i q2]
      unfold f_X11_make_j45
      refine ok_lpr (m_starts L4 p4) (fun s hs => ?_) (fun t ht => ok_some ?_)
      · exact k2 M4 s.2 fr4 hs.1 hs.2
      · obtain ⟨t1, t2, t3⟩ := ht
        obtain ⟨ta, tm⟩ := t
        dsimp only at t1 t2 t3
        subst t1
        exact k1 tm (fun x i q1 q2 => by rw [t2 x i (by omega)]; exact fr4 x i q1 q2) t3
  unfold Alk f_X10_make
  rw [n3, I.cf.r11, I.cf.td]
  refine ok_ite_f (by omega) (ok_gd I.cf.ru (ok_obn (c_prepare I.cf) (fun M2 hM2 => ?_)))
  obtain ⟨J2, f2⟩ := hM2
  refine ok_bnd (c_starts J2) (fun r M3 hr => ?_)
  rcases hr with ⟨r0, f3, c, hc, hg, hs⟩ | ⟨r1, hgd, X3⟩
  · dsimp only at r0 f3 ⊢
    refine ok_ite_t r0 (ok_some (model M3 _ (fun x i q => ?_) (fun M5 f5 _ => ⟨rfl, ?_⟩) (fun M4 M5 f4 hgd X => ?_)))
    · have q2 : ¬ (x = 23 ∨ (30 ≤ x ∧ x ≤ 34)) ∧ x ≠ 48 ∧ x ≠ 49 ∧ x ≠ 50 := by have := q.1; unfold isS isFa isO isX1 isX2 at this; omega
      rw [f3 x i q2.2.1 q2.2.2.1 q2.2.2.2, f2 x i (by omega)]
    · refine I.congr (fun x i q => ?_)
      have q2 : ¬ (x = 23 ∨ (30 ≤ x ∧ x ≤ 34)) ∧ x ≠ 48 ∧ x ≠ 49 ∧ x ≠ 50 ∧ ¬ (106 ≤ x ∧ x ≤ 108) ∧ ¬ (x = 80 ∧ i = 0) := by unfold isS isFa isO isX1 isX2 at q; omega
      try dsimp only
      rw [f5 x i q2.2.2.2.2.1 q2.2.2.2.2.2, f3 x i q2.2.1 q2.2.2.1 q2.2.2.2.1, f2 x i (by omega)]
    · have := hgd c hc
      rw [hs] at this
      omega
  · dsimp only at r1 X3 ⊢
    refine ok_ite_f (by omega) ?_
    have hV := stF_V hgd
    obtain ⟨T, hT, hT1, hT2⟩ := it_end (known := M 80 14) I.cf hV
    refine ok_obn (c_improve X3 hV hT hT1 hT2) (fun M4 X4 => ok_lt ?_)
    have hVT := it_V (known := M 80 14) I.cf hV T hT2
    generalize hPT : itF M (M 80 14) (stF M (M 80 14) (nK M)) T = PT at X4 hVT
    obtain ⟨J4, x1, x2, x3, x4, x5, x6⟩ := X4
    rw [x6]
    obtain ⟨M5, e5, f5, v5⟩ := mup_gen M4 0 15 (T : Int)
    rw [e5]
    refine ok_obn (P := fun s => (∀ x i, x ≠ 1 → s.2 x i = M5 x i) ∧ (∀ i, nK M ≤ i → s.2 1 i = M5 1 i) ∧ ∀ x, x < nK M → s.2 1 x = PT x) ?_ (fun s hs => ?_)
    · unfold f_X10_make_l60
      refine ok_whl (nK M) (fun c s => s.1 = (c : Int) ∧ (∀ x i, x ≠ 1 → s.2 x i = M5 x i) ∧ (∀ i, nK M ≤ i → s.2 1 i = M5 1 i) ∧ ∀ x, x < c → s.2 1 x = PT x) (FU_big (by omega)) ⟨rfl, fun _ _ _ => rfl, fun _ _ => rfl, fun x hx => absurd hx (by omega)⟩ ?_
      rintro c ⟨u, N⟩ hc ⟨hu, hf, hf2, hp⟩
      dsimp only at hu hf hf2 hp ⊢
      subst hu
      unfold f_X10_make_s60
      have e3 : N 3 0 = (nK M : Int) := by rw [hf 3 0 (by omega), f5 3 0 (by omega)]; exact J4.c.n
      rw [e3, toN, wrap_n1 (by omega)]
      refine ok_ite (fun h => ?_) (fun h => ?_)
      · have e : c = nK M := by omega
        subst e; exact ok_some ⟨hf, hf2, hp⟩
      have e50 : N 50 c = PT c := by rw [hf 50 c (by omega), f5 50 c (by omega)]; exact x3 c (by omega)
      rw [e50]
      obtain ⟨N2, e6, f6, v6⟩ := mup_gen N 1 c (PT c)
      refine ok_gd (by omega) (ok_gd (by omega) (ok_lt (ok_lt ?_)))
      rw [e6]
      refine ok_some ⟨by omega, rfl, fun x i q => by show N2 x i = _; rw [f6 x i (by omega)]; exact hf x i q, fun i hi => by show N2 1 i = _; rw [f6 1 i (by omega)]; exact hf2 i hi, fun x hx => ?_⟩
      show N2 1 x = _
      by_cases e : x = c
      · rw [e, v6]
      · rw [f6 1 x (by omega)]; exact hp x (by omega)
    obtain ⟨u, M6⟩ := s
    obtain ⟨f6, f6', p6⟩ := hs
    dsimp only at f6 f6' p6 ⊢
    -- the class's cells now
    have fr6 : ∀ x i, x ≠ 1 → ¬ (x = 0 ∧ i = 15) → x ≠ 48 → x ≠ 49 → x ≠ 50 → ¬ (x = 23 ∨ (30 ≤ x ∧ x ≤ 34)) → M6 x i = M x i := fun x i q1 q2 q3 q4 q5 q6 => by
      rw [f6 x i q1, f5 x i q2, x1 x i q3 q4 q5, f2 x i (by omega)]
    have e48 : M6 48 5 = lackGG M (M 80 14) (GP M PT) := by rw [f6 48 5 (by omega), f5 48 5 (by omega)]; exact x4
    have e486 : M6 48 6 = harmGG M (M 80 14) (GP M PT) := by rw [f6 48 6 (by omega), f5 48 6 (by omega)]; exact x5
    have e15 : M6 0 15 = (T : Int) := by rw [f6 0 15 (by omega)]; exact v5
    have far1 : ∀ i, nK M ≤ i → M6 1 i = M 1 i := fun i hi => by rw [f6' i hi, f5 1 i (by omega), x1 1 i (by omega) (by omega) (by omega), f2 1 i (by omega)]
    have lb := lackGG_b I.cf (M 80 14) (GP M PT)
    -- the model behind it
    have go : ∀ ans : Int, ans = (if lackGG M (M 80 14) (GP M PT) = 0 then harmGG M (M 80 14) (GP M PT) else -4) → Okk (f_X11_make M6) (fun q2 => q2.1 = ans ∧ Inv q2.2) := by
      intro ans hans
      refine model M6 _ (fun x i q => ?_) (fun M7 f7 hx => ?_) (fun M7 M8 f7 hgd2 X8 => ?_)
      · have q2 : ¬ (x = 23 ∨ (30 ≤ x ∧ x ≤ 34)) ∧ x ≠ 48 ∧ x ≠ 49 ∧ x ≠ 50 := by have := q.1; unfold isS isFa isO isX1 isX2 at this; omega
        exact fr6 x i q.2.2 q.2.1 q2.2.1 q2.2.2.1 q2.2.2.2 q2.1
      · obtain ⟨c, hc, -, hs⟩ := hx
        have := hgd c hc
        rw [hs] at this
        omega
      · unfold f_X11_make_j74
        obtain ⟨M9, e9, f9, v9⟩ := mup_gen M8 80 48 0
        refine ok_lt ?_
        rw [e9]
        have X9 : MPl M (M 80 14) (stF M (M 80 14) (nK M)) M9 M9 := ⟨X8.1.fr (fun x i q => f9 x i (by unfold isFa at q; omega)), fun _ _ _ => rfl, fun x hx => by rw [f9 108 x (by omega)]; exact X8.2.2 x hx⟩
        refine ok_obn (m_improve X9 v9 hV hT hT1 hT2) (fun Ma hMa => ?_)
        obtain ⟨La, fa, pa, ta⟩ := hMa
        rw [hPT] at pa
        unfold f_X11_make_j99
        refine ok_obn (P := fun s => (∀ x i, x ≠ 110 → s.2 x i = Ma x i) ∧ (∀ i, nK M ≤ i → s.2 110 i = Ma 110 i) ∧ ∀ x, x < nK M → s.2 110 x = PT x) ?_ (fun s hs => ?_)
        · unfold f_X11_make_l101
          refine ok_whl (nK M) (fun c s => s.1 = (c : Int) ∧ (∀ x i, x ≠ 110 → s.2 x i = Ma x i) ∧ (∀ i, nK M ≤ i → s.2 110 i = Ma 110 i) ∧ ∀ x, x < c → s.2 110 x = PT x) (FU_big (by omega)) ⟨rfl, fun _ _ _ => rfl, fun _ _ => rfl, fun x hx => absurd hx (by omega)⟩ ?_
          rintro c ⟨u, N⟩ hc ⟨hu, hf, hf2, hp⟩
          dsimp only at hu hf hf2 hp ⊢
          subst hu
          unfold f_X11_make_s101
          have e1 : N 80 1 = (nK M : Int) := by rw [hf 80 1 (by omega)]; exact La.1.n
          rw [e1, toN, wrap_n1 (by omega)]
          refine ok_ite (fun h => ?_) (fun h => ?_)
          · have e : c = nK M := by omega
            subst e; exact ok_some ⟨hf, hf2, hp⟩
          have e108 : N 108 c = PT c := by rw [hf 108 c (by omega)]; exact pa c (by omega)
          rw [e108]
          obtain ⟨N2, e6, f6, v6⟩ := mup_gen N 110 c (PT c)
          refine ok_gd (by omega) (ok_gd (by omega) (ok_lt (ok_lt ?_)))
          rw [e6]
          refine ok_some ⟨by omega, rfl, fun x i q => by show N2 x i = _; rw [f6 x i (by omega)]; exact hf x i q, fun i hi => by show N2 110 i = _; rw [f6 110 i (by omega)]; exact hf2 i hi, fun x hx => ?_⟩
          show N2 110 x = _
          by_cases e : x = c
          · rw [e, v6]
          · rw [f6 110 x (by omega)]; exact hp x (by omega)
        obtain ⟨u, Mb⟩ := s
        obtain ⟨fb, fb', pb⟩ := hs
        dsimp only at fb fb' pb ⊢
        have Xb : MPl M (M 80 14) PT Mb Mb := ⟨La.fr (fun x i q => fb x i (by unfold isFa at q; omega)), fun _ _ _ => rfl, fun x hx => by rw [fb 108 x (by omega)]; exact pa x hx⟩
        obtain ⟨eg, pbb⟩ := Xb.pl hVT.pb
        have eL : lackS M (M 80 14) (planOf Mb) = lackGG M (M 80 14) (GP M (planOf Mb)) := lack_pg
        have eH := harm_pg (known := M 80 14) I.1 pbb
        rw [eg] at eL eH
        -- all that has changed
        have frb : ∀ x i, ¬ (106 ≤ x ∧ x ≤ 108) → ¬ (x = 80 ∧ (i = 0 ∨ i = 48)) → x ≠ 110 → Mb x i = M6 x i := fun x i q1 q2 q3 => by
          rw [fb x i q3, fa x i (by omega) (by omega), f9 x i (by omega), X8.2.1 x i (by omega), f7 x i q1 (by omega)]
        have far110 : ∀ i, nK M ≤ i → Mb 110 i = M 110 i := fun i hi => by
          rw [fb' i hi, fa 110 i (by omega) (by omega), f9 110 i (by omega), X8.2.1 110 i (by omega), f7 110 i (by omega) (by omega)]
          exact fr6 110 i (by omega) (by omega) (by omega) (by omega) (by omega) (by omega)
        have I2 : Inv Mb := by
          refine up_make I (fun x i q => ?_) ?_ (fun c hc => ?_) (fun c => ?_)
          · rw [frb x i (by omega) (by omega) (by omega)]
            exact fr6 x i (by omega) (by omega) (by omega) (by omega) (by omega) (by omega)
          · unfold A6
            rw [frb 0 15 (by omega) (by omega) (by omega), e15, fb 80 48 (by omega)]
            exact ta.symm
          · have k1 : Mb 80 1 = M 80 1 := by rw [frb 80 1 (by omega) (by omega) (by omega)]; exact fr6 80 1 (by omega) (by omega) (by omega) (by omega) (by omega) (by omega)
            have k12 : Mb 80 12 = M 80 12 := by rw [frb 80 12 (by omega) (by omega) (by omega)]; exact fr6 80 12 (by omega) (by omega) (by omega) (by omega) (by omega) (by omega)
            rw [k1, k12]
            by_cases hcn : c < nK M
            · rw [pb c hcn]
              have := hVT c hcn
              exact ⟨by omega, fun z => by omega⟩
            · rw [far110 c (by omega)]
              exact I.2.1.ls c hc
          · rw [frb 1 c (by omega) (by omega) (by omega)]
            by_cases hcn : c < nK M
            · rw [pb c hcn, p6 c hcn]
            · rw [far110 c (by omega), far1 c (by omega)]
              exact I.l1 c
        unfold f_X11_make_j127
        refine ok_e (m_lack Xb.1) ?_
        rw [eL, hans]
        refine ok_ite (fun h5 => ?_) (fun h5 => ok_some ⟨by rw [if_neg (by omega)], I2⟩)
        refine ok_e (m_allHarm Xb.1 pbb) (ok_some ⟨?_, I2⟩)
        rw [if_pos (by omega)]
        exact eH
    unfold f_X10_make_j92
    rw [e48]
    exact ok_ite (fun h5 => ok_some (go _ (by rw [if_pos h5]; exact e486))) (fun h5 => ok_some (go _ (by rw [if_neg h5])))
end MAKE
