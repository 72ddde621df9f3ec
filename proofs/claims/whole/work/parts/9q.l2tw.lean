/-! rule: both parsers in step: a STATEMENT whole, all of them -/
section STMT
variable {b : Nat → Int} {L T r : Nat} {M N : Mem}
def frS (r s : Nat) (M M' : Mem) : Prop := ∀ c i, ¬ (c = 29 ∧ 4 ≤ i ∧ i ≤ 7) → ¬ (c = r ∧ i = 0) → ¬ (r + 1 ≤ c ∧ c ≤ r + 3 ∧ i = s) → ¬ (c = r + 4 ∧ (i = 2 * s ∨ i = 2 * s + 1)) → ¬ (r + 5 ≤ c ∧ c ≤ r + 8 ∧ 8 * s ≤ i ∧ i < 8 * s + 8) → M' c i = M c i
def frW (s : Nat) (N N' : Mem) : Prop := ∀ c i, ¬ isMx c i → ¬ (c = 80 ∧ i = 22) → ¬ (97 ≤ c ∧ c ≤ 99 ∧ i = 16 + s) → ¬ (c = 100 ∧ (i = 32 + 2 * s ∨ i = 33 + 2 * s)) → ¬ (101 ≤ c ∧ c ≤ 104 ∧ 128 + 8 * s ≤ i ∧ i < 136 + 8 * s) → N' c i = N c i
/-- a STATEMENT is the same on both sides -/
def stQ (r s : Nat) (M N : Mem) : Prop := 0 ≤ N 97 (16 + s) ∧ N 97 (16 + s) ≤ 8 ∧ M (r + 1) s = N 97 (16 + s) + 8 ∧ bdy r s (N 97 (16 + s)) M N
theorem lk_stmt {f s : Nat} (X : PCr b L T r f M) (Y : PNr b L f N) (h22 : N 80 22 = (s : Int)) (hs : s ≤ 16) (h4 : s < 16 → M (r + 4) (2 * s) = 0 ∧ M (r + 4) (2 * s + 1) = 0) :
    Okk (f_X6_readStatement s M) (fun a => Okk (f_X11_statement N) (fun c => FL r M N a c ∨ (a.1 = 1 ∧ c.1 = 1 ∧ s < 16 ∧ ∃ f', PCr b L T r f' a.2 ∧ PNr b L f' c.2 ∧ c.2 80 22 = ((s + 1 : Nat) : Int) ∧ a.2 r 0 = ((s + 1 : Nat) : Int) ∧ frS r s M a.2 ∧ frW s N c.2 ∧ stQ r s a.2 c.2))) := by
  have hr := X.1
  unfold f_X6_readStatement f_X11_statement
  rw [X.cd]
  refine ok_sw (ok_bnd (m_sortHere Y.1 Y.2.1) (fun r2 N2 hr2 => ?_))
  obtain ⟨hN2, hr2⟩ := hr2
  dsimp only at hN2 hr2 ⊢
  subst hN2
  by_cases hk : 8 ≤ cdE b L f ∧ cdE b L f ≤ 16
  · have er : r2 = cdE b L f - 8 := by omega
    rw [h22]
    refine ok_ite_f (by omega) ?_
    by_cases h16 : s < 16
    · obtain ⟨hz1, hz2⟩ := h4 h16
      have ev : wrap (16 + (s : Int)) = ((16 + s : Nat) : Int) := by rw [wrap_of (by omega) (by omega)]; omega
      rw [ev]
      refine ok_ite_f (by omega) (ok_lt ?_)
      rw [r2v s h16, toN, toN]
      have ev1 : wrap (((32 + 2 * s : Nat) : Int) + 1) = ((33 + 2 * s : Nat) : Int) := by rw [wrap_of (by omega) (by omega)]; omega
      rw [ev1, toN]
      obtain ⟨N3, e3, k3, w3⟩ := mup_gen N2 97 (16 + s) r2
      refine ok_gd (by omega) (ok_lt ?_)
      rw [e3]
      obtain ⟨N4, e4, k4, w4⟩ := mup_gen N3 98 (16 + s) 0
      refine ok_gd (by omega) (ok_lt ?_)
      rw [e4]
      obtain ⟨N5, e5, k5, w5⟩ := mup_gen N4 99 (16 + s) (-1)
      refine ok_gd (by omega) (ok_lt ?_)
      rw [e5]
      obtain ⟨N6, e6, k6, w6⟩ := mup_gen N5 100 (32 + 2 * s) (-1)
      refine ok_gd (by omega) (ok_lt ?_)
      rw [e6]
      obtain ⟨N7, e7, k7, w7⟩ := mup_gen N6 100 (33 + 2 * s) (-1)
      refine ok_gd (by omega) (ok_lt ?_)
      rw [e7]
      have fr7 : ∀ c i, ¬ (97 ≤ c ∧ c ≤ 99 ∧ i = 16 + s) → ¬ (c = 100 ∧ (i = 32 + 2 * s ∨ i = 33 + 2 * s)) → N7 c i = N2 c i := fun c i q1 q2 => by rw [k7 c i (by omega), k6 c i (by omega), k5 c i (by omega), k4 c i (by omega), k3 c i (by omega)]
      have Y7 : PNr b L f N7 := Y.up (fun c i q => fr7 c i (by omega) (by omega))
      refine ok_obn (m_nx2 Y7) (fun N8 hN8 => ok_sw ?_)
      obtain ⟨s8, Y8⟩ := hN8
      refine ok_lt (ok_b (c_within _ _ _ _) (fun _ => ok_ite_f (by decide) (ok_ite_t (by omega) ?_)) (fun z => absurd hk z))
      rw [X.rn, toN]
      obtain ⟨M2, g2, f2, v2⟩ := mup_gen M (r + 1) s (cdE b L f)
      refine ok_gd X.ru (ok_gd (by omega) (ok_lt ?_))
      rw [g2]
      have X2 : PCr b L T r f M2 := X.up (fun c i q => f2 c i (by omega))
      rw [X2.rn, wrap_n1 (by omega)]
      obtain ⟨M3, g3, f3, v3⟩ := mup_gen M2 r 0 ((s + 1 : Nat) : Int)
      refine ok_gd X2.ru (ok_lt ?_)
      rw [g3]
      have X3 : PCr b L T r f M3 := X2.up (fun c i q => f3 c i (by omega))
      refine ok_obn (c_nx X3) (fun M4 hM4 => ?_)
      obtain ⟨s4, X4⟩ := hM4
      have n4 : noTm r s M4 N8 := by
        refine ⟨?_, ?_, ?_, ?_⟩
        · rw [s4 _ _ (by omega), f3 _ _ (by omega), f2 _ _ (by omega)]; exact hz1
        · rw [s4 _ _ (by omega), f3 _ _ (by omega), f2 _ _ (by omega)]; exact hz2
        · rw [s8 _ _ (by unfold isMx; omega), k7 _ _ (by omega)]; exact w6
        · rw [s8 _ _ (by unfold isMx; omega)]; exact w7
      have lb := lk_body (k := r2) X4 Y8 h16 n4 (by omega)
      rw [show r2 + 8 = cdE b L f by omega] at lb
      have bM : BC r M M4 := fun c i q1 q2 => by rw [s4 c i (by omega), f3 c i (by omega), f2 c i (by omega)]
      have bN : BN N2 N8 := fun c i q1 q2 q3 q4 => by rw [s8 c i (by unfold isMx; omega)]; exact fr7 c i (by omega) (by omega)
      refine ok_2 lb (fun a c h => ?_)
      rcases h with h | ⟨g1, g2', f', X5, Y5, s5, t5, d5⟩
      · have h' : FL r M N2 a c := h.tr bM bN
        exact ok_ite_t h.1 (ok_some (ok_ite_t h.2.1 (ok_some (Or.inl ⟨rfl, rfl, h'.2.2⟩))))
      have bM5 : BC r M a.2 := fun c i q1 q2 => by rw [s5 c i (by omega) (by omega) (by omega) (by omega)]; exact bM c i q1 q2
      have bN5 : BN N2 c.2 := fun c i q1 q2 q3 q4 => by rw [t5 c i (by unfold isMx; omega) (by omega) (by omega) (by omega)]; exact bN c i q1 q2 q3 q4
      refine ok_ite_f (by omega) (ok_sw (ok_ite_f (by omega) (ok_sw ?_)))
      refine ok_2 (lk_sign X5 Y5 sg59) (fun a2 c2 h => ?_)
      rcases h with h | ⟨h1, h2, X6, Y6, s6, t6⟩
      · have h' : FL r M N2 a2 c2 := h.tr bM5 bN5
        exact ok_ite_t h.1 (ok_some (ok_ite_t h.2.1 (ok_some (Or.inl ⟨rfl, rfl, h'.2.2⟩))))
      have e22 : c2.2 80 22 = (s : Int) := by
        rw [t6 _ _ (by unfold isMx; omega), t5 _ _ (by unfold isMx; omega) (by omega) (by omega) (by omega), s8 _ _ (by unfold isMx; omega), fr7 _ _ (by omega) (by omega)]; exact h22
      rw [e22, wrap_n1 (by omega)]
      obtain ⟨N9, e9, k9, w9⟩ := mup_gen c2.2 80 22 ((s + 1 : Nat) : Int)
      refine ok_ite_f (by omega) (ok_some (ok_ite_f (by omega) (ok_lt ?_)))
      rw [e9]
      have v97 : c2.2 97 (16 + s) = r2 := by
        rw [t6 _ _ (by unfold isMx; omega), t5 _ _ (by unfold isMx; omega) (by omega) (by omega) (by omega), s8 _ _ (by unfold isMx; omega), k7 _ _ (by omega), k6 _ _ (by omega), k5 _ _ (by omega), k4 _ _ (by omega)]; exact w3
      have v97' : N9 97 (16 + s) = r2 := by rw [k9 _ _ (by omega)]; exact v97
      refine ok_some (Or.inr ⟨rfl, rfl, h16, _, X6, Y6.up (fun c i q => ?_), w9, ?_, fun c i q1 q2 q3 q4 q5 => ?_, fun c i q1 q2 q3 q4 q5 => ?_, ?_⟩)
      · by_cases z : c = 80 ∧ i = 22
        · omega
        · exact k9 c i z
      · show a2.2 r 0 = _
        rw [s6 _ _ (by omega), s5 _ _ (by omega) (by omega) (by omega) (by omega), s4 _ _ (by omega)]; exact v3
      · show a2.2 c i = _
        rw [s6 c i q1, s5 c i q1 (by omega) q4 q5, s4 c i q1, f3 c i q2, f2 c i (by omega)]
      · show N9 c i = _
        rw [k9 c i q2, t6 c i q1, t5 c i q1 (by omega) q4 q5, s8 c i q1, fr7 c i q3 q4]
      · show stQ r s a2.2 N9
        unfold stQ
        rw [v97']
        refine ⟨by omega, by omega, ?_, ?_⟩
        · rw [s6 _ _ (by omega), s5 _ _ (by omega) (by omega) (by omega) (by omega), s4 _ _ (by omega), f3 _ _ (by omega), v2]; omega
        · obtain ⟨y1, y2, y3, y4⟩ := d5
          refine ⟨fun z1 z2 => ?_, fun z => ?_, fun z => ?_, fun w hw => ⟨fun z => ((y4 w hw).1 z).fr (fun c i q => s6 c i (by omega)) (fun c i q => by rw [k9 c i (by omega), t6 c i (by unfold isMx; omega)]), fun z => ?_⟩⟩
          · rw [k9 _ _ (by omega), t6 _ _ (by unfold isMx; omega), s6 _ _ (by omega)]; exact y1 z1 z2
          · rw [k9 _ _ (by omega), t6 _ _ (by unfold isMx; omega), s6 _ _ (by omega)]; exact y2 z
          · rw [k9 _ _ (by omega), t6 _ _ (by unfold isMx; omega), s6 _ _ (by omega)]; exact y3 z
          · rw [k9 _ _ (by omega), t6 _ _ (by unfold isMx; omega), s6 _ _ (by omega)]; exact (y4 w hw).2 z
    · refine ok_ite_t (by omega) (ok_bnd (m_wr Y 3) (fun q N4 hq => ok_gd (Or.inl hq.1) (ok_some ?_)))
      refine ok_lt (ok_b (c_within _ _ _ _) (fun _ => ok_ite_f (by decide) (ok_ite_f (by omega) ?_)) (fun z => absurd hk z))
      exact ok_bnd (c_ref X 3) (fun q2 M4 hq2 => ok_gd (Or.inl hq2.1) (ok_some (Or.inl (FL.mk2 (k := 3) (by omega) hq2.1 hq.1 hq2.2 hq.2 BC.rf BN.rf))))
  · refine ok_ite_t (by omega) (ok_bnd (m_wr Y 1) (fun q N4 hq => ok_gd (Or.inl hq.1) (ok_some ?_)))
    refine ok_lt (ok_b (c_within _ _ _ _) (fun z => absurd z hk) (fun _ => ok_ite_t rfl ?_))
    exact ok_bnd (c_ref X 1) (fun q2 M4 hq2 => ok_gd (Or.inl hq2.1) (ok_some (Or.inl (FL.mk2 (k := 1) (by omega) hq2.1 hq.1 hq2.2 hq.2 BC.rf BN.rf))))
/-- two loops in step -/
theorem whl_2 {S1 R1 S2 R2 : Type} {step1 : S1 → Option (S1 ⊕ R1)} {step2 : S2 → Option (S2 ⊕ R2)} {Q : R1 → R2 → Prop} (n : Nat) (I : Nat → S1 → S2 → Prop)
    (hs : ∀ k s1 s2, k ≤ n → I k s1 s2 → (∃ s1' s2', step1 s1 = some (.inl s1') ∧ step2 s2 = some (.inl s2') ∧ k < n ∧ I (k + 1) s1' s2') ∨ (∃ r1, step1 s1 = some (.inr r1) ∧ ∀ m, Okk (whl step2 (m + 2) s2) (fun r2 => Q r1 r2))) :
    ∀ j k s1 s2 N1 N2, k + j = n → j < N1 → j + 2 ≤ N2 → I k s1 s2 → Okk (whl step1 N1 s1) (fun r1 => Okk (whl step2 N2 s2) (fun r2 => Q r1 r2)) := by
  intro j
  induction j with
  | zero =>
    intro k s1 s2 N1 N2 hk h1 h2 hI
    rcases hs k s1 s2 (by omega) hI with ⟨_, _, _, _, h, _⟩ | ⟨r1, e1, e2⟩
    · omega
    · obtain ⟨m1, rfl⟩ : ∃ m, N1 = m + 1 := ⟨N1 - 1, by omega⟩
      obtain ⟨m2, rfl⟩ : ∃ m, N2 = m + 2 := ⟨N2 - 2, by omega⟩
      refine ⟨r1, ?_, e2 m2⟩
      unfold whl
      rw [e1]
  | succ j ih =>
    intro k s1 s2 N1 N2 hk h1 h2 hI
    obtain ⟨m1, rfl⟩ : ∃ m, N1 = m + 1 := ⟨N1 - 1, by omega⟩
    rcases hs k s1 s2 (by omega) hI with ⟨s1', s2', e1, e2, h, hI'⟩ | ⟨r1, e1, e2⟩
    · obtain ⟨m2, rfl⟩ : ∃ m, N2 = m + 1 := ⟨N2 - 1, by omega⟩
      obtain ⟨r1, a1, r2, a2, a3⟩ := ih (k + 1) s1' s2' m1 m2 (by omega) (by omega) (by omega) hI'
      refine ⟨r1, ?_, r2, ?_, a3⟩
      · unfold whl; rw [e1]; exact a1
      · unfold whl; rw [e2]; exact a2
    · obtain ⟨m2, rfl⟩ : ∃ m, N2 = m + 2 := ⟨N2 - 2, by omega⟩
      refine ⟨r1, ?_, e2 m2⟩
      unfold whl
      rw [e1]
theorem stQ.fr {s : Nat} {M' N' : Mem} (h : stQ r s M N) (k : ∀ c i, (r + 1 ≤ c ∧ c ≤ r + 3 ∧ i = s) ∨ (c = r + 4 ∧ (i = 2 * s ∨ i = 2 * s + 1)) ∨ (r + 5 ≤ c ∧ c ≤ r + 8 ∧ 8 * s ≤ i ∧ i < 8 * s + 8) → M' c i = M c i) (l : ∀ c i, (97 ≤ c ∧ c ≤ 99 ∧ i = 16 + s) ∨ (c = 100 ∧ (i = 32 + 2 * s ∨ i = 33 + 2 * s)) ∨ (101 ≤ c ∧ c ≤ 104 ∧ 128 + 8 * s ≤ i ∧ i < 136 + 8 * s) → N' c i = N c i) : stQ r s M' N' := by
  obtain ⟨h1, h2, h3, y1, y2, y3, y4⟩ := h
  unfold stQ
  rw [l 97 (16 + s) (by omega)]
  refine ⟨h1, h2, by rw [k _ _ (by omega)]; exact h3, fun z1 z2 => ?_, fun z => ?_, fun z => ?_, fun w hw => ⟨fun z => ((y4 w hw).1 z).fr (fun c i q => k c i (by omega)) (fun c i q => l c i (by omega)), fun z => ?_⟩⟩
  · rw [l 98 _ (by omega), k (r + 2) _ (by omega)]; exact y1 z1 z2
  · rw [l 98 _ (by omega), k (r + 3) _ (by omega)]; exact y2 z
  · rw [l 99 _ (by omega), k (r + 3) _ (by omega)]; exact y3 z
  · rw [l 100 _ (by omega), k (r + 4) _ (by omega)]; exact (y4 w hw).2 z
/-- all STATEMENTS -/
theorem lk_all {f : Nat} (X : PCr b L T r f M) (Y : PNr b L f N) (h22 : N 80 22 = 0) (h0 : M r 0 = 0) (h4 : ∀ i, i < 32 → M (r + 4) i = 0) :
    Okk (f_X6_reads_l40 (r : Int) 0 M) (fun o => Okk (f_X11_rule_l31 1 N) (fun c => (∃ q, o = .inr q ∧ q.1 = 0 ∧ q.2 29 0 = c.2 80 33 ∧ (1 ≤ q.2 29 0 ∧ q.2 29 0 ≤ 3) ∧ q.2 29 1 = c.2 80 34 ∧ BC r M q.2 ∧ BN N c.2) ∨ (∃ (q : Int × Mem) (n : Nat), o = .inl q ∧ n ≤ 16 ∧ q.2 r 0 = (n : Int) ∧ c.2 80 22 = (n : Int) ∧ c.2 80 33 = 0 ∧ BC r M q.2 ∧ BN N c.2 ∧ (∀ i, i < 4 → q.2 29 i = M 29 i) ∧ c.2 80 34 = N 80 34 ∧ ∀ s : Nat, s < n → stQ r s q.2 c.2))) := by
  have hr := X.1
  unfold f_X6_reads_l40 f_X11_rule_l31
  refine whl_2 16 (fun k s1 s2 => s1.1 = (k : Int) ∧ s2.1 ≠ 0 ∧ (∃ f', PCr b L T r f' s1.2 ∧ PNr b L f' s2.2) ∧ s2.2 80 22 = (k : Int) ∧ s1.2 r 0 = (k : Int) ∧ (∀ i, 2 * k ≤ i → i < 32 → s1.2 (r + 4) i = 0) ∧ BC r M s1.2 ∧ BN N s2.2 ∧ (∀ i, i < 4 → s1.2 29 i = M 29 i) ∧ s2.2 80 34 = N 80 34 ∧ ∀ s, s < k → stQ r s s1.2 s2.2) ?_ 16 0 (0, M) (1, N) FU FU rfl (FU_big (by omega)) (by rw [FU_eq]; omega) ⟨rfl, by show (1 : Int) ≠ 0; omega, ⟨f, X, Y⟩, h22, h0, fun i _ hi => h4 i hi, BC.rf, BN.rf, fun _ _ => rfl, rfl, fun s hs => absurd hs (by omega)⟩
  rintro k ⟨u, M1⟩ ⟨v, N1⟩ hk ⟨hu, hv, ⟨f', X1, Y1⟩, h22', hr0, hz, hBC, hBN, h29, h34, hst⟩
  dsimp only at hu hv X1 Y1 h22' hr0 hz hBC hBN h29 h34 hst ⊢
  subst hu
  have tk := Y1.2.1.2.2.2.1
  by_cases hend : cdE b L f' = -1
  · refine Or.inr ⟨.inl ((k : Int), M1), ?_, fun m => ?_⟩
    · unfold f_X6_reads_s40
      rw [if_neg (by omega), X1.cd, if_pos hend]
    · refine ⟨(v, N1), ?_, Or.inr ⟨_, k, rfl, hk, hr0, h22', Y1.2.2, hBC, hBN, h29, h34, hst⟩⟩
      have e2 : f_X11_rule_s31 v N1 = some (.inr (v, N1)) := by
        unfold f_X11_rule_s31
        rw [if_neg hv, tk, if_pos ((tk0 f').mpr hend)]
      unfold whl
      dsimp only
      rw [e2]
  · obtain ⟨a, ea, c, ec, h⟩ := lk_stmt X1 Y1 h22' hk (fun h16 => ⟨hz _ (by omega) (by omega), hz _ (by omega) (by omega)⟩)
    have e1 : f_X6_reads_s40 (r : Int) (k : Int) M1 = (if a.1 = 0 then some (.inr (.inr (0, a.2))) else some (.inl (((k + 1 : Nat) : Int), a.2))) := by
      unfold f_X6_reads_s40
      rw [if_neg (by omega), X1.cd, if_neg hend, ea]
      show (if a.1 = 0 then _ else lt (wrap ((k : Int) + 1)) _) = _
      rw [wrap_n1 (by omega)]
      rfl
    have e2 : f_X11_rule_s31 v N1 = some (.inl c) := by
      unfold f_X11_rule_s31
      rw [if_neg hv, tk, if_neg (fun z => hend ((tk0 f').mp z)), ec]
      rfl
    rcases h with h | ⟨g1, g2, g16, f2, X2, Y2, k22, kr, s2, t2, d2⟩
    · refine Or.inr ⟨.inr (0, a.2), by rw [e1, if_pos h.1], fun m => ?_⟩
      refine ⟨c, ?_, Or.inl ⟨_, rfl, rfl, h.2.2.1, h.2.2.2.1, h.2.2.2.2.1, fun x i q1 q2 => by show a.2 x i = _; rw [h.2.2.2.2.2.1 x i q1 q2]; exact hBC x i q1 q2, fun x i q1 q2 q3 q4 => by rw [h.2.2.2.2.2.2 x i q1 q2 q3 q4]; exact hBN x i q1 q2 q3 q4⟩⟩
      have e3 : f_X11_rule_s31 c.1 c.2 = some (.inr (c.1, c.2)) := by
        unfold f_X11_rule_s31
        rw [if_pos h.2.1]
      unfold whl
      dsimp only
      rw [e2]
      try dsimp only
      unfold whl
      try dsimp only
      rw [e3]
    · refine Or.inl ⟨(((k + 1 : Nat) : Int), a.2), c, by rw [e1, if_neg (by omega)], e2, g16, rfl, by omega, ⟨f2, X2, Y2⟩, k22, kr, fun i i1 i2 => ?_, fun x i q1 q2 => ?_, fun x i q1 q2 q3 q4 => ?_, fun i hi => ?_, ?_, fun s hs => ?_⟩
      · show a.2 (r + 4) i = 0
        rw [s2 _ _ (by omega) (by omega) (by omega) (by omega) (by omega)]; exact hz i (by omega) i2
      · show a.2 x i = _
        rw [s2 x i (by omega) (by omega) (by omega) (by omega) (by omega)]; exact hBC x i q1 q2
      · rw [t2 x i (by unfold isMx; omega) (by omega) (by omega) (by omega) (by omega)]; exact hBN x i q1 q2 q3 q4
      · show a.2 29 i = _
        rw [s2 29 i (by omega) (by omega) (by omega) (by omega) (by omega)]; exact h29 i hi
      · rw [t2 80 34 (by unfold isMx; omega) (by omega) (by omega) (by omega) (by omega)]; exact h34
      · by_cases e : s = k
        · rw [e]; exact d2
        · exact (hst s (by omega)).fr (fun x i q => s2 x i (by omega) (by omega) (by omega) (by omega) (by omega)) (fun x i q => t2 x i (by unfold isMx; omega) (by omega) (by omega) (by omega) (by omega))
end STMT
