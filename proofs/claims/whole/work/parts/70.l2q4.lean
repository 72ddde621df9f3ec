/-! day -/
section DAY
variable {M : Mem}
theorem op_day (I : Inv M) (p : Int) : Alk (f_X10_day p M) (f_X11_day p) := by
  have h14 := I.1.n14
  have hn := I.1.n
  have hcf := I.cf.n
  have hA3 := I.1.a3
  unfold A3 at hA3
  have hA8 := I.2.1.o8
  unfold A8 at hA8
  by_cases hp : 0 ≤ p ∧ p ≤ 1000
  · by_cases hs : M 80 14 + p ≤ 100000
    · obtain ⟨n0, hn0, hn1⟩ : ∃ n0 : Nat, M 80 56 = (n0 : Int) ∧ n0 ≤ 400 := ⟨(M 80 56).toNat, by omega, by omega⟩
      let s0 : Bk := (n0, fun i => M 58 i, fun i => M 59 i, fun i => M 60 i, fun i => M 61 i)
      have hs0 : bkC M s0 := ⟨by rw [hA8.1, hn0], fun _ => rfl, fun _ => rfl, fun _ => rfl, fun _ => rfl⟩
      have hm0 : bkM M s0 := ⟨hn0, fun i => (I.2.1.e58 i).symm, fun i => (I.2.1.e59 i).symm, fun i => (I.2.1.e60 i).symm, fun i => (I.2.1.e61 i).symm⟩
      have hb0 : s0.n ≤ 400 := hn1
      -- what the class leaves in either case
      have fin : ∀ (MA : Mem) (S : Bk), S.n ≤ 400 → (∀ c i, ¬ frKC c i → MA c i = M c i) → bkC MA S → (p ≤ 0 → S = s0) → (¬ p ≤ 0 → S = bkI (fun i => M 1 i) (M 80 14) s0 (nK M)) → Okk (f_X10_day_j50 p MA) (fun q => Okk (f_X11_day p q.2) (fun q2 => q2.1 = q.1 ∧ Inv q2.2)) := by
        intro MA S hSn fA kA z0 z1
        have d0 : MA 0 13 = M 80 14 := by rw [fA 0 13 (by unfold frKC; omega)]; exact hA3.1
        obtain ⟨MB, eB, fB, vB⟩ := mup_gen MA 0 16 0
        have d1 : MB 0 13 = M 80 14 := by rw [fB 0 13 (by omega)]; exact d0
        obtain ⟨MC, eC, fC, vC⟩ := mup_gen MB 0 13 (M 80 14 + p)
        unfold f_X10_day_j50
        refine ok_lt ?_
        rw [eB, d1, wrap_of (by omega) (by omega)]
        refine ok_lt ?_
        rw [eC, vC]
        clear eB eC
        refine ok_some ?_
        try dsimp only
        have gC : ∀ c i, ¬ frKC c i → ¬ (c = 0 ∧ (i = 13 ∨ i = 16)) → MC c i = M c i := fun c i q1 q2 => by rw [fC c i (by omega), fB c i (by omega)]; exact fA c i q1
        have kC : bkC MC S := ⟨by rw [fC _ _ (by omega), fB _ _ (by omega)]; exact kA.1, fun i => by rw [fC _ _ (by omega), fB _ _ (by omega)]; exact kA.2.1 i, fun i => by rw [fC _ _ (by omega), fB _ _ (by omega)]; exact kA.2.2.1 i, fun i => by rw [fC _ _ (by omega), fB _ _ (by omega)]; exact kA.2.2.2.1 i, fun i => by rw [fC _ _ (by omega), fB _ _ (by omega)]; exact kA.2.2.2.2 i⟩
        unfold f_X11_day
        obtain ⟨M2, e2, f2⟩ := th0 MC
        refine ok_lt ?_
        rw [e2]; clear e2
        have g2 : ∀ c i, ¬ frKC c i → ¬ (c = 0 ∧ (i = 13 ∨ i = 16)) → ¬ (c = 80 ∧ i = 0) → M2 c i = M c i := fun c i q1 q2 q3 => by rw [f2 c i q3]; exact gC c i q1 q2
        refine ok_b (m_within _ _ _ _) (fun _ => ok_ite_f (by decide) ?_) (fun z => absurd hp z)
        have t14 : M2 80 14 = M 80 14 := g2 80 14 (by unfold frKC; omega) (by omega) (by omega)
        have t1 : M2 80 1 = (nK M : Int) := by rw [g2 80 1 (by unfold frKC; omega) (by omega) (by omega)]; exact hn.symm
        have hm2 : bkM M2 s0 := ⟨by rw [g2 80 56 (by unfold frKC; omega) (by omega) (by omega)]; exact hm0.1, fun i => by rw [g2 116 i (by unfold frKC; omega) (by omega) (by omega)]; exact hm0.2.1 i, fun i => by rw [g2 118 i (by unfold frKC; omega) (by omega) (by omega)]; exact hm0.2.2.1 i, fun i => by rw [g2 117 i (by unfold frKC; omega) (by omega) (by omega)]; exact hm0.2.2.2.1 i, fun i => by rw [g2 119 i (by unfold frKC; omega) (by omega) (by omega)]; exact hm0.2.2.2.2 i⟩
        have w2 : ∀ i, M2 110 i = M 1 i := fun i => by rw [g2 110 i (by unfold frKC; omega) (by omega) (by omega)]; exact (I.2.1.e1 i).symm
        rw [t14, wrap_of (by omega) (by omega)]
        refine ok_ite_t hs ?_
        refine ok_obn (P := fun q : Int × Mem => (∀ c i, ¬ frKM c i → q.2 c i = M2 c i) ∧ bkM q.2 S) ?_ (fun q hq => ?_)
        · by_cases hp0 : p ≤ 0
          · rw [z0 hp0]
            unfold f_X11_day_l32
            refine ok_whl 0 (fun _ (q : Int × Mem) => q = (0, M2)) (FU_big (by omega)) rfl ?_
            rintro k q hk rfl
            unfold f_X11_day_s32
            refine ok_ite (fun _ => ok_some ⟨fun _ _ _ => rfl, hm2⟩) (fun _ => ok_ite_t hp0 (ok_some ⟨fun _ _ _ => rfl, hm2⟩))
          · rw [z1 hp0]
            exact m_write (fun i => M 1 i) (nK M) (M 80 14) p (by omega) h14 t1 t14 w2 hm2 hb0
        obtain ⟨v, M3⟩ := q
        obtain ⟨f3, k3⟩ := hq
        dsimp only at f3 k3 ⊢
        unfold f_X11_day_j138
        have u14 : M3 80 14 = M 80 14 := by rw [f3 80 14 (by unfold frKM; omega)]; exact t14
        obtain ⟨M4, e4, f4, v4⟩ := mup_gen M3 80 14 (M 80 14 + p)
        rw [u14, wrap_of (by omega) (by omega)]
        refine ok_lt ?_
        rw [e4, v4]; clear e4
        refine ok_some ⟨rfl, ?_⟩
        have k4 : bkM M4 S := ⟨by rw [f4 _ _ (by omega)]; exact k3.1, fun i => by rw [f4 _ _ (by omega)]; exact k3.2.1 i, fun i => by rw [f4 _ _ (by omega)]; exact k3.2.2.1 i, fun i => by rw [f4 _ _ (by omega)]; exact k3.2.2.2.1 i, fun i => by rw [f4 _ _ (by omega)]; exact k3.2.2.2.2 i⟩
        have r4 : ∀ c i, ¬ frKM c i → ¬ (c = 80 ∧ (i = 0 ∨ i = 14)) → M4 c i = MC c i := fun c i q1 q2 => by rw [f4 c i (by omega), f3 c i q1, f2 c i (by omega)]
        have c4 : bkC M4 S := ⟨by rw [r4 57 0 (by unfold frKM; omega) (by omega)]; exact kC.1, fun i => by rw [r4 58 i (by unfold frKM; omega) (by omega)]; exact kC.2.1 i, fun i => by rw [r4 59 i (by unfold frKM; omega) (by omega)]; exact kC.2.2.1 i, fun i => by rw [r4 60 i (by unfold frKM; omega) (by omega)]; exact kC.2.2.2.1 i, fun i => by rw [r4 61 i (by unfold frKM; omega) (by omega)]; exact kC.2.2.2.2 i⟩
        show Inv M4
        refine up_day (v := M 80 14 + p) ⟨by omega, hs⟩ I (fun c i q => ?_) ?_ v4 ?_ ?_ (fun i => ?_) (fun i => ?_) (fun i => ?_) (fun i => ?_)
        · rw [r4 c i (by unfold frKM; omega) (by omega)]
          exact gC c i (by unfold frKC; omega) (by omega)
        · rw [r4 0 13 (by unfold frKM; omega) (by omega)]; exact vC
        · rw [r4 0 16 (by unfold frKM; omega) (by omega), fC 0 16 (by omega)]; exact vB
        · unfold A8
          rw [c4.1, k4.1]
          omega
        · rw [c4.2.1 i, k4.2.1 i]
        · rw [c4.2.2.1 i, k4.2.2.1 i]
        · rw [c4.2.2.2.1 i, k4.2.2.2.1 i]
        · rw [c4.2.2.2.2 i, k4.2.2.2.2 i]
      unfold Alk f_X10_day
      refine ok_b (c_within _ _ _ _) (fun _ => ok_ite_f (by decide) ?_) (fun z => absurd hp z)
      rw [hA3.1, wrap_of (by omega) (by omega)]
      refine ok_ite_t hs (ok_ite (fun hp0 => ?_) (fun hp0 => ?_))
      · have := fin M s0 hb0 (fun _ _ _ => rfl) hs0 (fun _ => rfl) (fun z => absurd hp0 z)
        unfold f_X10_day_j50 at this
        exact this
      · rw [hcf]
        refine ok_obn (c_write (fun i => M 1 i) (nK M) (M 80 14) h14 (fun _ => rfl) hs0 hb0) (fun MA hMA => ?_)
        exact fin MA _ (bkI_n hb0 _) hMA.1 hMA.2 (fun z => absurd z hp0) (fun _ => rfl)
    · refine alk_ro (ans := -1) I ?_ (fun M1 h1 => ?_)
      · unfold f_X10_day
        refine ok_b (c_within _ _ _ _) (fun _ => ok_ite_f (by decide) ?_) (fun z => absurd hp z)
        rw [hA3.1, wrap_of (by omega) (by omega)]
        exact ok_ite_f hs (ok_some ⟨lvC.rf M, rfl⟩)
      · unfold f_X11_day
        obtain ⟨M2, e2, H2, f2, l2, g2⟩ := m_start I h1
        refine ok_lt ?_
        rw [e2]
        refine ok_b (m_within _ _ _ _) (fun _ => ok_ite_f (by decide) ?_) (fun z => absurd hp z)
        rw [g2 80 14 (by omega) (by omega), wrap_of (by omega) (by omega)]
        exact ok_ite_f hs (ok_some ⟨l2, rfl⟩)
  · refine alk_ro (ans := -1) I ?_ (fun M1 h1 => ?_)
    · unfold f_X10_day
      exact ok_b (c_within _ _ _ _) (fun z => absurd z hp) (fun z => ok_ite_t rfl (ok_some ⟨lvC.rf M, rfl⟩))
    · unfold f_X11_day
      obtain ⟨M2, e2, H2, f2, l2, g2⟩ := m_start I h1
      refine ok_lt ?_
      rw [e2]
      exact ok_b (m_within _ _ _ _) (fun z => absurd z hp) (fun z => ok_ite_t rfl (ok_some ⟨l2, rfl⟩))
end DAY
