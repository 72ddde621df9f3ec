/-! calls that tell facts: child, mark, wish, room, helper, end, word -/
section TELL
variable {M : Mem}
theorem nat_le {x : Int} {lo n : Nat} (h : (lo : Int) ≤ x ∧ x ≤ (n : Int)) : ∃ k : Nat, x = (k : Int) ∧ lo ≤ k ∧ k ≤ n := ⟨x.toNat, by omega, by omega, by omega⟩
theorem op_child (I : Inv M) (s m t : Int) : Alk (f_X10_child s m t M) (f_X11_child s m t) := by
  have h14 := I.1.n14
  have hn := I.1.n
  by_cases hs : 0 ≤ s ∧ s ≤ 1
  by_cases hm : 1 ≤ m ∧ m ≤ 12
  by_cases ht : 0 ≤ t ∧ t ≤ 255
  · obtain ⟨s, rfl, -, hs2⟩ := nat_le (lo := 0) (n := 1) hs
    obtain ⟨m, rfl, hm1, hm2⟩ := nat_le (lo := 1) (n := 12) hm
    obtain ⟨t, rfl, -, ht2⟩ := nat_le (lo := 0) (n := 255) ht
    unfold Alk f_X10_child
    refine ok_b (c_within _ _ _ _) (fun _ => ok_ite_f (by decide) ?_) (fun z => absurd hs z)
    refine ok_b (c_within _ _ _ _) (fun _ => ok_ite_f (by decide) ?_) (fun z => absurd hm z)
    refine ok_b (c_within _ _ _ _) (fun _ => ok_ite_f (by decide) ?_) (fun z => absurd ht z)
    refine ok_lt ?_
    obtain ⟨M1, e1, f1, v1⟩ := mup_gen M 0 16 0
    rw [e1]; clear e1
    have n1 : M1 3 0 = (nK M : Int) := by rw [f1 3 0 (by omega)]; exact I.cf.n
    have td1 : M1 0 13 = M 80 14 := by rw [f1 0 13 (by omega)]; exact I.1.a3.1
    unfold f_X1_admit
    rw [n1, td1, toN]
    by_cases hfull : nK M < 14
    · refine ok_bnd (P := fun q => q.1 = (nK M : Int) ∧ (∀ c i, ¬ ((c = 3 ∧ i = 0) ∨ (i = nK M ∧ 4 ≤ c ∧ c ≤ 7)) → q.2 c i = M1 c i) ∧ q.2 3 0 = ((nK M + 1 : Nat) : Int) ∧ q.2 4 (nK M) = (s : Int) ∧ q.2 5 (nK M) = (m : Int) ∧ q.2 6 (nK M) = (t : Int) ∧ q.2 7 (nK M) = M 80 14) ?_ (fun r M2 hM2 => ok_some ?_)
      · refine ok_ite_t (by omega) (ok_gd (by omega) (ok_lt ?_))
        obtain ⟨M2, e2, f2, v2⟩ := mup_gen M1 4 (nK M) (s : Int)
        rw [e2]; clear e2
        have n2 : M2 3 0 = (nK M : Int) := by rw [f2 3 0 (by omega)]; exact n1
        rw [n2, toN]
        refine ok_gd (by omega) (ok_lt ?_)
        obtain ⟨M3, e3, f3, v3⟩ := mup_gen M2 5 (nK M) (m : Int)
        rw [e3]; clear e3
        have n3 : M3 3 0 = (nK M : Int) := by rw [f3 3 0 (by omega)]; exact n2
        rw [n3, toN]
        refine ok_gd (by omega) (ok_lt ?_)
        obtain ⟨M4, e4, f4, v4⟩ := mup_gen M3 6 (nK M) (t : Int)
        rw [e4]; clear e4
        have n4 : M4 3 0 = (nK M : Int) := by rw [f4 3 0 (by omega)]; exact n3
        rw [n4, toN]
        refine ok_gd (by omega) (ok_lt ?_)
        obtain ⟨M5, e5, f5, v5⟩ := mup_gen M4 7 (nK M) (M 80 14)
        rw [e5]; clear e5
        have n5 : M5 3 0 = (nK M : Int) := by rw [f5 3 0 (by omega)]; exact n4
        rw [n5, wrap_n1 (by omega)]
        refine ok_lt ?_
        obtain ⟨M6, e6, f6, v6⟩ := mup_gen M5 3 0 ((nK M + 1 : Nat) : Int)
        rw [e6]; clear e6
        rw [v6, wrap_of (by omega) (by omega)]
        refine ok_some ⟨by show ((nK M + 1 : Nat) : Int) - 1 = _; omega, fun c i q => ?_, v6, ?_, ?_, ?_, ?_⟩
        · try dsimp only
          rw [f6 c i (by omega), f5 c i (by omega), f4 c i (by omega), f3 c i (by omega), f2 c i (by omega)]
        · try dsimp only
          rw [f6 _ _ (by omega), f5 _ _ (by omega), f4 _ _ (by omega), f3 _ _ (by omega)]; exact v2
        · try dsimp only
          rw [f6 _ _ (by omega), f5 _ _ (by omega), f4 _ _ (by omega)]; exact v3
        · try dsimp only
          rw [f6 _ _ (by omega), f5 _ _ (by omega)]; exact v4
        · try dsimp only
          rw [f6 _ _ (by omega)]; exact v5
      · obtain ⟨hr, f2, w3, w4, w5, w6, w7⟩ := hM2
        dsimp only at hr f2 w3 w4 w5 w6 w7 ⊢
        subst hr
        have fr2 : ∀ c i, 80 ≤ c → M2 c i = M c i := fun c i q => by rw [f2 c i (by omega), f1 c i (by omega)]
        unfold f_X11_child
        obtain ⟨N2, e2, g2⟩ := th0 M2
        refine ok_lt ?_
        rw [e2]
        refine ok_b (m_within _ _ _ _) (fun _ => ok_ite_f (by decide) ?_) (fun z => absurd hs z)
        refine ok_b (m_within _ _ _ _) (fun _ => ok_ite_f (by decide) ?_) (fun z => absurd hm z)
        refine ok_b (m_within _ _ _ _) (fun _ => ok_ite_f (by decide) ?_) (fun z => absurd ht z)
        have k2 : N2 80 1 = (nK M : Int) := by rw [g2 80 1 (by omega), fr2 80 1 (by omega)]; exact hn.symm
        rw [k2, toN]
        refine ok_ite_f (by omega) (ok_gd (by omega) (ok_lt ?_))
        obtain ⟨N3, e3, g3, x3⟩ := mup_gen N2 81 (nK M) (s : Int)
        rw [e3]; clear e3
        have k3 : N3 80 1 = (nK M : Int) := by rw [g3 80 1 (by omega)]; exact k2
        rw [k3, toN]
        refine ok_gd (by omega) (ok_lt ?_)
        obtain ⟨N4, e4, g4, x4⟩ := mup_gen N3 82 (nK M) (m : Int)
        rw [e4]; clear e4
        have k4 : N4 80 1 = (nK M : Int) := by rw [g4 80 1 (by omega)]; exact k3
        rw [k4, toN]
        refine ok_gd (by omega) (ok_lt ?_)
        obtain ⟨N5, e5, g5, x5⟩ := mup_gen N4 83 (nK M) (t : Int)
        rw [e5]; clear e5
        have k5 : N5 80 1 = (nK M : Int) := by rw [g5 80 1 (by omega)]; exact k4
        have d5 : N5 80 14 = M 80 14 := by rw [g5 80 14 (by omega), g4 80 14 (by omega), g3 80 14 (by omega), g2 80 14 (by omega), fr2 80 14 (by omega)]
        rw [k5, d5, toN]
        refine ok_gd (by omega) (ok_lt ?_)
        obtain ⟨N6, e6, g6, x6⟩ := mup_gen N5 84 (nK M) (M 80 14)
        rw [e6]; clear e6
        refine ok_lt ?_
        obtain ⟨N7, e7, g7, x7⟩ := mup_gen N6 80 43 0
        rw [e7]; clear e7
        have k7 : N7 80 1 = (nK M : Int) := by rw [g7 80 1 (by omega), g6 80 1 (by omega)]; exact k5
        rw [k7, wrap_n1 (by omega)]
        refine ok_lt ?_
        obtain ⟨N8, e8, g8, x8⟩ := mup_gen N7 80 1 ((nK M + 1 : Nat) : Int)
        rw [e8]; clear e8
        rw [x8, wrap_of (by omega) (by omega)]
        refine ok_some ⟨by show ((nK M + 1 : Nat) : Int) - 1 = _; omega, ?_⟩
        show Inv N8
        refine up_child (n := nK M) (s := s) (mo := m) (tg := t) hn.symm hfull hs2 ⟨hm1, hm2⟩ ht2 I (fun c i q => ?_) ?_ x8 ?_ ?_ ?_ ?_ ?_ ?_ ?_ ?_ ?_ ?_
        · rw [g8 c i (by omega), g7 c i (by omega), g6 c i (by omega), g5 c i (by omega), g4 c i (by omega), g3 c i (by omega), g2 c i (by omega), f2 c i (by omega), f1 c i (by omega)]
        · rw [g8 _ _ (by omega), g7 _ _ (by omega), g6 _ _ (by omega), g5 _ _ (by omega), g4 _ _ (by omega), g3 _ _ (by omega), g2 _ _ (by omega)]; exact w3
        · rw [g8 _ _ (by omega), g7 _ _ (by omega), g6 _ _ (by omega), g5 _ _ (by omega), g4 _ _ (by omega), g3 _ _ (by omega), g2 _ _ (by omega)]; exact w4
        · rw [g8 _ _ (by omega), g7 _ _ (by omega), g6 _ _ (by omega), g5 _ _ (by omega), g4 _ _ (by omega)]; exact x3
        · rw [g8 _ _ (by omega), g7 _ _ (by omega), g6 _ _ (by omega), g5 _ _ (by omega), g4 _ _ (by omega), g3 _ _ (by omega), g2 _ _ (by omega)]; exact w5
        · rw [g8 _ _ (by omega), g7 _ _ (by omega), g6 _ _ (by omega), g5 _ _ (by omega)]; exact x4
        · rw [g8 _ _ (by omega), g7 _ _ (by omega), g6 _ _ (by omega), g5 _ _ (by omega), g4 _ _ (by omega), g3 _ _ (by omega), g2 _ _ (by omega)]; exact w6
        · rw [g8 _ _ (by omega), g7 _ _ (by omega), g6 _ _ (by omega)]; exact x5
        · rw [g8 _ _ (by omega), g7 _ _ (by omega), g6 _ _ (by omega), g5 _ _ (by omega), g4 _ _ (by omega), g3 _ _ (by omega), g2 _ _ (by omega)]; exact w7
        · rw [g8 _ _ (by omega), g7 _ _ (by omega)]; exact x6
        · rw [g8 _ _ (by omega), g7 _ _ (by omega), g6 _ _ (by omega), g5 _ _ (by omega), g4 _ _ (by omega), g3 _ _ (by omega), g2 _ _ (by omega), f2 _ _ (by omega)]; exact v1
        · rw [g8 _ _ (by omega)]; exact x7
    · refine ok_bnd (P := fun q => q = (-1, M1)) (ok_ite_f (by omega) (ok_some rfl)) (fun r M2 hM2 => ok_some ?_)
      cases hM2
      have I1 : Inv M1 := by
        have ff : ∀ c i, isFa c i → M1 c i = M c i := fun c i q => f1 c i (by unfold isFa at q; omega)
        exact ⟨I.1.congr ff, I.2.1.congr (fun c i q => f1 c i (by unfold isO at q; omega)), Or.inl v1, I.2.2.2.congr I.1 (I.1.congr ff) (fa_fe ff) (by rw [ff 80 14 (by unfold isFa; omega)]; exact Int.le_refl _) (fun c i q => f1 c i (by unfold isX2 at q; omega))⟩
      unfold f_X11_child
      obtain ⟨N2, e2, g2⟩ := th0 M1
      refine ok_lt ?_
      rw [e2]
      refine ok_b (m_within _ _ _ _) (fun _ => ok_ite_f (by decide) ?_) (fun z => absurd hs z)
      refine ok_b (m_within _ _ _ _) (fun _ => ok_ite_f (by decide) ?_) (fun z => absurd hm z)
      refine ok_b (m_within _ _ _ _) (fun _ => ok_ite_f (by decide) ?_) (fun z => absurd ht z)
      have k2 : N2 80 1 = (nK M : Int) := by rw [g2 80 1 (by omega), f1 80 1 (by omega)]; exact hn.symm
      rw [k2]
      exact ok_ite_t (by omega) (ok_some ⟨rfl, I1.congr (fun c i q => g2 c i (by unfold isS isFa isO isX1 isX2 at q; omega))⟩)
  all_goals (refine alk_ro (ans := -1) I ?_ (fun M1 h1 => ?_))
  all_goals first
    | (unfold f_X10_child
       refine ok_b (c_within _ _ _ _) (fun a1 => ok_ite_f (by decide) ?_) (fun z => ok_ite_t rfl (ok_some ⟨lvC.rf M, rfl⟩))
       refine ok_b (c_within _ _ _ _) (fun a2 => ok_ite_f (by decide) ?_) (fun z => ok_ite_t rfl (ok_some ⟨lvC.rf M, rfl⟩))
       refine ok_b (c_within _ _ _ _) (fun a3 => ok_ite_f (by decide) ?_) (fun z => ok_ite_t rfl (ok_some ⟨lvC.rf M, rfl⟩))
       exfalso
       first | exact hs a1 | exact hm a2 | exact ht a3)
    | (unfold f_X11_child
       obtain ⟨M2, e2, H2, f2, l2, g2⟩ := m_start I h1
       refine ok_lt ?_
       rw [e2]
       refine ok_b (m_within _ _ _ _) (fun a1 => ok_ite_f (by decide) ?_) (fun z => ok_ite_t rfl (ok_some ⟨l2, rfl⟩))
       refine ok_b (m_within _ _ _ _) (fun a2 => ok_ite_f (by decide) ?_) (fun z => ok_ite_t rfl (ok_some ⟨l2, rfl⟩))
       refine ok_b (m_within _ _ _ _) (fun a3 => ok_ite_f (by decide) ?_) (fun z => ok_ite_t rfl (ok_some ⟨l2, rfl⟩))
       exfalso
       first | exact hs a1 | exact hm a2 | exact ht a3)
end TELL
