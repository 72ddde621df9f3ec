/-! mark, wish, room, helper, end, word -/
section TELL2
variable {M : Mem}
theorem m_isChild' {N : Mem} {n : Nat} (h : N 80 1 = (n : Int)) (hn : n ≤ 14) (c : Int) : f_X11_isChild c N = some (b2i (0 ≤ c ∧ c < (n : Int))) := by
  unfold f_X11_isChild
  rw [m_within, obn_s, gd_z, h, wrap_of (by omega) (by omega)]
  exact congrArg some (b2i_congr (by omega))
theorem m_areTwo' {N : Mem} {n : Nat} (h : N 80 1 = (n : Int)) (hn : n ≤ 14) (a b : Int) : f_X11_areTwo a b N = some (b2i ((0 ≤ a ∧ a < (n : Int)) ∧ (0 ≤ b ∧ b < (n : Int)) ∧ a ≠ b)) := by
  unfold f_X11_areTwo
  rw [m_isChild' h hn, obn_s]
  by_cases h1 : 0 ≤ a ∧ a < (n : Int)
  · rw [b2i_t h1, if_neg (by decide), m_isChild' h hn, obn_s]
    by_cases h2 : 0 ≤ b ∧ b < (n : Int)
    · rw [b2i_t h2, if_neg (by decide)]
      by_cases h3 : a = b
      · rw [if_pos h3, b2i_f (fun q => q.2.2 h3)]
      · rw [if_neg h3, b2i_t ⟨h1, h2, h3⟩]
    · rw [b2i_f h2, if_pos rfl, b2i_f (fun q => h2 q.2.1)]
  · rw [b2i_f h1, if_pos rfl, b2i_f (fun q => h1 q.1)]
/-- where only the class's word on its best plan has gone -/
theorem inv_b0 {M1 : Mem} (I : Inv M) (f1 : ∀ c i, ¬ (c = 0 ∧ i = 16) → M1 c i = M c i) (v1 : M1 0 16 = 0) : Inv M1 := by
  have ff : ∀ c i, isFa c i → M1 c i = M c i := fun c i q => f1 c i (by unfold isFa at q; omega)
  exact ⟨I.1.congr ff, I.2.1.congr (fun c i q => f1 c i (by unfold isO at q; omega)), Or.inl v1, I.2.2.2.congr I.1 (I.1.congr ff) (fa_fe ff) (by rw [ff 80 14 (by unfold isFa; omega)]; exact Int.le_refl _) (fun c i q => f1 c i (by unfold isX2 at q; omega))⟩

theorem op_mark (I : Inv M) (t c q v : Int) : Alk (f_X10_mark t c q v M) (f_X11_mark t c q v) := by
  have h14 := I.1.n14
  have hn := I.1.n
  by_cases ht : 0 ≤ t ∧ t ≤ 3
  by_cases hc : 0 ≤ c ∧ c < (nK M : Int)
  by_cases hq : 0 ≤ q ∧ q ≤ 1
  by_cases hv : 0 ≤ v ∧ v ≤ 100
  · obtain ⟨t, rfl, -, ht2⟩ := nat_le (lo := 0) (n := 3) ht
    obtain ⟨c, rfl, hc2⟩ := nat_of hc
    obtain ⟨q, rfl, -, hq2⟩ := nat_le (lo := 0) (n := 1) hq
    obtain ⟨v, rfl, -, hv2⟩ := nat_le (lo := 0) (n := 100) hv
    obtain ⟨m, hm⟩ : ∃ m : Nat, M 80 15 = (m : Int) := ⟨(M 80 15).toNat, by have := I.1.a4.2.1; omega⟩
    have hm3 : m ≤ 300 := by have := I.1.a4.2.2; omega
    have h17 : M 17 0 = (m : Int) := I.1.a4.1.trans hm
    unfold Alk f_X10_mark
    refine ok_b (c_within _ _ _ _) (fun _ => ok_ite_f (by decide) ?_) (fun z => absurd ht z)
    refine ok_b (c2_has I.cf _) (fun _ => ok_ite_f (by decide) ?_) (fun z => absurd hc z)
    refine ok_b (c_within _ _ _ _) (fun _ => ok_ite_f (by decide) ?_) (fun z => absurd hq z)
    refine ok_b (c_within _ _ _ _) (fun _ => ok_ite_f (by decide) ?_) (fun z => absurd hv z)
    refine ok_lt ?_
    obtain ⟨M1, e1, f1, v1⟩ := mup_gen M 0 16 0
    rw [e1]; clear e1
    have n1 : M1 17 0 = (m : Int) := by rw [f1 17 0 (by omega)]; exact h17
    have td1 : M1 0 13 = M 80 14 := by rw [f1 0 13 (by omega)]; exact I.1.a3.1
    unfold f_X5_add
    rw [n1, td1, toN]
    by_cases hfull : m < 300
    · refine ok_bnd (P := fun z => z.1 = 1 ∧ (∀ c i, ¬ ((c = 17 ∧ i = 0) ∨ (i = m ∧ 18 ≤ c ∧ c ≤ 22)) → z.2 c i = M1 c i) ∧ z.2 17 0 = ((m + 1 : Nat) : Int) ∧ z.2 18 m = (t : Int) ∧ z.2 19 m = (c : Int) ∧ z.2 20 m = (q : Int) ∧ z.2 21 m = (v : Int) ∧ z.2 22 m = M 80 14) ?_ (fun r M2 hM2 => ?_)
      · refine ok_ite_t (by omega) (ok_gd (by omega) (ok_lt ?_))
        obtain ⟨M2, e2, f2, v2⟩ := mup_gen M1 18 m (t : Int)
        rw [e2]; clear e2
        have n2 : M2 17 0 = (m : Int) := by rw [f2 17 0 (by omega)]; exact n1
        rw [n2, toN]
        refine ok_gd (by omega) (ok_lt ?_)
        obtain ⟨M3, e3, f3, v3⟩ := mup_gen M2 19 m (c : Int)
        rw [e3]; clear e3
        have n3 : M3 17 0 = (m : Int) := by rw [f3 17 0 (by omega)]; exact n2
        rw [n3, toN]
        refine ok_gd (by omega) (ok_lt ?_)
        obtain ⟨M4, e4, f4, v4⟩ := mup_gen M3 20 m (q : Int)
        rw [e4]; clear e4
        have n4 : M4 17 0 = (m : Int) := by rw [f4 17 0 (by omega)]; exact n3
        rw [n4, toN]
        refine ok_gd (by omega) (ok_lt ?_)
        obtain ⟨M5, e5, f5, v5⟩ := mup_gen M4 21 m (v : Int)
        rw [e5]; clear e5
        have n5 : M5 17 0 = (m : Int) := by rw [f5 17 0 (by omega)]; exact n4
        rw [n5, toN]
        refine ok_gd (by omega) (ok_lt ?_)
        obtain ⟨M6, e6, f6, v6⟩ := mup_gen M5 22 m (M 80 14)
        rw [e6]; clear e6
        have n6 : M6 17 0 = (m : Int) := by rw [f6 17 0 (by omega)]; exact n5
        rw [n6, wrap_n1 (by omega)]
        refine ok_lt ?_
        obtain ⟨M7, e7, f7, v7⟩ := mup_gen M6 17 0 ((m + 1 : Nat) : Int)
        rw [e7]; clear e7
        refine ok_some ⟨rfl, fun c i z => ?_, v7, ?_, ?_, ?_, ?_, ?_⟩
        · try dsimp only
          (try dsimp only) <;> (rw [f7 _ _ (by first | (rintro ⟨rfl, rfl⟩; ((first | (refine absurd ?_ z; clear z) | (refine absurd ?_ q; clear q)); (first | (simp; done) | (simp [*]; done) | omega)); done) | (rintro (⟨rfl, rfl⟩ | ⟨rfl, h1, h2⟩) <;> ((first | (refine absurd ?_ z; clear z) | (refine absurd ?_ q; clear q)); (first | (simp; done) | (simp [*]; done) | omega))) | (rintro (⟨rfl, rfl⟩ | ⟨rfl, rfl⟩) <;> ((first | (refine absurd ?_ z; clear z) | (refine absurd ?_ q; clear q)); (first | (simp; done) | (simp [*]; done) | omega))) | omega), f6 _ _ (by first | (rintro ⟨rfl, rfl⟩; ((first | (refine absurd ?_ z; clear z) | (refine absurd ?_ q; clear q)); (first | (simp; done) | (simp [*]; done) | omega)); done) | (rintro (⟨rfl, rfl⟩ | ⟨rfl, h1, h2⟩) <;> ((first | (refine absurd ?_ z; clear z) | (refine absurd ?_ q; clear q)); (first | (simp; done) | (simp [*]; done) | omega))) | (rintro (⟨rfl, rfl⟩ | ⟨rfl, rfl⟩) <;> ((first | (refine absurd ?_ z; clear z) | (refine absurd ?_ q; clear q)); (first | (simp; done) | (simp [*]; done) | omega))) | omega), f5 _ _ (by first | (rintro ⟨rfl, rfl⟩; ((first | (refine absurd ?_ z; clear z) | (refine absurd ?_ q; clear q)); (first | (simp; done) | (simp [*]; done) | omega)); done) | (rintro (⟨rfl, rfl⟩ | ⟨rfl, h1, h2⟩) <;> ((first | (refine absurd ?_ z; clear z) | (refine absurd ?_ q; clear q)); (first | (simp; done) | (simp [*]; done) | omega))) | (rintro (⟨rfl, rfl⟩ | ⟨rfl, rfl⟩) <;> ((first | (refine absurd ?_ z; clear z) | (refine absurd ?_ q; clear q)); (first | (simp; done) | (simp [*]; done) | omega))) | omega), f4 _ _ (by first | (rintro ⟨rfl, rfl⟩; ((first | (refine absurd ?_ z; clear z) | (refine absurd ?_ q; clear q)); (first | (simp; done) | (simp [*]; done) | omega)); done) | (rintro (⟨rfl, rfl⟩ | ⟨rfl, h1, h2⟩) <;> ((first | (refine absurd ?_ z; clear z) | (refine absurd ?_ q; clear q)); (first | (simp; done) | (simp [*]; done) | omega))) | (rintro (⟨rfl, rfl⟩ | ⟨rfl, rfl⟩) <;> ((first | (refine absurd ?_ z; clear z) | (refine absurd ?_ q; clear q)); (first | (simp; done) | (simp [*]; done) | omega))) | omega), f3 _ _ (by first | (rintro ⟨rfl, rfl⟩; ((first | (refine absurd ?_ z; clear z) | (refine absurd ?_ q; clear q)); (first | (simp; done) | (simp [*]; done) | omega)); done) | (rintro (⟨rfl, rfl⟩ | ⟨rfl, h1, h2⟩) <;> ((first | (refine absurd ?_ z; clear z) | (refine absurd ?_ q; clear q)); (first | (simp; done) | (simp [*]; done) | omega))) | (rintro (⟨rfl, rfl⟩ | ⟨rfl, rfl⟩) <;> ((first | (refine absurd ?_ z; clear z) | (refine absurd ?_ q; clear q)); (first | (simp; done) | (simp [*]; done) | omega))) | omega), f2 _ _ (by first | (rintro ⟨rfl, rfl⟩; ((first | (refine absurd ?_ z; clear z) | (refine absurd ?_ q; clear q)); (first | (simp; done) | (simp [*]; done) | omega)); done) | (rintro (⟨rfl, rfl⟩ | ⟨rfl, h1, h2⟩) <;> ((first | (refine absurd ?_ z; clear z) | (refine absurd ?_ q; clear q)); (first | (simp; done) | (simp [*]; done) | omega))) | (rintro (⟨rfl, rfl⟩ | ⟨rfl, rfl⟩) <;> ((first | (refine absurd ?_ z; clear z) | (refine absurd ?_ q; clear q)); (first | (simp; done) | (simp [*]; done) | omega))) | omega)])
        · try dsimp only
          (try dsimp only) <;> (rw [f7 _ _ (by first | simp | omega), f6 _ _ (by first | simp | omega), f5 _ _ (by first | simp | omega), f4 _ _ (by first | simp | omega), f3 _ _ (by first | simp | omega)])
          exact v2
        · try dsimp only
          (try dsimp only) <;> (rw [f7 _ _ (by first | simp | omega), f6 _ _ (by first | simp | omega), f5 _ _ (by first | simp | omega), f4 _ _ (by first | simp | omega)])
          exact v3
        · try dsimp only
          (try dsimp only) <;> (rw [f7 _ _ (by first | simp | omega), f6 _ _ (by first | simp | omega), f5 _ _ (by first | simp | omega)])
          exact v4
        · try dsimp only
          (try dsimp only) <;> (rw [f7 _ _ (by first | simp | omega), f6 _ _ (by first | simp | omega)])
          exact v5
        · try dsimp only
          (try dsimp only) <;> (rw [f7 _ _ (by first | simp | omega)])
          exact v6
      · obtain ⟨hr, f2, w1, w2, w3, w4, w5, w6⟩ := hM2
        dsimp only at hr f2 w1 w2 w3 w4 w5 w6 ⊢
        subst hr
        refine ok_gd (by unfold isZ; decide) (ok_some ?_)
        have fr2 : ∀ c i, 80 ≤ c → M2 c i = M c i := fun c i z => by rw [f2 c i (by omega), f1 c i (by omega)]
        unfold f_X11_mark
        obtain ⟨N2, e2, g2⟩ := th0 M2
        refine ok_lt ?_
        rw [e2]
        have k1 : N2 80 1 = (nK M : Int) := by rw [g2 80 1 (by omega), fr2 80 1 (by omega)]; exact hn.symm
        have k2 : N2 80 15 = (m : Int) := by rw [g2 80 15 (by omega), fr2 80 15 (by omega)]; exact hm
        have d2 : N2 80 14 = M 80 14 := by rw [g2 80 14 (by omega), fr2 80 14 (by omega)]
        refine ok_b (m_within _ _ _ _) (fun _ => ok_ite_f (by decide) ?_) (fun z => absurd ht z)
        refine ok_b (m_isChild' k1 h14 _) (fun _ => ok_ite_f (by decide) ?_) (fun z => absurd hc z)
        refine ok_b (m_within _ _ _ _) (fun _ => ok_ite_f (by decide) ?_) (fun z => absurd hq z)
        refine ok_b (m_within _ _ _ _) (fun _ => ok_ite_f (by decide) ?_) (fun z => absurd hv z)
        rw [k2, toN]
        refine ok_ite_f (by omega) (ok_gd (by omega) (ok_lt ?_))
        obtain ⟨N3, e3, g3, x3⟩ := mup_gen N2 92 m (t : Int)
        rw [e3]; clear e3
        have k3 : N3 80 15 = (m : Int) := by rw [g3 80 15 (by omega)]; exact k2
        have d3 : N3 80 14 = M 80 14 := by rw [g3 80 14 (by omega)]; exact d2
        rw [k3, toN]
        refine ok_gd (by omega) (ok_lt ?_)
        obtain ⟨N4, e4, g4, x4⟩ := mup_gen N3 93 m (c : Int)
        rw [e4]; clear e4
        have k4 : N4 80 15 = (m : Int) := by rw [g4 80 15 (by omega)]; exact k3
        have d4 : N4 80 14 = M 80 14 := by rw [g4 80 14 (by omega)]; exact d3
        rw [k4, toN]
        refine ok_gd (by omega) (ok_lt ?_)
        obtain ⟨N5, e5, g5, x5⟩ := mup_gen N4 94 m (q : Int)
        rw [e5]; clear e5
        have k5 : N5 80 15 = (m : Int) := by rw [g5 80 15 (by omega)]; exact k4
        have d5 : N5 80 14 = M 80 14 := by rw [g5 80 14 (by omega)]; exact d4
        rw [k5, toN]
        refine ok_gd (by omega) (ok_lt ?_)
        obtain ⟨N6, e6, g6, x6⟩ := mup_gen N5 95 m (v : Int)
        rw [e6]; clear e6
        have k6 : N6 80 15 = (m : Int) := by rw [g6 80 15 (by omega)]; exact k5
        have d6 : N6 80 14 = M 80 14 := by rw [g6 80 14 (by omega)]; exact d5
        rw [k6, d6, toN]
        refine ok_gd (by omega) (ok_lt ?_)
        obtain ⟨N7, e7, g7, x7⟩ := mup_gen N6 96 m (M 80 14)
        rw [e7]; clear e7
        have k7 : N7 80 15 = (m : Int) := by rw [g7 80 15 (by omega)]; exact k6
        have d7 : N7 80 14 = M 80 14 := by rw [g7 80 14 (by omega)]; exact d6
        refine ok_lt ?_
        obtain ⟨N8, e8, g8, x8⟩ := mup_gen N7 80 43 0
        rw [e8]; clear e8
        have k8 : N8 80 15 = (m : Int) := by rw [g8 80 15 (by omega)]; exact k7
        rw [k8, wrap_n1 (by omega)]
        refine ok_lt ?_
        obtain ⟨N9, e9, g9, x9⟩ := mup_gen N8 80 15 ((m + 1 : Nat) : Int)
        rw [e9]; clear e9
        refine ok_some ⟨rfl, ?_⟩
        refine up_mark (m := m) (t := t) (cc := c) (q := q) (v := v) hm hfull (by omega) hc2 (by omega) hv2 I (fun c i z => ?_) ?_ x9 ?_ ?_ ?_ ?_ ?_ ?_ ?_ ?_ ?_ ?_ ?_ ?_
        · (try dsimp only) <;> (rw [g9 _ _ (by first | (rintro ⟨rfl, rfl⟩; ((first | (refine absurd ?_ z; clear z) | (refine absurd ?_ q; clear q)); (first | (simp; done) | (simp [*]; done) | omega)); done) | (rintro (⟨rfl, rfl⟩ | ⟨rfl, h1, h2⟩) <;> ((first | (refine absurd ?_ z; clear z) | (refine absurd ?_ q; clear q)); (first | (simp; done) | (simp [*]; done) | omega))) | (rintro (⟨rfl, rfl⟩ | ⟨rfl, rfl⟩) <;> ((first | (refine absurd ?_ z; clear z) | (refine absurd ?_ q; clear q)); (first | (simp; done) | (simp [*]; done) | omega))) | omega), g8 _ _ (by first | (rintro ⟨rfl, rfl⟩; ((first | (refine absurd ?_ z; clear z) | (refine absurd ?_ q; clear q)); (first | (simp; done) | (simp [*]; done) | omega)); done) | (rintro (⟨rfl, rfl⟩ | ⟨rfl, h1, h2⟩) <;> ((first | (refine absurd ?_ z; clear z) | (refine absurd ?_ q; clear q)); (first | (simp; done) | (simp [*]; done) | omega))) | (rintro (⟨rfl, rfl⟩ | ⟨rfl, rfl⟩) <;> ((first | (refine absurd ?_ z; clear z) | (refine absurd ?_ q; clear q)); (first | (simp; done) | (simp [*]; done) | omega))) | omega), g7 _ _ (by first | (rintro ⟨rfl, rfl⟩; ((first | (refine absurd ?_ z; clear z) | (refine absurd ?_ q; clear q)); (first | (simp; done) | (simp [*]; done) | omega)); done) | (rintro (⟨rfl, rfl⟩ | ⟨rfl, h1, h2⟩) <;> ((first | (refine absurd ?_ z; clear z) | (refine absurd ?_ q; clear q)); (first | (simp; done) | (simp [*]; done) | omega))) | (rintro (⟨rfl, rfl⟩ | ⟨rfl, rfl⟩) <;> ((first | (refine absurd ?_ z; clear z) | (refine absurd ?_ q; clear q)); (first | (simp; done) | (simp [*]; done) | omega))) | omega), g6 _ _ (by first | (rintro ⟨rfl, rfl⟩; ((first | (refine absurd ?_ z; clear z) | (refine absurd ?_ q; clear q)); (first | (simp; done) | (simp [*]; done) | omega)); done) | (rintro (⟨rfl, rfl⟩ | ⟨rfl, h1, h2⟩) <;> ((first | (refine absurd ?_ z; clear z) | (refine absurd ?_ q; clear q)); (first | (simp; done) | (simp [*]; done) | omega))) | (rintro (⟨rfl, rfl⟩ | ⟨rfl, rfl⟩) <;> ((first | (refine absurd ?_ z; clear z) | (refine absurd ?_ q; clear q)); (first | (simp; done) | (simp [*]; done) | omega))) | omega), g5 _ _ (by first | (rintro ⟨rfl, rfl⟩; ((first | (refine absurd ?_ z; clear z) | (refine absurd ?_ q; clear q)); (first | (simp; done) | (simp [*]; done) | omega)); done) | (rintro (⟨rfl, rfl⟩ | ⟨rfl, h1, h2⟩) <;> ((first | (refine absurd ?_ z; clear z) | (refine absurd ?_ q; clear q)); (first | (simp; done) | (simp [*]; done) | omega))) | (rintro (⟨rfl, rfl⟩ | ⟨rfl, rfl⟩) <;> ((first | (refine absurd ?_ z; clear z) | (refine absurd ?_ q; clear q)); (first | (simp; done) | (simp [*]; done) | omega))) | omega), g4 _ _ (by first | (rintro ⟨rfl, rfl⟩; ((first | (refine absurd ?_ z; clear z) | (refine absurd ?_ q; clear q)); (first | (simp; done) | (simp [*]; done) | omega)); done) | (rintro (⟨rfl, rfl⟩ | ⟨rfl, h1, h2⟩) <;> ((first | (refine absurd ?_ z; clear z) | (refine absurd ?_ q; clear q)); (first | (simp; done) | (simp [*]; done) | omega))) | (rintro (⟨rfl, rfl⟩ | ⟨rfl, rfl⟩) <;> ((first | (refine absurd ?_ z; clear z) | (refine absurd ?_ q; clear q)); (first | (simp; done) | (simp [*]; done) | omega))) | omega), g3 _ _ (by first | (rintro ⟨rfl, rfl⟩; ((first | (refine absurd ?_ z; clear z) | (refine absurd ?_ q; clear q)); (first | (simp; done) | (simp [*]; done) | omega)); done) | (rintro (⟨rfl, rfl⟩ | ⟨rfl, h1, h2⟩) <;> ((first | (refine absurd ?_ z; clear z) | (refine absurd ?_ q; clear q)); (first | (simp; done) | (simp [*]; done) | omega))) | (rintro (⟨rfl, rfl⟩ | ⟨rfl, rfl⟩) <;> ((first | (refine absurd ?_ z; clear z) | (refine absurd ?_ q; clear q)); (first | (simp; done) | (simp [*]; done) | omega))) | omega), g2 _ _ (by first | (rintro ⟨rfl, rfl⟩; ((first | (refine absurd ?_ z; clear z) | (refine absurd ?_ q; clear q)); (first | (simp; done) | (simp [*]; done) | omega)); done) | (rintro (⟨rfl, rfl⟩ | ⟨rfl, h1, h2⟩) <;> ((first | (refine absurd ?_ z; clear z) | (refine absurd ?_ q; clear q)); (first | (simp; done) | (simp [*]; done) | omega))) | (rintro (⟨rfl, rfl⟩ | ⟨rfl, rfl⟩) <;> ((first | (refine absurd ?_ z; clear z) | (refine absurd ?_ q; clear q)); (first | (simp; done) | (simp [*]; done) | omega))) | omega), f2 _ _ (by first | (rintro ⟨rfl, rfl⟩; ((first | (refine absurd ?_ z; clear z) | (refine absurd ?_ q; clear q)); (first | (simp; done) | (simp [*]; done) | omega)); done) | (rintro (⟨rfl, rfl⟩ | ⟨rfl, h1, h2⟩) <;> ((first | (refine absurd ?_ z; clear z) | (refine absurd ?_ q; clear q)); (first | (simp; done) | (simp [*]; done) | omega))) | (rintro (⟨rfl, rfl⟩ | ⟨rfl, rfl⟩) <;> ((first | (refine absurd ?_ z; clear z) | (refine absurd ?_ q; clear q)); (first | (simp; done) | (simp [*]; done) | omega))) | omega), f1 _ _ (by first | (rintro ⟨rfl, rfl⟩; ((first | (refine absurd ?_ z; clear z) | (refine absurd ?_ q; clear q)); (first | (simp; done) | (simp [*]; done) | omega)); done) | (rintro (⟨rfl, rfl⟩ | ⟨rfl, h1, h2⟩) <;> ((first | (refine absurd ?_ z; clear z) | (refine absurd ?_ q; clear q)); (first | (simp; done) | (simp [*]; done) | omega))) | (rintro (⟨rfl, rfl⟩ | ⟨rfl, rfl⟩) <;> ((first | (refine absurd ?_ z; clear z) | (refine absurd ?_ q; clear q)); (first | (simp; done) | (simp [*]; done) | omega))) | omega)])
        · (try dsimp only) <;> (rw [g9 _ _ (by first | simp | omega), g8 _ _ (by first | simp | omega), g7 _ _ (by first | simp | omega), g6 _ _ (by first | simp | omega), g5 _ _ (by first | simp | omega), g4 _ _ (by first | simp | omega), g3 _ _ (by first | simp | omega), g2 _ _ (by first | simp | omega)])
          exact w1
        · (try dsimp only) <;> (rw [g9 _ _ (by first | simp | omega), g8 _ _ (by first | simp | omega), g7 _ _ (by first | simp | omega), g6 _ _ (by first | simp | omega), g5 _ _ (by first | simp | omega), g4 _ _ (by first | simp | omega), g3 _ _ (by first | simp | omega), g2 _ _ (by first | simp | omega)])
          exact w2
        · (try dsimp only) <;> (rw [g9 _ _ (by first | simp | omega), g8 _ _ (by first | simp | omega), g7 _ _ (by first | simp | omega), g6 _ _ (by first | simp | omega), g5 _ _ (by first | simp | omega), g4 _ _ (by first | simp | omega)])
          exact x3
        · (try dsimp only) <;> (rw [g9 _ _ (by first | simp | omega), g8 _ _ (by first | simp | omega), g7 _ _ (by first | simp | omega), g6 _ _ (by first | simp | omega), g5 _ _ (by first | simp | omega), g4 _ _ (by first | simp | omega), g3 _ _ (by first | simp | omega), g2 _ _ (by first | simp | omega)])
          exact w3
        · (try dsimp only) <;> (rw [g9 _ _ (by first | simp | omega), g8 _ _ (by first | simp | omega), g7 _ _ (by first | simp | omega), g6 _ _ (by first | simp | omega), g5 _ _ (by first | simp | omega)])
          exact x4
        · (try dsimp only) <;> (rw [g9 _ _ (by first | simp | omega), g8 _ _ (by first | simp | omega), g7 _ _ (by first | simp | omega), g6 _ _ (by first | simp | omega), g5 _ _ (by first | simp | omega), g4 _ _ (by first | simp | omega), g3 _ _ (by first | simp | omega), g2 _ _ (by first | simp | omega)])
          exact w4
        · (try dsimp only) <;> (rw [g9 _ _ (by first | simp | omega), g8 _ _ (by first | simp | omega), g7 _ _ (by first | simp | omega), g6 _ _ (by first | simp | omega)])
          exact x5
        · (try dsimp only) <;> (rw [g9 _ _ (by first | simp | omega), g8 _ _ (by first | simp | omega), g7 _ _ (by first | simp | omega), g6 _ _ (by first | simp | omega), g5 _ _ (by first | simp | omega), g4 _ _ (by first | simp | omega), g3 _ _ (by first | simp | omega), g2 _ _ (by first | simp | omega)])
          exact w5
        · (try dsimp only) <;> (rw [g9 _ _ (by first | simp | omega), g8 _ _ (by first | simp | omega), g7 _ _ (by first | simp | omega)])
          exact x6
        · (try dsimp only) <;> (rw [g9 _ _ (by first | simp | omega), g8 _ _ (by first | simp | omega), g7 _ _ (by first | simp | omega), g6 _ _ (by first | simp | omega), g5 _ _ (by first | simp | omega), g4 _ _ (by first | simp | omega), g3 _ _ (by first | simp | omega), g2 _ _ (by first | simp | omega)])
          exact w6
        · (try dsimp only) <;> (rw [g9 _ _ (by first | simp | omega), g8 _ _ (by first | simp | omega)])
          exact x7
        · (try dsimp only) <;> (rw [g9 _ _ (by first | simp | omega), g8 _ _ (by first | simp | omega), g7 _ _ (by first | simp | omega), g6 _ _ (by first | simp | omega), g5 _ _ (by first | simp | omega), g4 _ _ (by first | simp | omega), g3 _ _ (by first | simp | omega), g2 _ _ (by first | simp | omega), f2 _ _ (by first | simp | omega)])
          exact v1
        · (try dsimp only) <;> (rw [g9 _ _ (by first | simp | omega)])
          exact x8
    · refine ok_bnd (P := fun z => z = (0, M1)) (ok_ite_f (by omega) (ok_some rfl)) (fun r M2 hM2 => ok_gd (by cases hM2; unfold isZ; decide) (ok_some ?_))
      cases hM2
      have I1 := inv_b0 I f1 v1
      unfold f_X11_mark
      obtain ⟨N2, e2, g2⟩ := th0 M1
      refine ok_lt ?_
      rw [e2]
      have k1 : N2 80 1 = (nK M : Int) := by rw [g2 80 1 (by omega), f1 80 1 (by omega)]; exact hn.symm
      have k2 : N2 80 15 = (m : Int) := by rw [g2 80 15 (by omega), f1 80 15 (by omega)]; exact hm
      refine ok_b (m_within _ _ _ _) (fun _ => ok_ite_f (by decide) ?_) (fun z => absurd ht z)
      refine ok_b (m_isChild' k1 h14 _) (fun _ => ok_ite_f (by decide) ?_) (fun z => absurd hc z)
      refine ok_b (m_within _ _ _ _) (fun _ => ok_ite_f (by decide) ?_) (fun z => absurd hq z)
      refine ok_b (m_within _ _ _ _) (fun _ => ok_ite_f (by decide) ?_) (fun z => absurd hv z)
      rw [k2]
      exact ok_ite_t (by omega) (ok_some ⟨rfl, I1.congr (fun c i q => g2 c i (by unfold isS isFa isO isX1 isX2 at q; omega))⟩)
  all_goals (refine alk_ro (ans := 0) I ?_ (fun M1 h1 => ?_))
  all_goals first
    | (unfold f_X10_mark
       refine ok_b (c_within _ _ _ _) (fun a0 => ok_ite_f (by decide) ?_) (fun z => ok_ite_t rfl (ok_some ⟨lvC.rf M, rfl⟩))
       refine ok_b (c2_has I.cf _) (fun a1 => ok_ite_f (by decide) ?_) (fun z => ok_ite_t rfl (ok_some ⟨lvC.rf M, rfl⟩))
       refine ok_b (c_within _ _ _ _) (fun a2 => ok_ite_f (by decide) ?_) (fun z => ok_ite_t rfl (ok_some ⟨lvC.rf M, rfl⟩))
       refine ok_b (c_within _ _ _ _) (fun a3 => ok_ite_f (by decide) ?_) (fun z => ok_ite_t rfl (ok_some ⟨lvC.rf M, rfl⟩))
       exfalso
       first | exact ht a0 | exact hc a1 | exact hq a2 | exact hv a3)
    | (unfold f_X11_mark
       obtain ⟨M2, e2, H2, f2, l2, g2⟩ := m_start I h1
       refine ok_lt ?_
       rw [e2]
       refine ok_b (m_within _ _ _ _) (fun a0 => ok_ite_f (by decide) ?_) (fun z => ok_ite_t rfl (ok_some ⟨l2, rfl⟩))
       refine ok_b (m2_isChild H2 _) (fun a1 => ok_ite_f (by decide) ?_) (fun z => ok_ite_t rfl (ok_some ⟨l2, rfl⟩))
       refine ok_b (m_within _ _ _ _) (fun a2 => ok_ite_f (by decide) ?_) (fun z => ok_ite_t rfl (ok_some ⟨l2, rfl⟩))
       refine ok_b (m_within _ _ _ _) (fun a3 => ok_ite_f (by decide) ?_) (fun z => ok_ite_t rfl (ok_some ⟨l2, rfl⟩))
       exfalso
       first | exact ht a0 | exact hc a1 | exact hq a2 | exact hv a3)

theorem op_wish (I : Inv M) (c p o : Int) : Alk (f_X10_wish c p o M) (f_X11_wish c p o) := by
  have h14 := I.1.n14
  have hn := I.1.n
  by_cases hc : 0 ≤ c ∧ c < (nK M : Int)
  by_cases hp : 0 ≤ p ∧ p ≤ 2
  by_cases ho : o = -1 ∨ ((0 ≤ c ∧ c < (nK M : Int)) ∧ (0 ≤ o ∧ o < (nK M : Int)) ∧ c ≠ o)
  · obtain ⟨c, rfl, hc2⟩ := nat_of hc
    obtain ⟨p, rfl, -, hp2⟩ := nat_le (lo := 0) (n := 2) hp
    have fin : Okk (lt (mup M 0 16 0) fun M_2 => gd ((0 : Int) ≤ ((3 * c + p : Nat) : Int) ∧ ((3 * c + p : Nat) : Int) < 42) <| lt (mup M_2 9 (3 * c + p) o) fun M_3 => (some (1, M_3) : Option Res)) (fun q => Okk (f_X11_wish c p o q.2) (fun q2 => q2.1 = q.1 ∧ Inv q2.2)) := by
      refine ok_lt ?_
      obtain ⟨M1, e1, f1, v1⟩ := mup_gen M 0 16 0
      rw [e1]; clear e1
      refine ok_gd (by omega) (ok_lt ?_)
      obtain ⟨M2, e2, f2, v2⟩ := mup_gen M1 9 (3 * c + p) o
      rw [e2]; clear e2
      refine ok_some ?_
      unfold f_X11_wish
      obtain ⟨N2, e2, g2⟩ := th0 M2
      refine ok_lt ?_
      rw [e2]; clear e2
      have k1 : N2 80 1 = (nK M : Int) := by rw [g2 80 1 (by omega), f2 80 1 (by omega), f1 80 1 (by omega)]; exact hn.symm
      refine ok_b (m_isChild' k1 h14 _) (fun _ => ok_ite_f (by decide) ?_) (fun z => absurd hc z)
      refine ok_b (m_within _ _ _ _) (fun _ => ok_ite_f (by decide) ?_) (fun z => absurd hp z)
      (try simp (disch := omega) only [wrap_of, toN, nA, n1, mr2, mr3, mr4, mr9, mr14, ml2, ml3, ml4, ml7, ml14, ml28])
      have fin2 : Okk (gd ((0 : Int) ≤ ((3 * c + p : Nat) : Int) ∧ ((3 * c + p : Nat) : Int) < 42) <| lt (mup N2 86 (3 * c + p) o) fun M_3 => lt (mup M_3 80 43 0) fun M_4 => (some (1, M_4) : Option Res)) (fun q2 => q2.1 = 1 ∧ Inv q2.2) := by
        refine ok_gd (by omega) (ok_lt ?_)
        obtain ⟨N3, e3, g3, x3⟩ := mup_gen N2 86 (3 * c + p) o
        rw [e3]; clear e3
        refine ok_lt ?_
        obtain ⟨N4, e4, g4, x4⟩ := mup_gen N3 80 43 0
        rw [e4]; clear e4
        refine ok_some ⟨rfl, up_wish (cc := c) (p := p) (v := o) hc2 (by omega) I (fun c i q => ?_) ?_ ?_ ?_ ?_ x4⟩
        · (try dsimp only) <;> (rw [g4 _ _ (by first | (rintro ⟨rfl, rfl⟩; ((first | (refine absurd ?_ z; clear z) | (refine absurd ?_ q; clear q)); (first | (simp; done) | (simp [*]; done) | omega)); done) | (rintro (⟨rfl, rfl⟩ | ⟨rfl, h1, h2⟩) <;> ((first | (refine absurd ?_ z; clear z) | (refine absurd ?_ q; clear q)); (first | (simp; done) | (simp [*]; done) | omega))) | (rintro (⟨rfl, rfl⟩ | ⟨rfl, rfl⟩) <;> ((first | (refine absurd ?_ z; clear z) | (refine absurd ?_ q; clear q)); (first | (simp; done) | (simp [*]; done) | omega))) | omega), g3 _ _ (by first | (rintro ⟨rfl, rfl⟩; ((first | (refine absurd ?_ z; clear z) | (refine absurd ?_ q; clear q)); (first | (simp; done) | (simp [*]; done) | omega)); done) | (rintro (⟨rfl, rfl⟩ | ⟨rfl, h1, h2⟩) <;> ((first | (refine absurd ?_ z; clear z) | (refine absurd ?_ q; clear q)); (first | (simp; done) | (simp [*]; done) | omega))) | (rintro (⟨rfl, rfl⟩ | ⟨rfl, rfl⟩) <;> ((first | (refine absurd ?_ z; clear z) | (refine absurd ?_ q; clear q)); (first | (simp; done) | (simp [*]; done) | omega))) | omega), g2 _ _ (by first | (rintro ⟨rfl, rfl⟩; ((first | (refine absurd ?_ z; clear z) | (refine absurd ?_ q; clear q)); (first | (simp; done) | (simp [*]; done) | omega)); done) | (rintro (⟨rfl, rfl⟩ | ⟨rfl, h1, h2⟩) <;> ((first | (refine absurd ?_ z; clear z) | (refine absurd ?_ q; clear q)); (first | (simp; done) | (simp [*]; done) | omega))) | (rintro (⟨rfl, rfl⟩ | ⟨rfl, rfl⟩) <;> ((first | (refine absurd ?_ z; clear z) | (refine absurd ?_ q; clear q)); (first | (simp; done) | (simp [*]; done) | omega))) | omega), f2 _ _ (by first | (rintro ⟨rfl, rfl⟩; ((first | (refine absurd ?_ z; clear z) | (refine absurd ?_ q; clear q)); (first | (simp; done) | (simp [*]; done) | omega)); done) | (rintro (⟨rfl, rfl⟩ | ⟨rfl, h1, h2⟩) <;> ((first | (refine absurd ?_ z; clear z) | (refine absurd ?_ q; clear q)); (first | (simp; done) | (simp [*]; done) | omega))) | (rintro (⟨rfl, rfl⟩ | ⟨rfl, rfl⟩) <;> ((first | (refine absurd ?_ z; clear z) | (refine absurd ?_ q; clear q)); (first | (simp; done) | (simp [*]; done) | omega))) | omega), f1 _ _ (by first | (rintro ⟨rfl, rfl⟩; ((first | (refine absurd ?_ z; clear z) | (refine absurd ?_ q; clear q)); (first | (simp; done) | (simp [*]; done) | omega)); done) | (rintro (⟨rfl, rfl⟩ | ⟨rfl, h1, h2⟩) <;> ((first | (refine absurd ?_ z; clear z) | (refine absurd ?_ q; clear q)); (first | (simp; done) | (simp [*]; done) | omega))) | (rintro (⟨rfl, rfl⟩ | ⟨rfl, rfl⟩) <;> ((first | (refine absurd ?_ z; clear z) | (refine absurd ?_ q; clear q)); (first | (simp; done) | (simp [*]; done) | omega))) | omega)])
        · (try dsimp only) <;> (rw [g4 _ _ (by first | simp | omega), g3 _ _ (by first | simp | omega), g2 _ _ (by first | simp | omega)])
          exact v2
        · (try dsimp only) <;> (rw [g4 _ _ (by first | simp | omega)])
          exact x3
        · omega
        · (try dsimp only) <;> (rw [g4 _ _ (by first | simp | omega), g3 _ _ (by first | simp | omega), g2 _ _ (by first | simp | omega), f2 _ _ (by first | simp | omega)])
          exact v1
      refine ok_ite (fun h => fin2) (fun h => ok_b (m_areTwo' k1 h14 _ _) (fun _ => ok_ite_f (by decide) fin2) (fun z => absurd (ho.resolve_left h) z))
    unfold Alk f_X10_wish
    refine ok_b (c2_has I.cf _) (fun _ => ok_ite_f (by decide) ?_) (fun z => absurd hc z)
    refine ok_b (c_within _ _ _ _) (fun _ => ok_ite_f (by decide) ?_) (fun z => absurd hp z)
    (try simp (disch := omega) only [wrap_of, toN, nA, n1, mr2, mr3, mr4, mr9, mr14, ml2, ml3, ml4, ml7, ml14, ml28])
    exact ok_ite (fun h => fin) (fun h => ok_b (c2_areTwo I.cf _ _) (fun _ => ok_ite_f (by decide) fin) (fun z => absurd (ho.resolve_left h) z))
  all_goals (refine alk_ro (ans := 0) I ?_ (fun M1 h1 => ?_))
  all_goals first
    | (unfold f_X10_wish
       refine ok_b (c2_has I.cf _) (fun a1 => ok_ite_f (by decide) ?_) (fun z => ok_ite_t rfl (ok_some ⟨lvC.rf M, rfl⟩))
       refine ok_b (c_within _ _ _ _) (fun a2 => ok_ite_f (by decide) ?_) (fun z => ok_ite_t rfl (ok_some ⟨lvC.rf M, rfl⟩))
       first
         | exact ok_ite_f (fun h => ho (Or.inl h)) (ok_b (c2_areTwo I.cf _ _) (fun a3 => absurd (Or.inr a3) ho) (fun z => ok_ite_t rfl (ok_some ⟨lvC.rf M, rfl⟩)))
         | (exfalso; first | exact hc a1 | exact hp a2))
    | (unfold f_X11_wish
       obtain ⟨M2, e2, H2, f2, l2, g2⟩ := m_start I h1
       refine ok_lt ?_
       rw [e2]
       refine ok_b (m2_isChild H2 _) (fun a1 => ok_ite_f (by decide) ?_) (fun z => ok_ite_t rfl (ok_some ⟨l2, rfl⟩))
       refine ok_b (m_within _ _ _ _) (fun a2 => ok_ite_f (by decide) ?_) (fun z => ok_ite_t rfl (ok_some ⟨l2, rfl⟩))
       first
         | exact ok_ite_f (fun h => ho (Or.inl h)) (ok_b (m2_areTwo H2 _ _) (fun a3 => absurd (Or.inr a3) ho) (fun z => ok_ite_t rfl (ok_some ⟨l2, rfl⟩)))
         | (exfalso; first | exact hc a1 | exact hp a2))

theorem op_room (I : Inv M) (k v : Int) : Alk (f_X10_room k v M) (f_X11_room k v) := by
  by_cases hk : 0 ≤ k ∧ k ≤ 2
  by_cases hv : 0 ≤ v ∧ v ≤ 14
  · obtain ⟨k, rfl, -, hk2⟩ := nat_le (lo := 0) (n := 2) hk
    unfold Alk f_X10_room
    refine ok_b (c_within _ _ _ _) (fun _ => ok_ite_f (by decide) ?_) (fun z => absurd hk z)
    refine ok_b (c_within _ _ _ _) (fun _ => ok_ite_f (by decide) ?_) (fun z => absurd hv z)
    refine ok_lt ?_
    obtain ⟨M1, e1, f1, v1⟩ := mup_gen M 0 16 0
    rw [e1, toN]; clear e1
    refine ok_gd (by omega) (ok_lt ?_)
    obtain ⟨M2, e2, f2, v2⟩ := mup_gen M1 16 k v
    rw [e2]; clear e2
    refine ok_some ?_
    unfold f_X11_room
    obtain ⟨N2, e2, g2⟩ := th0 M2
    refine ok_lt ?_
    rw [e2]; clear e2
    refine ok_b (m_within _ _ _ _) (fun _ => ok_ite_f (by decide) ?_) (fun z => absurd hk z)
    refine ok_b (m_within _ _ _ _) (fun _ => ok_ite_f (by decide) ?_) (fun z => absurd hv z)
    rw [toN]
    refine ok_gd (by omega) (ok_lt ?_)
    obtain ⟨N3, e3, g3, x3⟩ := mup_gen N2 91 k v
    rw [e3]; clear e3
    refine ok_lt ?_
    obtain ⟨N4, e4, g4, x4⟩ := mup_gen N3 80 43 0
    rw [e4]; clear e4
    refine ok_some ⟨rfl, up_room (k := k) (v := v) (by omega) hv I (fun c i q => ?_) ?_ ?_ ?_ x4⟩
    · (try dsimp only) <;> (rw [g4 _ _ (by first | (rintro ⟨rfl, rfl⟩; ((first | (refine absurd ?_ z; clear z) | (refine absurd ?_ q; clear q)); (first | (simp; done) | (simp [*]; done) | omega)); done) | (rintro (⟨rfl, rfl⟩ | ⟨rfl, h1, h2⟩) <;> ((first | (refine absurd ?_ z; clear z) | (refine absurd ?_ q; clear q)); (first | (simp; done) | (simp [*]; done) | omega))) | (rintro (⟨rfl, rfl⟩ | ⟨rfl, rfl⟩) <;> ((first | (refine absurd ?_ z; clear z) | (refine absurd ?_ q; clear q)); (first | (simp; done) | (simp [*]; done) | omega))) | omega), g3 _ _ (by first | (rintro ⟨rfl, rfl⟩; ((first | (refine absurd ?_ z; clear z) | (refine absurd ?_ q; clear q)); (first | (simp; done) | (simp [*]; done) | omega)); done) | (rintro (⟨rfl, rfl⟩ | ⟨rfl, h1, h2⟩) <;> ((first | (refine absurd ?_ z; clear z) | (refine absurd ?_ q; clear q)); (first | (simp; done) | (simp [*]; done) | omega))) | (rintro (⟨rfl, rfl⟩ | ⟨rfl, rfl⟩) <;> ((first | (refine absurd ?_ z; clear z) | (refine absurd ?_ q; clear q)); (first | (simp; done) | (simp [*]; done) | omega))) | omega), g2 _ _ (by first | (rintro ⟨rfl, rfl⟩; ((first | (refine absurd ?_ z; clear z) | (refine absurd ?_ q; clear q)); (first | (simp; done) | (simp [*]; done) | omega)); done) | (rintro (⟨rfl, rfl⟩ | ⟨rfl, h1, h2⟩) <;> ((first | (refine absurd ?_ z; clear z) | (refine absurd ?_ q; clear q)); (first | (simp; done) | (simp [*]; done) | omega))) | (rintro (⟨rfl, rfl⟩ | ⟨rfl, rfl⟩) <;> ((first | (refine absurd ?_ z; clear z) | (refine absurd ?_ q; clear q)); (first | (simp; done) | (simp [*]; done) | omega))) | omega), f2 _ _ (by first | (rintro ⟨rfl, rfl⟩; ((first | (refine absurd ?_ z; clear z) | (refine absurd ?_ q; clear q)); (first | (simp; done) | (simp [*]; done) | omega)); done) | (rintro (⟨rfl, rfl⟩ | ⟨rfl, h1, h2⟩) <;> ((first | (refine absurd ?_ z; clear z) | (refine absurd ?_ q; clear q)); (first | (simp; done) | (simp [*]; done) | omega))) | (rintro (⟨rfl, rfl⟩ | ⟨rfl, rfl⟩) <;> ((first | (refine absurd ?_ z; clear z) | (refine absurd ?_ q; clear q)); (first | (simp; done) | (simp [*]; done) | omega))) | omega), f1 _ _ (by first | (rintro ⟨rfl, rfl⟩; ((first | (refine absurd ?_ z; clear z) | (refine absurd ?_ q; clear q)); (first | (simp; done) | (simp [*]; done) | omega)); done) | (rintro (⟨rfl, rfl⟩ | ⟨rfl, h1, h2⟩) <;> ((first | (refine absurd ?_ z; clear z) | (refine absurd ?_ q; clear q)); (first | (simp; done) | (simp [*]; done) | omega))) | (rintro (⟨rfl, rfl⟩ | ⟨rfl, rfl⟩) <;> ((first | (refine absurd ?_ z; clear z) | (refine absurd ?_ q; clear q)); (first | (simp; done) | (simp [*]; done) | omega))) | omega)])
    · (try dsimp only) <;> (rw [g4 _ _ (by first | simp | omega), g3 _ _ (by first | simp | omega), g2 _ _ (by first | simp | omega)])
      exact v2
    · (try dsimp only) <;> (rw [g4 _ _ (by first | simp | omega)])
      exact x3
    · (try dsimp only) <;> (rw [g4 _ _ (by first | simp | omega), g3 _ _ (by first | simp | omega), g2 _ _ (by first | simp | omega), f2 _ _ (by first | simp | omega)])
      exact v1
  all_goals (refine alk_ro (ans := 0) I ?_ (fun M1 h1 => ?_))
  all_goals first
    | (unfold f_X10_room
       refine ok_b (c_within _ _ _ _) (fun a0 => ok_ite_f (by decide) ?_) (fun z => ok_ite_t rfl (ok_some ⟨lvC.rf M, rfl⟩))
       refine ok_b (c_within _ _ _ _) (fun a1 => ok_ite_f (by decide) ?_) (fun z => ok_ite_t rfl (ok_some ⟨lvC.rf M, rfl⟩))
       exfalso
       first | exact hk a0 | exact hv a1)
    | (unfold f_X11_room
       obtain ⟨M2, e2, H2, f2, l2, g2⟩ := m_start I h1
       refine ok_lt ?_
       rw [e2]
       refine ok_b (m_within _ _ _ _) (fun a0 => ok_ite_f (by decide) ?_) (fun z => ok_ite_t rfl (ok_some ⟨l2, rfl⟩))
       refine ok_b (m_within _ _ _ _) (fun a1 => ok_ite_f (by decide) ?_) (fun z => ok_ite_t rfl (ok_some ⟨l2, rfl⟩))
       exfalso
       first | exact hk a0 | exact hv a1)

theorem op_helper (I : Inv M) (h : Int) : Alk (f_X10_helper h M) (f_X11_helper h) := by
  obtain ⟨n, hn⟩ : ∃ n : Nat, M 80 50 = (n : Int) := ⟨(M 80 50).toNat, by have := I.2.1.o7.2.1; omega⟩
  have hn6 : n ≤ 6 := by have := I.2.1.o7.2.2; omega
  have h51 : M 51 0 = (n : Int) := I.2.1.o7.1.trans hn
  by_cases hh : 1 ≤ h ∧ h ≤ 60
  · obtain ⟨h, rfl, hh1, hh2⟩ := nat_le (lo := 1) (n := 60) hh
    by_cases hfull : n < 6
    · unfold Alk f_X10_helper
      refine ok_b (c_within _ _ _ _) (fun _ => ok_ite_f (by decide) ?_) (fun z => absurd hh z)
      unfold f_X3_add
      rw [h51, toN]
      refine ok_bnd (P := fun q => q.1 = (n : Int) ∧ (∀ c i, ¬ ((c = 51 ∧ i = 0) ∨ (c = 52 ∧ i = n)) → q.2 c i = M c i) ∧ q.2 51 0 = ((n + 1 : Nat) : Int) ∧ q.2 52 n = (h : Int)) ?_ (fun r M1 hM1 => ok_some ?_)
      · refine ok_ite_t (by omega) (ok_gd (by omega) (ok_lt ?_))
        obtain ⟨M1, e1, f1, v1⟩ := mup_gen M 52 n (h : Int)
        rw [e1]; clear e1
        have s1 : M1 51 0 = (n : Int) := by rw [f1 _ _ (by omega)]; exact h51
        rw [s1, wrap_n1 (by omega)]
        refine ok_lt ?_
        obtain ⟨M2, e2, f2, v2⟩ := mup_gen M1 51 0 ((n + 1 : Nat) : Int)
        rw [e2]; clear e2
        rw [v2, wrap_of (by omega) (by omega)]
        refine ok_some ⟨by show ((n + 1 : Nat) : Int) - 1 = _; omega, fun c i q => ?_, v2, ?_⟩
        · try dsimp only
          (try dsimp only) <;> (rw [f2 _ _ (by first | (rintro ⟨rfl, rfl⟩; ((first | (refine absurd ?_ z; clear z) | (refine absurd ?_ q; clear q)); (first | (simp; done) | (simp [*]; done) | omega)); done) | (rintro (⟨rfl, rfl⟩ | ⟨rfl, h1, h2⟩) <;> ((first | (refine absurd ?_ z; clear z) | (refine absurd ?_ q; clear q)); (first | (simp; done) | (simp [*]; done) | omega))) | (rintro (⟨rfl, rfl⟩ | ⟨rfl, rfl⟩) <;> ((first | (refine absurd ?_ z; clear z) | (refine absurd ?_ q; clear q)); (first | (simp; done) | (simp [*]; done) | omega))) | omega), f1 _ _ (by first | (rintro ⟨rfl, rfl⟩; ((first | (refine absurd ?_ z; clear z) | (refine absurd ?_ q; clear q)); (first | (simp; done) | (simp [*]; done) | omega)); done) | (rintro (⟨rfl, rfl⟩ | ⟨rfl, h1, h2⟩) <;> ((first | (refine absurd ?_ z; clear z) | (refine absurd ?_ q; clear q)); (first | (simp; done) | (simp [*]; done) | omega))) | (rintro (⟨rfl, rfl⟩ | ⟨rfl, rfl⟩) <;> ((first | (refine absurd ?_ z; clear z) | (refine absurd ?_ q; clear q)); (first | (simp; done) | (simp [*]; done) | omega))) | omega)])
        · try dsimp only
          (try dsimp only) <;> (rw [f2 _ _ (by first | simp | omega)])
          exact v1
      · obtain ⟨hr, f1, w1, w2⟩ := hM1
        dsimp only at hr f1 w1 w2 ⊢
        subst hr
        unfold f_X11_helper
        obtain ⟨N2, e2, g2⟩ := th0 M1
        refine ok_lt ?_
        rw [e2]; clear e2
        refine ok_b (m_within _ _ _ _) (fun _ => ok_ite_f (by decide) ?_) (fun z => absurd hh z)
        have s2 : N2 80 50 = (n : Int) := by rw [g2 _ _ (by omega), f1 _ _ (by omega)]; exact hn
        rw [s2, toN]
        refine ok_ite_f (by omega) (ok_gd (by omega) (ok_lt ?_))
        obtain ⟨N3, e3, g3, x3⟩ := mup_gen N2 112 n (h : Int)
        rw [e3]; clear e3
        have s3 : N3 80 50 = (n : Int) := by rw [g3 _ _ (by omega)]; exact s2
        rw [s3, wrap_n1 (by omega)]
        refine ok_lt ?_
        obtain ⟨N4, e4, g4, x4⟩ := mup_gen N3 80 50 ((n + 1 : Nat) : Int)
        rw [e4]; clear e4
        rw [x4, wrap_of (by omega) (by omega)]
        refine ok_some ⟨by show ((n + 1 : Nat) : Int) - 1 = _; omega, up_helper (n := n) (v := h) hn hfull ⟨hh1, hh2⟩ I (fun c i q => ?_) ?_ x4 ?_ ?_⟩
        · (try dsimp only) <;> (rw [g4 _ _ (by first | (rintro ⟨rfl, rfl⟩; ((first | (refine absurd ?_ z; clear z) | (refine absurd ?_ q; clear q)); (first | (simp; done) | (simp [*]; done) | omega)); done) | (rintro (⟨rfl, rfl⟩ | ⟨rfl, h1, h2⟩) <;> ((first | (refine absurd ?_ z; clear z) | (refine absurd ?_ q; clear q)); (first | (simp; done) | (simp [*]; done) | omega))) | (rintro (⟨rfl, rfl⟩ | ⟨rfl, rfl⟩) <;> ((first | (refine absurd ?_ z; clear z) | (refine absurd ?_ q; clear q)); (first | (simp; done) | (simp [*]; done) | omega))) | omega), g3 _ _ (by first | (rintro ⟨rfl, rfl⟩; ((first | (refine absurd ?_ z; clear z) | (refine absurd ?_ q; clear q)); (first | (simp; done) | (simp [*]; done) | omega)); done) | (rintro (⟨rfl, rfl⟩ | ⟨rfl, h1, h2⟩) <;> ((first | (refine absurd ?_ z; clear z) | (refine absurd ?_ q; clear q)); (first | (simp; done) | (simp [*]; done) | omega))) | (rintro (⟨rfl, rfl⟩ | ⟨rfl, rfl⟩) <;> ((first | (refine absurd ?_ z; clear z) | (refine absurd ?_ q; clear q)); (first | (simp; done) | (simp [*]; done) | omega))) | omega), g2 _ _ (by first | (rintro ⟨rfl, rfl⟩; ((first | (refine absurd ?_ z; clear z) | (refine absurd ?_ q; clear q)); (first | (simp; done) | (simp [*]; done) | omega)); done) | (rintro (⟨rfl, rfl⟩ | ⟨rfl, h1, h2⟩) <;> ((first | (refine absurd ?_ z; clear z) | (refine absurd ?_ q; clear q)); (first | (simp; done) | (simp [*]; done) | omega))) | (rintro (⟨rfl, rfl⟩ | ⟨rfl, rfl⟩) <;> ((first | (refine absurd ?_ z; clear z) | (refine absurd ?_ q; clear q)); (first | (simp; done) | (simp [*]; done) | omega))) | omega), f1 _ _ (by first | (rintro ⟨rfl, rfl⟩; ((first | (refine absurd ?_ z; clear z) | (refine absurd ?_ q; clear q)); (first | (simp; done) | (simp [*]; done) | omega)); done) | (rintro (⟨rfl, rfl⟩ | ⟨rfl, h1, h2⟩) <;> ((first | (refine absurd ?_ z; clear z) | (refine absurd ?_ q; clear q)); (first | (simp; done) | (simp [*]; done) | omega))) | (rintro (⟨rfl, rfl⟩ | ⟨rfl, rfl⟩) <;> ((first | (refine absurd ?_ z; clear z) | (refine absurd ?_ q; clear q)); (first | (simp; done) | (simp [*]; done) | omega))) | omega)])
        · (try dsimp only) <;> (rw [g4 _ _ (by first | simp | omega), g3 _ _ (by first | simp | omega), g2 _ _ (by first | simp | omega)])
          exact w1
        · (try dsimp only) <;> (rw [g4 _ _ (by first | simp | omega), g3 _ _ (by first | simp | omega), g2 _ _ (by first | simp | omega)])
          exact w2
        · (try dsimp only) <;> (rw [g4 _ _ (by first | simp | omega)])
          exact x3
    · refine alk_ro (ans := -1) I ?_ (fun M1 h1 => ?_)
      · unfold f_X10_helper
        refine ok_b (c_within _ _ _ _) (fun _ => ok_ite_f (by decide) ?_) (fun z => absurd hh z)
        unfold f_X3_add
        rw [h51]
        exact ok_bnd (P := fun q => q = (-1, M)) (ok_ite_f (by omega) (ok_some rfl)) (fun r M2 hM2 => ok_some (by cases hM2; exact ⟨lvC.rf M, rfl⟩))
      · unfold f_X11_helper
        obtain ⟨M2, e2, H2, f2, l2, g2⟩ := m_start I h1
        refine ok_lt ?_
        rw [e2, g2 80 50 (by omega) (by omega), hn]
        refine ok_b (m_within _ _ _ _) (fun _ => ok_ite_f (by decide) ?_) (fun z => absurd hh z)
        exact ok_ite_t (by omega) (ok_some ⟨l2, rfl⟩)
  all_goals (refine alk_ro (ans := -1) I ?_ (fun M1 h1 => ?_))
  all_goals first
    | (unfold f_X10_helper
       refine ok_b (c_within _ _ _ _) (fun a0 => ok_ite_f (by decide) ?_) (fun z => ok_ite_t rfl (ok_some ⟨lvC.rf M, rfl⟩))
       exfalso
       first | exact hh a0)
    | (unfold f_X11_helper
       obtain ⟨M2, e2, H2, f2, l2, g2⟩ := m_start I h1
       refine ok_lt ?_
       rw [e2]
       refine ok_b (m_within _ _ _ _) (fun a0 => ok_ite_f (by decide) ?_) (fun z => ok_ite_t rfl (ok_some ⟨l2, rfl⟩))
       exfalso
       first | exact hh a0)

theorem op_end (I : Inv M) (n : Int) : Alk (f_X10_end n M) (f_X11_end n) := by
  have o9 := I.2.1.o9
  unfold A9 at o9
  by_cases hh : 0 ≤ n ∧ n ≤ M 80 32
  · obtain ⟨n, rfl⟩ : ∃ k : Nat, n = (k : Int) := ⟨n.toNat, by omega⟩
    unfold Alk f_X10_end
    rw [o9.1]
    refine ok_b (c_within _ _ _ _) (fun _ => ok_ite_f (by decide) ?_) (fun z => absurd hh z)
    refine ok_lt ?_
    obtain ⟨M1, e1, f1, v1⟩ := mup_gen M 24 0 (n : Int)
    rw [e1]; clear e1
    refine ok_some ?_
    unfold f_X11_end
    obtain ⟨N2, e2, g2⟩ := th0 M1
    refine ok_lt ?_
    rw [e2, g2 80 32 (by omega), f1 80 32 (by omega)]; clear e2
    refine ok_b (m_within _ _ _ _) (fun _ => ok_ite_f (by decide) ?_) (fun z => absurd hh z)
    refine ok_lt ?_
    obtain ⟨N3, e3, g3, x3⟩ := mup_gen N2 80 32 (n : Int)
    rw [e3]; clear e3
    refine ok_some ⟨rfl, up_end (v := n) hh.2 I (fun c i q => ?_) ?_ x3⟩
    · (try dsimp only) <;> (rw [g3 _ _ (by first | (rintro ⟨rfl, rfl⟩; ((first | (refine absurd ?_ z; clear z) | (refine absurd ?_ q; clear q)); (first | (simp; done) | (simp [*]; done) | omega)); done) | (rintro (⟨rfl, rfl⟩ | ⟨rfl, h1, h2⟩) <;> ((first | (refine absurd ?_ z; clear z) | (refine absurd ?_ q; clear q)); (first | (simp; done) | (simp [*]; done) | omega))) | (rintro (⟨rfl, rfl⟩ | ⟨rfl, rfl⟩) <;> ((first | (refine absurd ?_ z; clear z) | (refine absurd ?_ q; clear q)); (first | (simp; done) | (simp [*]; done) | omega))) | omega), g2 _ _ (by first | (rintro ⟨rfl, rfl⟩; ((first | (refine absurd ?_ z; clear z) | (refine absurd ?_ q; clear q)); (first | (simp; done) | (simp [*]; done) | omega)); done) | (rintro (⟨rfl, rfl⟩ | ⟨rfl, h1, h2⟩) <;> ((first | (refine absurd ?_ z; clear z) | (refine absurd ?_ q; clear q)); (first | (simp; done) | (simp [*]; done) | omega))) | (rintro (⟨rfl, rfl⟩ | ⟨rfl, rfl⟩) <;> ((first | (refine absurd ?_ z; clear z) | (refine absurd ?_ q; clear q)); (first | (simp; done) | (simp [*]; done) | omega))) | omega), f1 _ _ (by first | (rintro ⟨rfl, rfl⟩; ((first | (refine absurd ?_ z; clear z) | (refine absurd ?_ q; clear q)); (first | (simp; done) | (simp [*]; done) | omega)); done) | (rintro (⟨rfl, rfl⟩ | ⟨rfl, h1, h2⟩) <;> ((first | (refine absurd ?_ z; clear z) | (refine absurd ?_ q; clear q)); (first | (simp; done) | (simp [*]; done) | omega))) | (rintro (⟨rfl, rfl⟩ | ⟨rfl, rfl⟩) <;> ((first | (refine absurd ?_ z; clear z) | (refine absurd ?_ q; clear q)); (first | (simp; done) | (simp [*]; done) | omega))) | omega)])
    · (try dsimp only) <;> (rw [g3 _ _ (by first | simp | omega), g2 _ _ (by first | simp | omega)])
      exact v1
  · refine alk_ro (ans := -1) I ?_ (fun M1 h1 => ?_)
    · unfold f_X10_end
      rw [o9.1]
      exact ok_b (c_within _ _ _ _) (fun z => absurd z hh) (fun z => ok_ite_t rfl (ok_some ⟨lvC.rf M, rfl⟩))
    · unfold f_X11_end
      obtain ⟨M2, e2, H2, f2, l2, g2⟩ := m_start I h1
      refine ok_lt ?_
      rw [e2, g2 80 32 (by omega) (by omega)]
      exact ok_b (m_within _ _ _ _) (fun z => absurd z hh) (fun z => ok_ite_t rfl (ok_some ⟨l2, rfl⟩))

end TELL2
