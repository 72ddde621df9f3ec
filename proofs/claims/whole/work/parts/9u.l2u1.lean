/-! rule: both sides -/
section RULE
variable {M N : Mem}
theorem m_cp84 (N : Mem) : Okk (f_X11_rule_l84 0 N) (fun s => (∀ c i, ¬ (97 ≤ c ∧ c ≤ 99 ∧ i < 16) → s.2 c i = N c i) ∧ ∀ c i, 97 ≤ c → c ≤ 99 → i < 16 → s.2 c i = N c (16 + i)) := by
  unfold f_X11_rule_l84
  refine ok_whl 16 (fun k s => s.1 = (k : Int) ∧ (∀ c i, ¬ (97 ≤ c ∧ c ≤ 99 ∧ i < k) → s.2 c i = N c i) ∧ ∀ c i, 97 ≤ c → c ≤ 99 → i < k → s.2 c i = N c (16 + i)) (FU_big (by omega)) ⟨rfl, fun _ _ _ => rfl, fun _ i _ _ hi => absurd hi (by omega)⟩ ?_
  rintro k ⟨u, N1⟩ hk ⟨hu, hf, hv⟩
  dsimp only at hu hf hv ⊢
  subst hu
  unfold f_X11_rule_s84
  refine ok_ite (fun z => ok_some ?_) (fun z => ?_)
  · have e : k = 16 := by omega
    subst e; exact ⟨hf, hv⟩
  have ek : wrap (16 + (k : Int)) = ((16 + k : Nat) : Int) := by rw [wrap_of (by omega) (by omega)]; omega
  rw [ek, toN, toN]
  obtain ⟨N2, e2, f2, v2⟩ := mup_gen N1 97 k (N1 97 (16 + k))
  refine ok_gd (by omega) (ok_gd (by omega) (ok_lt ?_))
  rw [e2]
  obtain ⟨N3, e3, f3, v3⟩ := mup_gen N2 98 k (N2 98 (16 + k))
  refine ok_gd (by omega) (ok_gd (by omega) (ok_lt ?_))
  rw [e3]
  obtain ⟨N4, e4, f4, v4⟩ := mup_gen N3 99 k (N3 99 (16 + k))
  refine ok_gd (by omega) (ok_gd (by omega) (ok_lt ?_))
  rw [e4, wrap_n1 (by omega)]
  refine ok_lt (ok_some ⟨by omega, rfl, fun c i q => ?_, fun c i c1 c2 hi => ?_⟩)
  · show N4 c i = _
    rw [f4 c i (by omega), f3 c i (by omega), f2 c i (by omega)]; exact hf c i (by omega)
  · show N4 c i = _
    by_cases e : i = k
    · subst e
      have hh : c = 97 ∨ c = 98 ∨ c = 99 := by omega
      rcases hh with rfl | rfl | rfl
      · rw [f4 _ _ (by omega), f3 _ _ (by omega), v2]; exact hf _ _ (by omega)
      · rw [f4 _ _ (by omega), v3, f2 _ _ (by omega)]; exact hf _ _ (by omega)
      · rw [v4, f3 _ _ (by omega), f2 _ _ (by omega)]; exact hf _ _ (by omega)
    · rw [f4 c i (by omega), f3 c i (by omega), f2 c i (by omega)]; exact hv c i c1 c2 (by omega)
theorem m_cp143 (N : Mem) : Okk (f_X11_rule_l143 0 N) (fun s => (∀ c i, ¬ (c = 100 ∧ i < 32) → s.2 c i = N c i) ∧ ∀ i, i < 32 → s.2 100 i = N 100 (32 + i)) := by
  unfold f_X11_rule_l143
  refine ok_whl 32 (fun k s => s.1 = (k : Int) ∧ (∀ c i, ¬ (c = 100 ∧ i < k) → s.2 c i = N c i) ∧ ∀ i, i < k → s.2 100 i = N 100 (32 + i)) (FU_big (by omega)) ⟨rfl, fun _ _ _ => rfl, fun i hi => absurd hi (by omega)⟩ ?_
  rintro k ⟨u, N1⟩ hk ⟨hu, hf, hv⟩
  dsimp only at hu hf hv ⊢
  subst hu
  unfold f_X11_rule_s143
  refine ok_ite (fun z => ok_some ?_) (fun z => ?_)
  · have e : k = 32 := by omega
    subst e; exact ⟨hf, hv⟩
  have ek : wrap (32 + (k : Int)) = ((32 + k : Nat) : Int) := by rw [wrap_of (by omega) (by omega)]; omega
  rw [ek, toN, toN]
  obtain ⟨N2, e2, f2, v2⟩ := mup_gen N1 100 k (N1 100 (32 + k))
  refine ok_gd (by omega) (ok_gd (by omega) (ok_lt ?_))
  rw [e2, wrap_n1 (by omega)]
  refine ok_lt (ok_some ⟨by omega, rfl, fun c i q => ?_, fun i hi => ?_⟩)
  · show N2 c i = _
    rw [f2 c i (by omega)]; exact hf c i (by omega)
  · show N2 100 i = _
    by_cases e : i = k
    · subst e
      rw [v2]; exact hf _ _ (by omega)
    · rw [f2 _ _ (by omega)]; exact hv i (by omega)
theorem m_cp172 (N : Mem) (hz : Zb N) : Okk (f_X11_rule_l172 0 N) (fun s => (∀ c i, ¬ (101 ≤ c ∧ c ≤ 104 ∧ i < 128) → s.2 c i = N c i) ∧ ∀ c i, 101 ≤ c → c ≤ 104 → i < 128 → s.2 c i = N c (128 + i)) := by
  unfold f_X11_rule_l172
  refine ok_whl 128 (fun k s => s.1 = (k : Int) ∧ (∀ c i, ¬ (101 ≤ c ∧ c ≤ 104 ∧ i < k) → s.2 c i = N c i) ∧ ∀ c i, 101 ≤ c → c ≤ 104 → i < k → s.2 c i = N c (128 + i)) (FU_big (by omega)) ⟨rfl, fun _ _ _ => rfl, fun _ i _ _ hi => absurd hi (by omega)⟩ ?_
  rintro k ⟨u, N1⟩ hk ⟨hu, hf, hv⟩
  dsimp only at hu hf hv ⊢
  subst hu
  unfold f_X11_rule_s172
  refine ok_ite (fun z => ok_some ?_) (fun z => ?_)
  · have e : k = 128 := by omega
    subst e; exact ⟨hf, hv⟩
  have ek : wrap (128 + (k : Int)) = ((128 + k : Nat) : Int) := by rw [wrap_of (by omega) (by omega)]; omega
  rw [ek, toN, toN]
  have z1 : isZ (N1 101 (128 + k)) := by rw [hf _ _ (by omega)]; exact hz _ (by omega)
  obtain ⟨N2, e2, f2, v2⟩ := mup_gen N1 101 k (N1 101 (128 + k))
  refine ok_gd (by omega) (ok_gd (by omega) (ok_gd z1 (ok_lt ?_)))
  rw [e2]
  obtain ⟨N3, e3, f3, v3⟩ := mup_gen N2 102 k (N2 102 (128 + k))
  refine ok_gd (by omega) (ok_gd (by omega) (ok_lt ?_))
  rw [e3]
  obtain ⟨N4, e4, f4, v4⟩ := mup_gen N3 103 k (N3 103 (128 + k))
  refine ok_gd (by omega) (ok_gd (by omega) (ok_lt ?_))
  rw [e4]
  obtain ⟨N5, e5, f5, v5⟩ := mup_gen N4 104 k (N4 104 (128 + k))
  refine ok_gd (by omega) (ok_gd (by omega) (ok_lt ?_))
  rw [e5, wrap_n1 (by omega)]
  refine ok_lt (ok_some ⟨by omega, rfl, fun c i q => ?_, fun c i c1 c2 hi => ?_⟩)
  · show N5 c i = _
    rw [f5 c i (by omega), f4 c i (by omega), f3 c i (by omega), f2 c i (by omega)]; exact hf c i (by omega)
  · show N5 c i = _
    by_cases e : i = k
    · subst e
      have hh : c = 101 ∨ c = 102 ∨ c = 103 ∨ c = 104 := by omega
      rcases hh with rfl | rfl | rfl | rfl
      · rw [f5 _ _ (by omega), f4 _ _ (by omega), f3 _ _ (by omega), v2]; exact hf _ _ (by omega)
      · rw [f5 _ _ (by omega), f4 _ _ (by omega), v3, f2 _ _ (by omega)]; exact hf _ _ (by omega)
      · rw [f5 _ _ (by omega), v4, f3 _ _ (by omega), f2 _ _ (by omega)]; exact hf _ _ (by omega)
      · rw [v5, f4 _ _ (by omega), f3 _ _ (by omega), f2 _ _ (by omega)]; exact hf _ _ (by omega)
    · rw [f5 c i (by omega), f4 c i (by omega), f3 c i (by omega), f2 c i (by omega)]; exact hv c i c1 c2 (by omega)
/-- a STATEMENT in its place -/
theorem stIs_of {r s : Nat} {Nf : Mem} (hs : s < 16) (h : stQ r s M N) (k1 : ∀ c i, r + 1 ≤ c → c ≤ r + 8 → Nf c i = M c i) (k2 : ∀ c i, 97 ≤ c → c ≤ 99 → i < 16 → Nf c i = N c (16 + i)) (k3 : ∀ i, i < 32 → Nf 100 i = N 100 (32 + i)) (k4 : ∀ c i, 101 ≤ c → c ≤ 104 → i < 128 → Nf c i = N c (128 + i)) : stIs r s Nf := by
  obtain ⟨h1, h2, h3, y1, y2, y3, y4⟩ := h
  have e97 := k2 97 s (by omega) (by omega) hs
  have e98 := k2 98 s (by omega) (by omega) hs
  have e99 := k2 99 s (by omega) (by omega) hs
  unfold stIs
  rw [e97, e98, e99, k1 (r + 1) s (by omega) (by omega), k1 (r + 2) s (by omega) (by omega), k1 (r + 3) s (by omega) (by omega)]
  refine ⟨⟨h1, h2, h3⟩, y1, y2, y3, fun w hw => ?_, fun w t hw ht hlt => ?_⟩
  · rw [k3 (2 * s + w) (by omega), k1 (r + 4) _ (by omega) (by omega)]
    refine ⟨fun z => ?_, fun z => (y4 w hw).2 z⟩
    obtain ⟨n, n1, n2, n3, n4⟩ := (y4 w hw).1 z
    rw [n2, n3]
    exact ⟨by omega, by omega, rfl⟩
  · rw [k3 (2 * s + w) (by omega)] at hlt
    by_cases z : hasTm (N 97 (16 + s)) w
    · obtain ⟨n, n1, n2, n3, n4⟩ := (y4 w hw).1 z
      rw [n3] at hlt
      obtain ⟨d1, d2, d3, d4, d5, d6⟩ := n4 t (by omega)
      rw [k4 101 _ (by omega) (by omega) (by omega), k4 102 _ (by omega) (by omega) (by omega), k4 103 _ (by omega) (by omega) (by omega), k4 104 _ (by omega) (by omega) (by omega), k1 (r + 5) _ (by omega) (by omega), k1 (r + 6) _ (by omega) (by omega), k1 (r + 7) _ (by omega) (by omega), k1 (r + 8) _ (by omega) (by omega)]
      exact ⟨d1.1, d1.2, ⟨d2.1, d2.2.1⟩, d2.2.2, d3, d4, d5, d6⟩
    · have := ((y4 w hw).2 z).1
      omega
theorem op_rule (I : Inv M) : Alk (f_X10_rule M) f_X11_rule := by
  have hru := I.1.r1.1
  have hru2 := I.1.r1.2.1
  have hne := I.1.r1.2.2.1
  have h21 := I.1.r1.2.2.2
  obtain ⟨r, hr⟩ : ∃ r : Nat, M 0 12 = (r : Int) := ⟨(M 0 12).toNat, by unfold isRu at hru2; omega⟩
  have hr2 : r = 62 ∨ r = 71 := by unfold isRu at hru2; omega
  obtain ⟨a, ea, c0, ec0, h0⟩ := rule_core I (N := M) (fun _ _ _ => rfl) hr hr2
  obtain ⟨ra, Ma⟩ := a
  unfold Alk f_X10_rule
  rw [hr]
  refine ok_gd (by unfold isRu; omega) (ok_be ea ?_)
  obtain ⟨M3, e3, f3, v3⟩ := mup_gen Ma 24 0 0
  refine ok_lt ?_
  rw [e3]
  have fa := h0.1
  dsimp only at fa
  -- the model behind it
  have model : ∀ (Mz : Mem) (Q : Res → Prop), (∀ c i, 80 ≤ c → Mz c i = M c i) → (∀ (c : Int × Mem), RuL r M Mz (ra, Ma) c → Zb c.2 → Okk (f_X11_rule_j50 c.2) Q) → Okk (f_X11_rule Mz) Q := fun Mz Q hz k => by
    obtain ⟨a', ea', c, ec, h⟩ := rule_core I hz hr hr2
    rw [ea] at ea'
    cases ea'
    rw [rule_mrl]
    refine ok_e ec (k c h (zb_mrl (fun i hi => ?_) c ec))
    rw [hz 101 i (by omega)]
    exact I.2.1.z1 i hi
  rcases h0.2.2.2 with ⟨g1, -, g3, g4⟩ | ⟨g1, -, n, n1, n2, -, -⟩
  · dsimp only at g1 g3 g4 ⊢
    have fr3 : ∀ c i, 80 ≤ c → M3 c i = M c i := fun c i hc => by rw [f3 c i (by omega)]; exact fa c i (by omega) (by omega) (by omega) (by omega)
    refine ok_ite_t g1 (ok_some (model M3 _ fr3 (fun c h hzb => ?_)))
    obtain ⟨p1, p2, p3, p4⟩ := h
    dsimp only at p1 p3 p4
    rcases p4 with ⟨-, q2, -, -⟩ | ⟨q1, -⟩
    · unfold f_X11_rule_j50
      obtain ⟨N2, e2, k2, w2⟩ := mup_gen c.2 80 32 0
      refine ok_lt ?_
      rw [e2, k2 80 33 (by omega), ← q2, f3 29 0 (by omega)]
      refine ok_ite_f (by omega) (ok_some ⟨rfl, up_rule_no I hr (fun x i q => ?_) w2 ?_ ?_ (fun i hi => ?_)⟩)
      · show N2 x i = _
        rw [k2 x i (by omega), p2 x i (by omega) (by omega) (by omega) (by omega), f3 x i (by omega)]
        exact fa x i (by omega) (by omega) (by omega) (by omega)
      · unfold A9
        show N2 24 0 = N2 80 32 ∧ 0 ≤ N2 80 32 ∧ N2 80 32 ≤ 400
        rw [w2, k2 24 0 (by omega), p2 24 0 (by omega) (by omega) (by omega) (by omega), v3]; omega
      · unfold A10
        show N2 29 1 = N2 80 34
        rw [k2 29 1 (by omega), p2 29 1 (by omega) (by omega) (by omega) (by omega), f3 29 1 (by omega), k2 80 34 (by omega)]; exact p3
      · show isZ (N2 101 i)
        rw [k2 101 i (by omega)]; exact hzb i hi
    · omega
  · dsimp only at g1 n2 ⊢
    have e11 : M3 0 11 = M 0 11 := by rw [f3 0 11 (by omega)]; exact fa 0 11 (by omega) (by omega) (by omega) (by omega)
    have e12 : M3 0 12 = (r : Int) := by rw [f3 0 12 (by omega), fa 0 12 (by omega) (by omega) (by omega) (by omega)]; exact hr
    rw [e11, e12]
    obtain ⟨M4, e4, f4, v4⟩ := mup_gen M3 0 11 (r : Int)
    refine ok_ite_f (by omega) (ok_gd hru (ok_gd (by unfold isRu; omega) (ok_lt ?_)))
    rw [e4]
    obtain ⟨M5, e5, f5, v5⟩ := mup_gen M4 0 12 (M 0 11)
    refine ok_lt ?_
    rw [e5]
    obtain ⟨M6, e6, f6, v6⟩ := mup_gen M5 0 16 0
    refine ok_lt ?_
    rw [e6]
    have z11 : M6 0 11 = (r : Int) := by rw [f6 0 11 (by omega), f5 0 11 (by omega)]; exact v4
    have z12 : M6 0 12 = M 0 11 := by rw [f6 0 12 (by omega)]; exact v5
    have fr6 : ∀ c i, ¬ (c = 0 ∧ (i = 11 ∨ i = 12 ∨ i = 16)) → ¬ (c = 24 ∧ i = 0) → M6 c i = Ma c i := fun c i q1 q2 => by rw [f6 c i (by omega), f5 c i (by omega), f4 c i (by omega), f3 c i (by omega)]
    rw [z11, toN, fr6 r 0 (by omega) (by omega), n2]
    refine ok_gd (by unfold isRu; omega) (ok_some (model M6 _ (fun c i hc => by rw [fr6 c i (by omega) (by omega)]; exact fa c i (by omega) (by omega) (by omega) (by omega)) (fun c h hzb => ?_)))
    obtain ⟨p1, p2, p3, p4⟩ := h
    dsimp only at p1 p3 p4
    rcases p4 with ⟨q1, -⟩ | ⟨-, q2, m, m1, m2, m3, m4⟩
    · omega
    · have emn : m = n := by omega
      subst emn
      unfold f_X11_rule_j50
      obtain ⟨N2, e2, k2, w2⟩ := mup_gen c.2 80 32 0
      refine ok_lt ?_
      rw [e2, k2 80 33 (by omega), q2]
      refine ok_ite_t (by omega) ?_
      rw [k2 80 22 (by omega), m3]
      obtain ⟨N3, e3', k3, w3⟩ := mup_gen N2 80 21 (m : Int)
      refine ok_lt ?_
      rw [e3']
      obtain ⟨N4, e4', k4, w4⟩ := mup_gen N3 80 43 0
      refine ok_lt ?_
      rw [e4']
      refine ok_obn (m_cp84 N4) (fun s5 h5 => ?_)
      obtain ⟨u5, N5⟩ := s5
      obtain ⟨k5, w5⟩ := h5
      dsimp only at k5 w5 ⊢
      unfold f_X11_rule_j141
      refine ok_obn (m_cp143 N5) (fun s6 h6 => ?_)
      obtain ⟨u6, N6⟩ := s6
      obtain ⟨k6, w6⟩ := h6
      dsimp only at k6 w6 ⊢
      unfold f_X11_rule_j170
      have z6 : Zb N6 := fun i hi => by rw [k6 101 i (by omega), k5 101 i (by omega), k4 101 i (by omega), k3 101 i (by omega), k2 101 i (by omega)]; exact hzb i hi
      refine ok_obn (m_cp172 N6 z6) (fun s7 h7 => ?_)
      obtain ⟨u7, N7⟩ := s7
      obtain ⟨k7, w7⟩ := h7
      dsimp only at k7 w7 ⊢
      unfold f_X11_rule_j249
      -- what has changed since the parser
      have fr7 : ∀ x i, ¬ (x = 80 ∧ (i = 32 ∨ i = 21 ∨ i = 43)) → ¬ (97 ≤ x ∧ x ≤ 99 ∧ i < 16) → ¬ (x = 100 ∧ i < 32) → ¬ (101 ≤ x ∧ x ≤ 104 ∧ i < 128) → N7 x i = c.2 x i := fun x i z1 z2 z3 z4 => by
        rw [k7 x i z4, k6 x i z3, k5 x i z2, k4 x i (by omega), k3 x i (by omega), k2 x i (by omega)]
      have lo7 : ∀ x i, x < 80 → N7 x i = M6 x i := fun x i hx => by
        rw [fr7 x i (by omega) (by omega) (by omega) (by omega)]
        exact p2 x i (by omega) (by omega) (by omega) (by omega)
      have v21 : N7 80 21 = (m : Int) := by
        rw [k7 80 21 (by omega), k6 80 21 (by omega), k5 80 21 (by omega), k4 80 21 (by omega)]; exact w3
      have v32 : N7 80 32 = 0 := by
        rw [k7 80 32 (by omega), k6 80 32 (by omega), k5 80 32 (by omega), k4 80 32 (by omega), k3 80 32 (by omega)]; exact w2
      have v43 : N7 80 43 = 0 := by
        rw [k7 80 43 (by omega), k6 80 43 (by omega), k5 80 43 (by omega)]; exact w4
      have t97 : ∀ x i, 97 ≤ x → x ≤ 99 → i < 16 → N7 x i = c.2 x (16 + i) := fun x i z1 z2 z3 => by
        rw [k7 x i (by omega), k6 x i (by omega), w5 x i z1 z2 z3, k4 _ _ (by omega), k3 _ _ (by omega), k2 _ _ (by omega)]
      have t100 : ∀ i, i < 32 → N7 100 i = c.2 100 (32 + i) := fun i z3 => by
        rw [k7 100 i (by omega), w6 i z3, k5 _ _ (by omega), k4 _ _ (by omega), k3 _ _ (by omega), k2 _ _ (by omega)]
      have t101 : ∀ x i, 101 ≤ x → x ≤ 104 → i < 128 → N7 x i = c.2 x (128 + i) := fun x i z1 z2 z3 => by
        rw [w7 x i z1 z2 z3, k6 _ _ (by omega), k5 _ _ (by omega), k4 _ _ (by omega), k3 _ _ (by omega), k2 _ _ (by omega)]
      rw [v21]
      refine ok_some ⟨rfl, up_rule_ok I hr (fun x i q => ?_) v32 ?_ ?_ (fun i hi => ?_) ?_ v43 ?_ ?_⟩
      · show N7 x i = _
        by_cases hx : x < 80
        · rw [lo7 x i hx, fr6 x i (by omega) (by omega)]
          exact fa x i (by omega) (by omega) (by omega) (by omega)
        · rw [fr7 x i (by omega) (by omega) (by omega) (by omega), p2 x i (by omega) (by omega) (by omega) (by omega), fr6 x i (by omega) (by omega)]
          exact fa x i (by omega) (by omega) (by omega) (by omega)
      · unfold A9
        show N7 24 0 = N7 80 32 ∧ 0 ≤ N7 80 32 ∧ N7 80 32 ≤ 400
        rw [v32, lo7 24 0 (by omega), f6 24 0 (by omega), f5 24 0 (by omega), f4 24 0 (by omega), v3]; omega
      · unfold A10
        show N7 29 1 = N7 80 34
        rw [lo7 29 1 (by omega), fr6 29 1 (by omega) (by omega), fr7 80 34 (by omega) (by omega) (by omega) (by omega)]; exact p3
      · show isZ (N7 101 i)
        by_cases z : i < 128
        · rw [t101 101 i (by omega) (by omega) z]; exact hzb _ (by omega)
        · rw [fr7 101 i (by omega) (by omega) (by omega) (by omega)]; exact hzb i hi
      · show N7 0 16 = 0
        rw [lo7 0 16 (by omega)]; exact v6
      · unfold R1
        show isRu (N7 0 11) ∧ isRu (N7 0 12) ∧ N7 0 11 ≠ N7 0 12 ∧ N7 (N7 0 11).toNat 0 = N7 80 21 ∧ 0 ≤ N7 80 21 ∧ N7 80 21 ≤ 16
        rw [v21, lo7 0 11 (by omega), lo7 0 12 (by omega), z11, z12, toN, lo7 r 0 (by omega), fr6 r 0 (by omega) (by omega), n2]
        refine ⟨by unfold isRu; omega, hru, fun z => hne (by rw [← z, hr]), rfl, by omega, by omega⟩
      · intro s hs
        show stIs (N7 0 11).toNat s N7
        have hs' : (s : Int) < N7 80 21 := hs
        rw [v21] at hs'
        rw [lo7 0 11 (by omega), z11, toN]
        exact stIs_of (by omega) (m4 s (by omega)) (fun x i z1 z2 => by rw [lo7 x i (by omega), fr6 x i (by omega) (by omega)]) t97 t100 t101
end RULE
