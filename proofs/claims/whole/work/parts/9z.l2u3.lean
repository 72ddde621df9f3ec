/-! of: the class answers or throws, the model answers and says whether it threw -/
def AlkX (x : Option Res) (y : Mem → Option Res) : Prop := Okk x (fun q => Okk (y q.2) (fun q2 => Inv q2.2 ∧ ((q.1 = 2147483648 ∧ q2.2 80 0 = 1) ∨ (q2.2 80 0 = 0 ∧ q2.1 = q.1))))
section OFX
variable {M : Mem}
def ofS (M : Mem) (c : Nat) (w : Int) : Int := if w = 0 then M 81 c else if w = 1 then M 82 c else if w = 2 then M 84 c else if w = 3 then M 85 c else if w = 7 then M 83 c else if w = 8 then cnt (fun b => M 89 (14 * c + b) = 1) (nK M) else if w = 9 then cnt (fun b => M 88 (14 * c + b) = 1) (nK M) else if w = 10 then namedS M c else if w = 11 then M 114 c else if w = 12 then M 115 c else M 86 (3 * c + (w - 4).toNat)
theorem of_place {c : Nat} (hc : c < 14) {w : Int} (hw : 4 ≤ w ∧ w ≤ 6) : wrap (wrap (wrap ((c : Int) * 3) + w) - 4) = ((3 * c + (w - 4).toNat : Nat) : Int) := by
  rw [wrap_of (x := (c : Int) * 3) (by omega) (by omega), wrap_of (x := (c : Int) * 3 + w) (by omega) (by omega), wrap_of (by omega) (by omega)]
  omega
theorem of_place2 {c : Nat} (hc : c < 14) {w : Int} (hw : 4 ≤ w ∧ w ≤ 6) : wrap (wrap (wrap (3 * (c : Int)) + w) - 4) = ((3 * c + (w - 4).toNat : Nat) : Int) := by
  rw [wrap_of (x := 3 * (c : Int)) (by omega) (by omega), wrap_of (x := 3 * (c : Int) + w) (by omega) (by omega), wrap_of (by omega) (by omega)]
  omega
theorem d3_far {y : Nat} (I : Fa M) (h : D3 y M) {a b : Nat} (ha : a < 14) (hb : b < 14) (hn : nK M ≤ b) : ¬ M y (14 * a + b) = 1 := by
  have := ((h a b ha hb).2.2 (Or.inr (Or.inr (by rw [← I.n]; omega))))
  omega
theorem d3_cnt {x y : Nat} (I : Fa M) (h1 : D1 x y M) (h3 : D3 y M) {a : Nat} (ha : a < 14) (M' : Mem) : f_J6_bitCount_0f7a4 (M x a) M' = some (cnt (fun b => M y (14 * a + b) = 1) (nK M)) := by
  have hn := I.n14
  rw [mIs_cnt (h1 a ha).m]
  refine congrArg some ?_
  refine (cnt_congr (q := fun b => M y (14 * a + b) = 1) (fun c hc => by simp)).trans ?_
  exact cnt_far hn (fun k h1 h2 => d3_far I h3 ha h2 h1)
theorem w13 {w : Int} (h : 0 ≤ w ∧ w ≤ 12) : w = 0 ∨ w = 1 ∨ w = 2 ∨ w = 3 ∨ w = 4 ∨ w = 5 ∨ w = 6 ∨ w = 7 ∨ w = 8 ∨ w = 9 ∨ w = 10 ∨ w = 11 ∨ w = 12 := by omega
set_option maxHeartbeats 1000000 in
theorem c_of (I : Inv M) {c : Nat} (hc : c < nK M) {w : Int} (hw : 0 ≤ w ∧ w ≤ 12) : Okk (f_X10_of (c : Int) w M) (fun q => q = (ofS M c w, M)) := by
  have h14 := I.1.n14
  have hc14 : c < 14 := by omega
  unfold f_X10_of
  refine ok_b (c2_has I.cf c) (fun h => ok_ite_f (by decide) ?_) (fun h => absurd h (by omega))
  refine ok_b (c_within _ _ _ _) (fun h => ok_ite_f (by decide) ?_) (fun h => absurd hw h)
  rcases w13 hw with rfl | rfl | rfl | rfl | rfl | rfl | rfl | rfl | rfl | rfl | rfl | rfl | rfl
  · (repeat' (first | (with_reducible refine ok_ite_t (by decide) ?_) | (with_reducible refine ok_ite_f (by decide) ?_)))
    exact ok_gd (by omega) (ok_some (congrArg (fun x => (x, M)) (I.1.e4 c)))
  · (repeat' (first | (with_reducible refine ok_ite_t (by decide) ?_) | (with_reducible refine ok_ite_f (by decide) ?_)))
    exact ok_gd (by omega) (ok_some (congrArg (fun x => (x, M)) (I.1.e5 c)))
  · (repeat' (first | (with_reducible refine ok_ite_t (by decide) ?_) | (with_reducible refine ok_ite_f (by decide) ?_)))
    exact ok_gd (by omega) (ok_some (congrArg (fun x => (x, M)) (I.1.e7 c)))
  · (repeat' (first | (with_reducible refine ok_ite_t (by decide) ?_) | (with_reducible refine ok_ite_f (by decide) ?_)))
    exact ok_gd (by omega) (ok_some (congrArg (fun x => (x, M)) (I.1.e8 c)))
  · (repeat' (first | (with_reducible refine ok_ite_t (by decide) ?_) | (with_reducible refine ok_ite_f (by decide) ?_)))
    rw [of_place hc14 (by decide), toN]
    exact ok_gd (by omega) (ok_some (congrArg (fun x => (x, M)) (I.1.e9 _)))
  · (repeat' (first | (with_reducible refine ok_ite_t (by decide) ?_) | (with_reducible refine ok_ite_f (by decide) ?_)))
    rw [of_place hc14 (by decide), toN]
    exact ok_gd (by omega) (ok_some (congrArg (fun x => (x, M)) (I.1.e9 _)))
  · (repeat' (first | (with_reducible refine ok_ite_t (by decide) ?_) | (with_reducible refine ok_ite_f (by decide) ?_)))
    rw [of_place hc14 (by decide), toN]
    exact ok_gd (by omega) (ok_some (congrArg (fun x => (x, M)) (I.1.e9 _)))
  · (repeat' (first | (with_reducible refine ok_ite_t (by decide) ?_) | (with_reducible refine ok_ite_f (by decide) ?_)))
    exact ok_gd (by omega) (ok_some (congrArg (fun x => (x, M)) (I.1.e6 c)))
  · (repeat' (first | (with_reducible refine ok_ite_t (by decide) ?_) | (with_reducible refine ok_ite_f (by decide) ?_)))
    exact ok_gd (by omega) (ok_e (d3_cnt I.1 I.1.d2 I.1.d5 hc14 M) (ok_some rfl))
  · (repeat' (first | (with_reducible refine ok_ite_t (by decide) ?_) | (with_reducible refine ok_ite_f (by decide) ?_)))
    exact ok_gd (by omega) (ok_e (d3_cnt I.1 I.1.d1 I.1.d4 hc14 M) (ok_some rfl))
  · (repeat' (first | (with_reducible refine ok_ite_t (by decide) ?_) | (with_reducible refine ok_ite_f (by decide) ?_)))
    exact ok_e (c_naming I.cf c) (ok_some rfl)
  · (repeat' (first | (with_reducible refine ok_ite_t (by decide) ?_) | (with_reducible refine ok_ite_f (by decide) ?_)))
    exact ok_gd (by omega) (ok_some (congrArg (fun x => (x, M)) (I.2.1.e14 c)))
  · (repeat' (first | (with_reducible refine ok_ite_t (by decide) ?_) | (with_reducible refine ok_ite_f (by decide) ?_)))
    exact ok_gd (by omega) (ok_some (congrArg (fun x => (x, M)) (I.2.1.e15 c)))
theorem m_many {M2 : Mem} {y : Nat} (hy : aln y = 196) (H : MF M M2) (h3 : D3 y M) (hc : ∀ i, M2 y i = M y i) {a : Nat} (ha : a < 14) : f_X11_many y (a : Int) M2 = some (cnt (fun b => M y (14 * a + b) = 1) (nK M)) := by
  have hn := H.1.n14
  unfold f_X11_many f_X11_many_l5
  refine (obn_e _ (whl_cnt (n := nK M) (by omega) (fun b => M y (14 * a + b) = 1) (fun k hk v h0 h1 => ?_) (fun v => ?_))).trans rfl
  · unfold f_X11_many_s5
    have z := (h3 a k ha (by omega)).1
    rw [H.n, wrap_of (x := 14 * (a : Int)) (by omega) (by omega), wrap_of (x := 14 * (a : Int) + (k : Int)) (by omega) (by omega), show 14 * (a : Int) + (k : Int) = ((14 * a + k : Nat) : Int) by omega, toN, hc, hy]
    refine ok_ite_f (by omega) (ok_gd (by omega) (ok_ite (fun h => ?_) (fun h => ?_)))
    · rw [if_neg (by omega), wrap_of (x := v + 0) (by omega) (by omega), wrap_of (x := (k : Int) + 1) (by omega) (by omega)]
      exact ok_lt (ok_lt (ok_some rfl))
    · rw [if_pos (by rcases z with z | z; exact absurd z h; exact z), wrap_of (x := v + 1) (by omega) (by omega), wrap_of (x := (k : Int) + 1) (by omega) (by omega)]
      exact ok_lt (ok_lt (ok_some rfl))
  · unfold f_X11_many_s5
    rw [H.n]
    exact ok_ite_t (by omega) (ok_some rfl)
set_option maxHeartbeats 1000000 in
theorem m_ofj (I : Inv M) {c : Nat} (hc : c < nK M) {w : Int} (hw : 0 ≤ w ∧ w ≤ 12) : Okk (f_X11_of_j34 (c : Int) w 1 0 M) (fun q2 => Inv q2.2 ∧ q2.2 80 0 = 0 ∧ q2.1 = ofS M c w) := by
  have h14 := I.1.n14
  have hc14 : c < 14 := by omega
  unfold f_X11_of_j34
  obtain ⟨M2, e2, H2, f2, l2, g2⟩ := m_start I (lvC.rf M)
  refine ok_lt ?_
  have t2 : M2 80 0 = 0 := by rw [← e2]; exact mup_s _ _ _ _
  have i2 : Inv M2 := I.congr (fun c i z => l2 c i z)
  rw [e2]
  refine ok_ite_f (by decide) ?_
  rcases w13 hw with rfl | rfl | rfl | rfl | rfl | rfl | rfl | rfl | rfl | rfl | rfl | rfl | rfl
  · (repeat' (first | (with_reducible refine ok_ite_t (by decide) ?_) | (with_reducible refine ok_ite_f (by decide) ?_)))
    exact ok_gd (by omega) (ok_some ⟨i2, t2, f2 _ _ (by omega)⟩)
  · (repeat' (first | (with_reducible refine ok_ite_t (by decide) ?_) | (with_reducible refine ok_ite_f (by decide) ?_)))
    exact ok_gd (by omega) (ok_some ⟨i2, t2, f2 _ _ (by omega)⟩)
  · (repeat' (first | (with_reducible refine ok_ite_t (by decide) ?_) | (with_reducible refine ok_ite_f (by decide) ?_)))
    exact ok_gd (by omega) (ok_some ⟨i2, t2, f2 _ _ (by omega)⟩)
  · (repeat' (first | (with_reducible refine ok_ite_t (by decide) ?_) | (with_reducible refine ok_ite_f (by decide) ?_)))
    exact ok_gd (by omega) (ok_some ⟨i2, t2, f2 _ _ (by omega)⟩)
  · (repeat' (first | (with_reducible refine ok_ite_t (by decide) ?_) | (with_reducible refine ok_ite_f (by decide) ?_)))
    rw [of_place2 hc14 (by decide), toN]
    exact ok_gd (by omega) (ok_some ⟨i2, t2, f2 _ _ (by omega)⟩)
  · (repeat' (first | (with_reducible refine ok_ite_t (by decide) ?_) | (with_reducible refine ok_ite_f (by decide) ?_)))
    rw [of_place2 hc14 (by decide), toN]
    exact ok_gd (by omega) (ok_some ⟨i2, t2, f2 _ _ (by omega)⟩)
  · (repeat' (first | (with_reducible refine ok_ite_t (by decide) ?_) | (with_reducible refine ok_ite_f (by decide) ?_)))
    rw [of_place2 hc14 (by decide), toN]
    exact ok_gd (by omega) (ok_some ⟨i2, t2, f2 _ _ (by omega)⟩)
  · (repeat' (first | (with_reducible refine ok_ite_t (by decide) ?_) | (with_reducible refine ok_ite_f (by decide) ?_)))
    exact ok_gd (by omega) (ok_some ⟨i2, t2, f2 _ _ (by omega)⟩)
  · (repeat' (first | (with_reducible refine ok_ite_t (by decide) ?_) | (with_reducible refine ok_ite_f (by decide) ?_)))
    exact ok_e (m_many rfl H2 I.1.d5 (fun i => f2 _ _ (by omega)) hc14) (ok_some ⟨i2, t2, rfl⟩)
  · (repeat' (first | (with_reducible refine ok_ite_t (by decide) ?_) | (with_reducible refine ok_ite_f (by decide) ?_)))
    exact ok_e (m_many rfl H2 I.1.d4 (fun i => f2 _ _ (by omega)) hc14) (ok_some ⟨i2, t2, rfl⟩)
  · (repeat' (first | (with_reducible refine ok_ite_t (by decide) ?_) | (with_reducible refine ok_ite_f (by decide) ?_)))
    exact ok_e (m2_namedBy H2 c) (ok_some ⟨i2, t2, rfl⟩)
  · (repeat' (first | (with_reducible refine ok_ite_t (by decide) ?_) | (with_reducible refine ok_ite_f (by decide) ?_)))
    exact ok_gd (by omega) (ok_some ⟨i2, t2, f2 _ _ (by omega)⟩)
  · (repeat' (first | (with_reducible refine ok_ite_t (by decide) ?_) | (with_reducible refine ok_ite_f (by decide) ?_)))
    exact ok_gd (by omega) (ok_some ⟨i2, t2, f2 _ _ (by omega)⟩)
/-- the model says that it threw -/
theorem m_threw (I : Inv M) : ∃ M2, mup M 80 0 1 = M2 ∧ Inv M2 ∧ M2 80 0 = 1 := by
  refine ⟨_, rfl, I.congr (fun c i z => mup_o _ _ (by unfold isS isFa isO isX1 isX2 at z; omega)), mup_s _ _ _ _⟩
theorem m_of_t (I : Inv M) (c w : Int) : Okk (f_X11_of_j23 c w 0 M) (fun q2 => Inv q2.2 ∧ q2.2 80 0 = 1) := by
  unfold f_X11_of_j23
  refine ok_ite_t rfl ?_
  unfold f_X11_of_j34
  obtain ⟨M2, e2, i2, t2⟩ := m_threw I
  refine ok_lt ?_
  rw [e2]
  exact ok_ite_t rfl (ok_some ⟨i2, t2⟩)
theorem op_of (I : Inv M) (c w : Int) : AlkX (f_X10_of c w M) (f_X11_of c w) := by
  by_cases hc : 0 ≤ c ∧ c < (nK M : Int)
  · by_cases hw : 0 ≤ w ∧ w ≤ 12
    · obtain ⟨k, rfl, hk⟩ := nat_of hc
      refine ok_mono (c_of I hk hw) (fun q hq => ?_)
      subst hq
      show Okk (f_X11_of (k : Int) w M) _
      unfold f_X11_of
      refine ok_b (m2_isChild ((lvC.rf M).mf I) _) (fun _ => ok_ite_f (by decide) ?_) (fun h => absurd hc h)
      refine ok_b (m_within _ _ _ _) (fun _ => ok_ite_f (by decide) ?_) (fun h => absurd hw h)
      unfold f_X11_of_j23
      exact ok_ite_f (by decide) (ok_mono (m_ofj I hk hw) (fun q2 h => ⟨h.1, Or.inr ⟨h.2.1, h.2.2⟩⟩))
    · unfold AlkX f_X10_of
      refine ok_b (c2_has I.cf c) (fun _ => ok_ite_f (by decide) ?_) (fun h => absurd hc h)
      refine ok_b (c_within _ _ _ _) (fun h => absurd h hw) (fun _ => ok_ite_t rfl (ok_some ?_))
      show Okk (f_X11_of c w M) _
      unfold f_X11_of
      refine ok_b (m2_isChild ((lvC.rf M).mf I) _) (fun _ => ok_ite_f (by decide) ?_) (fun h => absurd hc h)
      refine ok_b (m_within _ _ _ _) (fun h => absurd h hw) (fun _ => ok_ite_t rfl ?_)
      exact ok_mono (m_of_t I c w) (fun q2 h => ⟨h.1, Or.inl ⟨rfl, h.2⟩⟩)
  · unfold AlkX f_X10_of
    refine ok_b (c2_has I.cf c) (fun h => absurd h hc) (fun _ => ok_ite_t rfl (ok_some ?_))
    show Okk (f_X11_of c w M) _
    unfold f_X11_of
    refine ok_b (m2_isChild ((lvC.rf M).mf I) _) (fun h => absurd h hc) (fun _ => ok_ite_t rfl ?_)
    exact ok_mono (m_of_t I c w) (fun q2 h => ⟨h.1, Or.inl ⟨rfl, h.2⟩⟩)
end OFX
