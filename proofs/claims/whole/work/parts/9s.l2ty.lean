/-! rule: both parsers, from the start on -/
section RULE
variable {M : Mem}
theorem c_next0 {b : Nat → Int} {L T : Nat} (X : LX b L T M) (h4 : M 29 4 = -1) : Okk (f_X6_next M) (fun M' => (∀ c i, ¬ (c = 29 ∧ 4 ≤ i ∧ i ≤ 7) → M' c i = M c i) ∧ PC b L T (skp b L 0) M') := by
  have LX2 := X
  obtain ⟨a1, a2, a3, a4, a5⟩ := X
  unfold f_X6_next
  rw [a1, h4, show wrap ((-1 : Int) + 1) = ((0 : Nat) : Int) by decide +kernel]
  refine ok_ite_f (by omega) ?_
  have en : skp b L 0 = stk b L 0 := rfl
  obtain ⟨b1, b2, b3⟩ := a5 0 (Nat.zero_le _)
  obtain ⟨M2, e2, f2, v2⟩ := mup_gen M 29 4 ((0 : Nat) : Int)
  refine ok_lt ?_
  rw [e2, v2, toN, f2 26 0 (by omega), b1]
  obtain ⟨M3, e3, f3, v3⟩ := mup_gen M2 29 5 (cdE b L (stk b L 0))
  refine ok_gd (by omega) (ok_lt ?_)
  rw [e3, f3 29 4 (by omega), v2, toN, f3 27 0 (by omega), f2 27 0 (by omega), b2]
  obtain ⟨M4, e4, f4, v4⟩ := mup_gen M3 29 6 (stk b L 0 : Int)
  refine ok_gd (by omega) (ok_lt ?_)
  rw [e4, f4 29 4 (by omega), f3 29 4 (by omega), v2, toN, f4 28 0 (by omega), f3 28 0 (by omega), f2 28 0 (by omega), b3]
  obtain ⟨M5, e5, f5, v5⟩ := mup_gen M4 29 7 (nmE b L (stk b L 0))
  refine ok_gd (by omega) (ok_lt ?_)
  rw [e5]
  have fr : ∀ c i, ¬ (c = 29 ∧ 4 ≤ i ∧ i ≤ 7) → M5 c i = M c i := fun c i q => by rw [f5 c i (by omega), f4 c i (by omega), f3 c i (by omega), f2 c i (by omega)]
  refine ok_some ⟨fr, LX2.fr (fr 24 2 (by omega)) (fun c i q1 q2 => fr c i (by omega)), 0, Nat.zero_le _, en, ?_, ?_, ?_, ?_⟩
  · rw [f5 29 4 (by omega), f4 29 4 (by omega), f3 29 4 (by omega)]; exact v2
  · rw [en, f5 29 5 (by omega), f4 29 5 (by omega)]; exact v3
  · rw [en, f5 29 6 (by omega)]; exact v4
  · rw [en]; exact v5
/-- what a run of both parsers leaves -/
def RuL (r : Nat) (M N : Mem) (a : Res) (c : Int × Mem) : Prop :=
  (∀ x i, x ≠ 29 → ¬ (r ≤ x ∧ x ≤ r + 8) → ¬ (x = 24 ∧ i = 2) → ¬ (26 ≤ x ∧ x ≤ 28) → a.2 x i = M x i) ∧
  (∀ x i, ¬ (x = 80 ∧ (i = 0 ∨ i = 22 ∨ (33 ≤ i ∧ i ≤ 38))) → ¬ (97 ≤ x ∧ x ≤ 99 ∧ 16 ≤ i) → ¬ (x = 100 ∧ 32 ≤ i) → ¬ (101 ≤ x ∧ x ≤ 104 ∧ 128 ≤ i) → c.2 x i = N x i) ∧
  a.2 29 1 = c.2 80 34 ∧
  ((a.1 = 0 ∧ a.2 29 0 = c.2 80 33 ∧ 1 ≤ a.2 29 0 ∧ a.2 29 0 ≤ 3) ∨ (a.1 = 1 ∧ c.2 80 33 = 0 ∧ ∃ n : Nat, n ≤ 16 ∧ a.2 r 0 = (n : Int) ∧ c.2 80 22 = (n : Int) ∧ ∀ s : Nat, s < n → stQ r s a.2 c.2))
noncomputable def mrl (N : Mem) : Option (Int × Mem) :=
  lt (mup N 80 0 0) fun M_2 => lt (mup M_2 80 33 0) fun M_3 => lt (mup M_3 80 34 (-1)) fun M_4 => lt (mup M_4 80 22 0) fun M_5 => lt (mup M_5 80 36 0) fun M_6 => obn (f_X11_next M_6) fun M_7 => f_X11_rule_l31 1 M_7
theorem rule_mrl (N : Mem) : f_X11_rule N = obn (mrl N) (fun s => f_X11_rule_j50 s.2) := by
  unfold f_X11_rule mrl lt
  dsimp only
  generalize f_X11_next (mup (mup (mup (mup (mup N 80 0 0) 80 33 0) 80 34 (-1)) 80 22 0) 80 36 0) = x
  cases x <;> rfl
theorem rule_core (I : Inv M) {N : Mem} (hN : ∀ c i, 80 ≤ c → N c i = M c i) {r : Nat} (hr : M 0 12 = (r : Int)) (hr2 : r = 62 ∨ r = 71) : Okk (f_X6_reads (r : Int) M) (fun a => Okk (mrl N) (fun c => RuL r M N a c)) := by
  have o9 := I.2.1.o9
  have t1 := I.2.1.t1
  unfold A9 at o9
  unfold T1 at t1
  obtain ⟨L, hL⟩ : ∃ L : Nat, M 80 32 = (L : Int) := ⟨(M 80 32).toNat, by omega⟩
  have TP0 : TP (fun i => M 25 i) L M := ⟨o9.1.trans hL, by omega, fun i hi => by have := t1 i (by omega); exact ⟨rfl, this.1, this.2.1⟩⟩
  have TM0 : TM (fun i => M 25 i) L N := ⟨(hN 80 32 (by omega)).trans hL, by omega, fun i hi => by have := t1 i (by omega); rw [hN 105 i (by omega)]; exact ⟨this.2.2, this.1, this.2.1⟩⟩
  -- the class, up to its loop
  unfold f_X6_reads
  obtain ⟨M1, e1, f1, v1⟩ := mup_gen M 29 3 (r : Int)
  refine ok_lt ?_
  rw [e1, v1]
  refine ok_gd (by unfold isRu; omega) (ok_obn (P := fun M2 => (∀ c i, ¬ (c = r ∧ i = 0) → ¬ (c = r + 4 ∧ i < 32) → M2 c i = M1 c i) ∧ M2 r 0 = 0 ∧ ∀ i, i < 32 → M2 (r + 4) i = 0) ?_ (fun M2 hM2 => ?_))
  · unfold f_X7_clear
    rw [toN]
    obtain ⟨M1', e1', f1', v1'⟩ := mup_gen M1 r 0 0
    refine ok_lt ?_
    rw [e1']
    have ha : aln (r + 4) = 32 := by rcases hr2 with rfl | rfl <;> decide +kernel
    refine ok_obn (c_fill (r + 4) (by rw [ha]; omega) 0 M1') (fun M2 hM2 => ok_some ?_)
    rw [ha] at hM2
    refine ⟨fun c i q1 q2 => ?_, ?_, fun i hi => ?_⟩
    · rw [hM2]
      show (if c = r + 4 ∧ i < 32 then (0 : Int) else M1' c i) = _
      rw [if_neg q2, f1' c i q1]
    · rw [hM2]
      show (if r = r + 4 ∧ 0 < 32 then (0 : Int) else M1' r 0) = _
      rw [if_neg (by omega), v1']
    · rw [hM2]
      show (if r + 4 = r + 4 ∧ i < 32 then (0 : Int) else M1' (r + 4) i) = _
      rw [if_pos ⟨rfl, hi⟩]
  obtain ⟨f2, v2, z2⟩ := hM2
  obtain ⟨M3, e3, f3, v3⟩ := mup_gen M2 29 0 0
  refine ok_lt ?_
  rw [e3]
  obtain ⟨M4, e4, f4, v4⟩ := mup_gen M3 29 1 (-1)
  refine ok_lt ?_
  rw [e4]
  have fr4 : ∀ c i, c ≠ 29 → ¬ (r ≤ c ∧ c ≤ r + 8) → M4 c i = M c i := fun c i q1 q2 => by rw [f4 c i (by omega), f3 c i (by omega), f2 c i (by omega) (by omega), f1 c i (by omega)]
  have TP4 : TP (fun i => M 25 i) L M4 := TP0.fr (fr4 24 0 (by omega) (by omega)) (fun i => fr4 25 i (by omega) (by omega))
  refine ok_obn (c_scan TP4) (fun M5 hM5 => ?_)
  obtain ⟨f5, T, LX5⟩ := hM5
  obtain ⟨M6, e6, f6, v6⟩ := mup_gen M5 29 4 (-1)
  refine ok_lt ?_
  rw [e6]
  have LX6 : LX (fun i => M 25 i) L T M6 := LX5.fr (f6 24 2 (by omega)) (fun c i q1 q2 => f6 c i (by omega))
  refine ok_obn (c_next0 LX6 v6) (fun M7 hM7 => ?_)
  obtain ⟨f7, P7⟩ := hM7
  have X7 : PCr (fun i => M 25 i) L T r (skp (fun i => M 25 i) L 0) M7 := ⟨hr2, P7, by rw [f7 29 3 (by omega), f6 29 3 (by omega), f5 29 3 (by omega), f4 29 3 (by omega), f3 29 3 (by omega), f2 29 3 (by omega) (by omega)]; exact v1⟩
  have fr7 : ∀ c i, c ≠ 29 → ¬ (r ≤ c ∧ c ≤ r + 8) → ¬ (c = 24 ∧ i = 2) → ¬ (26 ≤ c ∧ c ≤ 28) → M7 c i = M c i := fun c i q1 q2 q3 q4 => by rw [f7 c i (by omega), f6 c i (by omega), f5 c i (by omega)]; exact fr4 c i q1 q2
  have g291 : M7 29 1 = -1 := by rw [f7 29 1 (by omega), f6 29 1 (by omega), f5 29 1 (by omega)]; exact v4
  have gr0 : M7 r 0 = 0 := by rw [f7 r 0 (by omega), f6 r 0 (by omega), f5 r 0 (by omega), f4 r 0 (by omega), f3 r 0 (by omega)]; exact v2
  have gr4 : ∀ i, i < 32 → M7 (r + 4) i = 0 := fun i hi => by rw [f7 _ i (by omega), f6 _ i (by omega), f5 _ i (by omega), f4 _ i (by omega), f3 _ i (by omega)]; exact z2 i hi
  -- the model, up to its loop
  refine ok_sw ?_
  unfold mrl
  obtain ⟨N1, k1, g1, w1⟩ := mup_gen N 80 0 0
  refine ok_lt ?_
  rw [k1]
  obtain ⟨N2, k2, g2, w2⟩ := mup_gen N1 80 33 0
  refine ok_lt ?_
  rw [k2]
  obtain ⟨N3, k3, g3, w3⟩ := mup_gen N2 80 34 (-1)
  refine ok_lt ?_
  rw [k3]
  obtain ⟨N4, k4, g4, w4⟩ := mup_gen N3 80 22 0
  refine ok_lt ?_
  rw [k4]
  obtain ⟨N5, k5, g5, w5⟩ := mup_gen N4 80 36 0
  refine ok_lt ?_
  rw [k5]
  have fn5 : ∀ c i, ¬ (c = 80 ∧ (i = 0 ∨ i = 22 ∨ (33 ≤ i ∧ i ≤ 38))) → N5 c i = N c i := fun c i q => by rw [g5 c i (by omega), g4 c i (by omega), g3 c i (by omega), g2 c i (by omega), g1 c i (by omega)]
  have TM5 : TM (fun i => M 25 i) L N5 := TM0.fr (fn5 80 32 (by omega)) (fun i => fn5 105 i (by omega))
  refine ok_obn (m_next TM5 (p := 0) (Nat.zero_le _) w5) (fun N6 hN6 => ?_)
  obtain ⟨g6, ML6⟩ := hN6
  have n33 : N6 80 33 = 0 := by rw [g6 _ _ (by unfold isMx; omega), g5 _ _ (by omega), g4 _ _ (by omega), g3 _ _ (by omega)]; exact w2
  have n34 : N6 80 34 = -1 := by rw [g6 _ _ (by unfold isMx; omega), g5 _ _ (by omega), g4 _ _ (by omega)]; exact w3
  have n22 : N6 80 22 = 0 := by rw [g6 _ _ (by unfold isMx; omega), g5 _ _ (by omega)]; exact w4
  have Y6 : PNr (fun i => M 25 i) L (skp (fun i => M 25 i) L 0) N6 := ⟨TM5.fr (g6 80 32 (by unfold isMx; omega)) (fun i => g6 105 i (by unfold isMx; omega)), ML6, n33⟩
  have fn6 : ∀ c i, ¬ (c = 80 ∧ (i = 0 ∨ i = 22 ∨ (33 ≤ i ∧ i ≤ 38))) → N6 c i = N c i := fun c i q => by rw [g6 c i (by unfold isMx; omega)]; exact fn5 c i q
  refine ok_sw ?_
  obtain ⟨o, eo, c, ec, h⟩ := lk_all X7 Y6 n22 gr0 gr4
  rcases h with ⟨q, rfl, q1, q2, q3, q4, q5, q6⟩ | ⟨q, n, rfl, q1, q2, q3, q4, q5, q6, q7, q8, q9⟩
  · refine ⟨q, by rw [eo]; rfl, c, ec, fun x i z1 z2 z3 z4 => by rw [q5 x i z1 z2]; exact fr7 x i z1 z2 z3 z4, fun x i z1 z2 z3 z4 => by rw [q6 x i (by omega) z2 z3 z4]; exact fn6 x i z1, q4, Or.inl ⟨q1, q2, q3.1, q3.2⟩⟩
  · refine ⟨(1, q.2), by rw [eo]; rfl, c, ec, fun x i z1 z2 z3 z4 => by show q.2 x i = _; rw [q5 x i z1 z2]; exact fr7 x i z1 z2 z3 z4, fun x i z1 z2 z3 z4 => by rw [q6 x i (by omega) z2 z3 z4]; exact fn6 x i z1, by show q.2 29 1 = _; rw [q7 1 (by omega), g291, q8, n34], Or.inr ⟨rfl, q4, n, q1, q2, q3, q9⟩⟩
end RULE
