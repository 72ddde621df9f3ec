/-! close -/
theorem ov_served2 (a : Int) (A M : Mem) : f_X11_servedIn a (fun c i => if c < 80 ∨ c = 85 ∨ c = 87 then A c i else M c i) = f_X11_servedIn a M := rfl
theorem c_fill14 (a : Nat) (ha : aln a = 14) (N : Mem) : Okk (f_J7_fill_53178 a (-1) N) (fun N' => (∀ c i, ¬ (c = a ∧ i < 14) → N' c i = N c i) ∧ ∀ i, i < 14 → N' a i = -1) := by
  refine ok_mono (c_fill a (by omega) (-1) N) (fun N' h => ?_)
  rw [h, ha]
  exact ⟨fun c i q => by unfold mfill; rw [if_neg q], fun i hi => by unfold mfill; rw [if_pos ⟨rfl, hi⟩]⟩
section CLOSE
variable {M : Mem}
theorem op_close (I : Inv M) : Alk (f_X10_close M) f_X11_close := by
  have h14 := I.1.n14
  have hn := I.1.n
  have hk3 := I.1.k
  unfold Alk f_X10_close
  refine ok_e (c_countListed I.cf) ?_
  rw [cntl I]
  refine ok_ite (fun h0 => ok_some ?_) (fun h0 => ?_)
  · unfold f_X11_close
    obtain ⟨M2, e2, H2, f2, l2, g2⟩ := m_start I (lvC.rf M)
    refine ok_lt ?_
    try dsimp only
    rw [e2]
    refine ok_e (m_listed H2) ?_
    rw [show cnt (fun c => M2 110 c ≠ -1) (nK M) = cnt (fun c => M 110 c ≠ -1) (nK M) from cnt_congr (fun c _ => by rw [f2 110 c (by omega)])]
    exact ok_ite_t h0 (ok_some ⟨rfl, I.congr l2⟩)
  refine ok_obn (c_gather I.cf (fun c hc => by rw [I.l1]; exact I.lsb (by omega))) (fun M2 hM2 => ?_)
  obtain ⟨f2, g2⟩ := hM2
  rw [lsP_gp I] at g2
  have wd2 : Wd M2 := by have q := I.2.1.wd; unfold Wd at q ⊢; simp (disch := omega) only [f2]; exact q
  have c42 : C4 M2 := by have q := I.1.c4; unfold C4 at q ⊢; simp (disch := omega) only [f2]; exact q
  refine ok_obn (c_partAll (B := M2) (n := nK M) h14 (by rw [f2 3 0 (by omega)]; exact I.cf.n) c42 wd2 (fun i => by rw [f2 1 i (by omega), f2 110 i (by omega)]; exact I.2.1.e1 i) (fun i => by rw [f2 14 i (by omega), f2 114 i (by omega)]; exact I.2.1.e14 i) (fun i => by rw [f2 15 i (by omega), f2 115 i (by omega)]; exact I.2.1.e15 i) (fun i => by rw [f2 13 i (by omega), f2 87 i (by omega)]; exact I.1.e13 i)) (fun M3 hM3 => ?_)
  obtain ⟨f3, r3⟩ := hM3
  have enr : ∀ x y, nrg M2 x y = nrg M x y := fun x y => by unfold nrg rgOk lowW; simp (disch := omega) only [f2]
  have r3' : ∀ x y, x < 14 → y < 14 → M3 13 (14 * x + y) = if x < nK M ∧ y < nK M then nrg M x y else M 87 (14 * x + y) := fun x y hx hy => by rw [r3 x y hx hy, enr, f2 87 _ (by omega)]
  let sv : Nat → Nat := fun c => servedG M (GP M (lsP M) (M 110 c).toNat) c
  refine ok_bnd (c_settle (M := M3) (n := nK M) h14 (fun c => M 110 c) (fun c => M 85 c) sv (by rw [f3 3 0 (by omega), f2 3 0 (by omega)]; exact I.cf.n) (fun c hc => by rw [f3 1 c (by omega), f2 1 c (by omega)]; exact I.l1 c) (fun c hc => I.lsb (by omega)) (fun c hc => by rw [f3 8 c (by omega), f2 8 c (by omega)]; exact I.1.e8 c) (fun c hc => (I.1.c2 c (by omega)).1) (fun N hN c k hc hL => ?_)) (fun a M4 hM4 => ?_)
  · have b := I.lsb (c := c) (by omega)
    have hk : k < 3 := by have : M 110 c = (k : Int) := hL; omega
    rw [← ov_bestWish (c : Int) (N 2 k) M N]
    have H : CF M (fun c i => if c = 8 ∨ c = 13 then M c i else N c i) := I.cf.fr (fun c i q => by
      try dsimp only
      by_cases z : c = 8 ∨ c = 13
      · rw [if_pos z]
      · rw [if_neg z, hN c i (by omega), f3 c i (by omega), f2 c i (by unfold isC at q; omega)])
    have e2 : N 2 k = M2 2 k := by rw [hN 2 k (by omega), f3 2 k (by omega)]
    rw [e2]
    have r := c_bestWish H hc (g2 k hk).1
    rw [r]
    have : (M 110 c).toNat = k := by have : M 110 c = (k : Int) := hL; omega
    show _ = some ((servedG M (GP M (lsP M) (M 110 c).toNat) c : Nat) : Int)
    rw [this]
  obtain ⟨ha, f4, w4⟩ := hM4
  dsimp only at ha f4 w4 ⊢
  refine ok_obn (c_fill14 14 (by decide +kernel) M4) (fun M5 hM5 => ok_obn (c_fill14 15 (by decide +kernel) M5) (fun M6 hM6 => ok_obn (c_fill14 1 (by decide +kernel) M6) (fun M7 hM7 => ?_)))
  obtain ⟨f5, v5⟩ := hM5
  obtain ⟨f6, v6⟩ := hM6
  obtain ⟨f7, v7⟩ := hM7
  obtain ⟨M8, e8, f8, v8⟩ := mup_gen M7 0 16 0
  refine ok_lt ?_
  rw [e8]; clear e8
  obtain ⟨M9, e9, f9, v9⟩ := mup_gen M8 0 14 (wrap (M8 0 14 + 1))
  refine ok_lt ?_
  rw [e9]; clear e9
  refine ok_some ?_
  try dsimp only
  have fr : ∀ c i, c ≠ 2 → ¬ (c = 13 ∧ i < 196) → ¬ (c = 8 ∧ i < nK M) → ¬ ((c = 14 ∨ c = 15 ∨ c = 1) ∧ i < 14) → ¬ (c = 0 ∧ (i = 14 ∨ i = 16)) → M9 c i = M c i := fun c i q1 q2 q3 q4 q5 => by
    rw [f9 c i (by omega), f8 c i (by omega), f7 c i (by omega), f6 c i (by omega), f5 c i (by omega), f4 c i q3, f3 c i q2, f2 c i q1]
  have hi : ∀ c i, 80 ≤ c → M9 c i = M c i := fun c i q => fr c i (by omega) (by omega) (by omega) (by omega) (by omega)
  have y13 : ∀ i, M9 13 i = M3 13 i := fun i => by rw [f9 13 i (by omega), f8 13 i (by omega), f7 13 i (by omega), f6 13 i (by omega), f5 13 i (by omega), f4 13 i (by omega)]
  have y8 : ∀ c, c < nK M → M9 8 c = owd (fun c => M 110 c) (fun c => M 85 c) sv c := fun c hc => by rw [f9 8 c (by omega), f8 8 c (by omega), f7 8 c (by omega), f6 8 c (by omega), f5 8 c (by omega)]; exact w4 c hc
  have y014 : M8 0 14 = M 0 14 := by rw [f8 0 14 (by omega), f7 0 14 (by omega), f6 0 14 (by omega), f5 0 14 (by omega), f4 0 14 (by omega), f3 0 14 (by omega), f2 0 14 (by omega)]
  have y14 : ∀ i, i < 14 → M9 14 i = -1 := fun i q => by rw [f9 14 i (by omega), f8 14 i (by omega), f7 14 i (by omega), f6 14 i (by omega)]; exact v5 i q
  have y15 : ∀ i, i < 14 → M9 15 i = -1 := fun i q => by rw [f9 15 i (by omega), f8 15 i (by omega), f7 15 i (by omega)]; exact v6 i q
  have y1 : ∀ i, i < 14 → M9 1 i = -1 := fun i q => by rw [f9 1 i (by omega), f8 1 i (by omega)]; exact v7 i q
  have y16 : M9 0 16 = 0 := by rw [f9 0 16 (by omega)]; exact v8
  rw [y014] at v9
  clear f5 f6 f7 f8 v5 v6 v7 v8 y014 f9
  -- the model
  unfold f_X11_close
  obtain ⟨N1, e1, n1⟩ := th0 M9
  refine ok_lt ?_
  rw [e1]; clear e1
  have eov : N1 = ov N1 (ov M N1) := by
    funext c i
    by_cases z : c < 80
    · rw [ov_lo z]
    · rw [ov_hi (by omega), ov_hi (by omega)]
  have HM : MF M (ov M N1) := ⟨I.1, fun c i q => by
    by_cases z : c < 80
    · rw [ov_lo z]
    · rw [ov_hi (by omega), n1 c i (by unfold isFa at q; omega), hi c i (by omega)]⟩
  have el : f_X11_listed N1 = some (cnt (fun c => M 110 c ≠ -1) (nK M)) := by
    rw [eov, ov_listed, m_listed HM]
    exact congrArg some (cnt_congr (fun c _ => by rw [ov_hi (by omega), n1 110 c (by omega), hi 110 c (by omega)]))
  refine ok_e el (ok_ite_f h0 ?_)
  obtain ⟨M', em, fm, Lm, pm⟩ := m_looks HM
  have elk : f_X11_looks N1 = some (ov N1 M') := by
    have := ov_looks (L := N1) em
    rwa [← eov] at this
  refine ok_e elk ?_
  have b2 : ∀ c i, 80 ≤ c → ¬ (106 ≤ c ∧ c ≤ 108) → ¬ (c = 80 ∧ i = 0) → ov N1 M' c i = M c i := fun c i q1 q2 q3 => by
    rw [ov_hi q1, fm c i q2, ov_hi q1, n1 c i q3, hi c i q1]
  have p2 : ∀ c, c < nK M → M' 108 c = M 110 c := fun c hc => by rw [pm c hc, ov_hi (by omega), n1 110 c (by omega), hi 110 c (by omega)]
  have wdN : Wd (ov N1 M') := by have q := I.2.1.wd; unfold Wd at q ⊢; simp (disch := omega) only [b2]; exact q
  have c4N : C4 (ov N1 M') := by have q := I.1.c4; unfold C4 at q ⊢; simp (disch := omega) only [b2]; exact q
  refine ok_obn (m_closeAll (B := ov N1 M') (n := nK M) sv h14 (by rw [b2 80 1 (by omega) (by omega) (by omega)]; exact hn.symm) c4N wdN (fun c hc => by rw [b2 85 c (by omega) (by omega) (by omega)]; exact (I.1.c2 c (by omega)).1) (fun N hN c hc hl => ?_)) (fun q hq => ?_)
  · rw [← ov_served2 (c : Int) M' N]
    have e : (fun c i => if c < 80 ∨ c = 85 ∨ c = 87 then M' c i else N c i) = M' := by
      funext c i
      by_cases z : c < 80 ∨ c = 85 ∨ c = 87
      · rw [if_pos z]
      · rw [if_neg z, hN c i (by omega) (by omega), ov_hi (by omega)]
    rw [e, m_servedIn Lm.1 hc]
    rw [b2 110 c (by omega) (by omega) (by omega)] at hl
    have b := I.lsb (c := c) (by omega)
    have r := served_pg (P := planOf M') I.1 hc (k := (M 110 c).toNat) (by show M' 108 c = _; rw [p2 c hc]; omega)
    rw [r, GP_congr (P := planOf M') (Q := lsP M) (fun c hc => p2 c hc)]
  obtain ⟨a2, v2, N3⟩ := q
  obtain ⟨hA, fA, A85, A87, w85, w87⟩ := hq
  dsimp only at hA fA A85 A87 w85 w87 ⊢
  unfold f_X11_close_j219
  refine ok_obn (m_clear (n := nK M) a2 h14 (by rw [fA 80 1 (by omega) (by omega), b2 80 1 (by omega) (by omega) (by omega)]; exact hn.symm)) (fun q hq => ?_)
  obtain ⟨v3, N4⟩ := q
  obtain ⟨fC, wC⟩ := hq
  dsimp only at fC wC ⊢
  unfold f_X11_close_j256
  obtain ⟨N5, e5, f5, v5⟩ := mup_gen N4 80 55 (wrap (N4 80 55 + 1))
  refine ok_lt ?_
  rw [e5]; clear e5
  obtain ⟨N6, e6, f6, v6⟩ := mup_gen N5 80 43 0
  refine ok_lt ?_
  rw [e6]; clear e6
  have e110 : (fun c => ov N1 M' 110 c) = fun c => M 110 c := funext (fun c => b2 110 c (by omega) (by omega) (by omega))
  have e85 : (fun c => ov N1 M' 85 c) = fun c => M 85 c := funext (fun c => b2 85 c (by omega) (by omega) (by omega))
  rw [e110, e85] at w85
  have enN : ∀ x y, nrg (ov N1 M') x y = nrg M x y := fun x y => by unfold nrg rgOk lowW; simp (disch := omega) only [b2]
  have lo : ∀ c i, c < 80 → N6 c i = M9 c i := fun c i q => by rw [f6 c i (by omega), f5 c i (by omega), fC c i (by omega), fA c i (by omega) (by omega), ov_lo q, n1 c i (by omega)]
  have up : ∀ c i, 80 ≤ c → ¬ (106 ≤ c ∧ c ≤ 108) → c ≠ 85 → c ≠ 87 → ¬ ((c = 110 ∨ c = 114 ∨ c = 115) ∧ i < nK M) → ¬ (c = 80 ∧ (i = 0 ∨ i = 43 ∨ i = 55)) → N6 c i = M c i := fun c i q1 q2 q3 q4 q5 q6 => by
    rw [f6 c i (by omega), f5 c i (by omega), fC c i q5, fA c i q3 q4, b2 c i q1 q2 (by omega)]
  have ls := I.2.1.ls
  have wd := I.2.1.wd
  have t85 : ∀ c, c < nK M → N6 85 c = owd (fun c => M 110 c) (fun c => M 85 c) sv c := fun c hc => by rw [f6 85 c (by omega), f5 85 c (by omega), fC 85 c (by omega)]; exact w85 c hc
  have s85 : ∀ c, nK M ≤ c → N6 85 c = M 85 c := fun c hc => by rw [f6 85 c (by omega), f5 85 c (by omega), fC 85 c (by omega), A85 c hc]; exact b2 85 c (by omega) (by omega) (by omega)
  have t87 : ∀ x y, x < 14 → y < 14 → N6 87 (14 * x + y) = if x < nK M ∧ y < nK M then nrg M x y else M 87 (14 * x + y) := fun x y hx hy => by rw [f6 87 _ (by omega), f5 87 _ (by omega), fC 87 _ (by omega), w87 x y hx hy, enN, b2 87 _ (by omega) (by omega) (by omega)]
  have s87 : ∀ i, 196 ≤ i → N6 87 i = M 87 i := fun i hi2 => by rw [f6 87 i (by omega), f5 87 i (by omega), fC 87 i (by omega), A87 i hi2]; exact b2 87 i (by omega) (by omega) (by omega)
  have t110 : ∀ c, c < 14 → N6 110 c = -1 ∧ N6 114 c = -1 ∧ N6 115 c = -1 := fun c hc => by
    by_cases z : c < nK M
    · have w := wC c z
      exact ⟨by rw [f6 _ _ (by omega), f5 _ _ (by omega)]; exact w.1, by rw [f6 _ _ (by omega), f5 _ _ (by omega)]; exact w.2.1, by rw [f6 _ _ (by omega), f5 _ _ (by omega)]; exact w.2.2⟩
    · have h1 := (ls c hc).2 (by omega)
      have h2 := (wd c hc).2.2 (by omega)
      exact ⟨by rw [up 110 c (by omega) (by omega) (by omega) (by omega) (by omega) (by omega)]; exact h1, by rw [up 114 c (by omega) (by omega) (by omega) (by omega) (by omega) (by omega)]; exact h2.1, by rw [up 115 c (by omega) (by omega) (by omega) (by omega) (by omega) (by omega)]; exact h2.2⟩
  have hfr : ∀ c i, (c = 14 ∨ c = 15 ∨ c = 1) → 14 ≤ i → N6 c i = M c i := fun c i q1 q2 => by rw [lo c i (by omega)]; exact fr c i (by omega) (by omega) (by omega) (by omega) (by omega)
  have ow : ∀ c, c < nK M → 0 ≤ owd (fun c => M 110 c) (fun c => M 85 c) sv c ∧ owd (fun c => M 110 c) (fun c => M 85 c) sv c ≤ 99 := fun c hc => by
    have b := (I.1.c2 c (by omega)).1
    unfold owd
    dsimp only
    by_cases z : M 110 c = -1
    · rw [if_pos z]; exact b
    · rw [if_neg z]
      by_cases y : sv c = 3
      · rw [if_pos y]
        by_cases x : M 85 c < 99
        · rw [if_pos x]; omega
        · rw [if_neg x]; exact b
      · rw [if_neg y]; omega
  have nb : ∀ x y, x < 14 → y < 14 → 0 ≤ nrg M x y ∧ nrg M x y ≤ 99 := fun x y hx hy => by
    have b := (I.1.c4 x y hx hy).1
    unfold nrg
    by_cases z : rgOk M x y ∧ M 87 (14 * x + y) < 99
    · have z2 := z.2
      rw [if_pos z]; clear z; omega
    · rw [if_neg z]; exact b
  have e801 : N6 80 1 = M 80 1 := up 80 1 (by omega) (by omega) (by omega) (by omega) (by omega) (by omega)
  have k12 := I.1.k23
  have e8012 : N6 80 12 = M 80 12 := up 80 12 (by omega) (by omega) (by omega) (by omega) (by omega) (by omega)
  refine ok_some ⟨?_, ?_⟩
  · show a2 = a
    rw [hA, ha]
    exact cnt_congr (fun c _ => by rw [b2 110 c (by omega) (by omega) (by omega)])
  show Inv N6
  refine up_close I (fun c i q => ?_) ?_ v6 ?_ (fun c hc => ?_) (fun x y hx hy => ?_) (fun i => ?_) (fun i => ?_) (fun i => ?_) (fun i => ?_) (fun i => ?_) (fun c hc => ?_) (fun c hc => ?_)
  · by_cases z : c < 80
    · rw [lo c i z]
      exact fr c i (by omega) (by omega) (by omega) (by omega) (by omega)
    · exact up c i (by omega) (by omega) (by omega) (by omega) (by omega) (by omega)
  · rw [lo 0 16 (by omega)]; exact y16
  · unfold A5
    rw [lo 0 14 (by omega), v9, f6 80 55 (by omega), v5, fC 80 55 (by omega), fA 80 55 (by omega) (by omega), b2 80 55 (by omega) (by omega) (by omega)]
    have q := I.2.1.o5
    unfold A5 at q
    rw [q]
  · rw [e801]
    by_cases z : c < nK M
    · rw [t85 c z]; exact ⟨ow c z, fun w => by omega⟩
    · rw [s85 c (by omega)]; exact I.1.c2 c hc
  · have b := I.1.c4 x y hx hy
    rw [t87 x y hx hy, t87 y x hy hx]
    by_cases z : x < nK M ∧ y < nK M
    · rw [if_pos z, if_pos ⟨z.2, z.1⟩]
      exact ⟨nb x y hx hy, nrg_sym I.1.c4 hx hy⟩
    · rw [if_neg z, if_neg (fun w => z ⟨w.2, w.1⟩)]; exact b
  · rw [lo 13 i (by omega), y13 i]
    by_cases z : i < 196
    · obtain ⟨x, y, hx, hy, rfl⟩ : ∃ x y : Nat, x < 14 ∧ y < 14 ∧ i = 14 * x + y := ⟨i / 14, i % 14, by omega, by omega, by omega⟩
      rw [r3' x y hx hy, t87 x y hx hy]
    · rw [f3 13 i (by omega), f2 13 i (by omega), s87 i (by omega)]; exact I.1.e13 i
  · rw [lo 8 i (by omega)]
    by_cases z : i < nK M
    · rw [y8 i z, t85 i z]
    · rw [fr 8 i (by omega) (by omega) (by omega) (by omega) (by omega), s85 i (by omega)]; exact I.1.e8 i
  · by_cases z : i < 14
    · rw [lo 1 i (by omega), y1 i z, (t110 i z).1]
    · rw [hfr 1 i (by omega) (by omega), up 110 i (by omega) (by omega) (by omega) (by omega) (by omega) (by omega)]; exact I.2.1.e1 i
  · by_cases z : i < 14
    · rw [lo 14 i (by omega), y14 i z, (t110 i z).2.1]
    · rw [hfr 14 i (by omega) (by omega), up 114 i (by omega) (by omega) (by omega) (by omega) (by omega) (by omega)]; exact I.2.1.e14 i
  · by_cases z : i < 14
    · rw [lo 15 i (by omega), y15 i z, (t110 i z).2.2]
    · rw [hfr 15 i (by omega) (by omega), up 115 i (by omega) (by omega) (by omega) (by omega) (by omega) (by omega)]; exact I.2.1.e15 i
  · rw [(t110 c hc).1, e8012]
    exact ⟨by omega, fun _ => rfl⟩
  · rw [(t110 c hc).2.1, (t110 c hc).2.2]
    exact ⟨by omega, by omega, fun _ => ⟨rfl, rfl⟩⟩
end CLOSE
