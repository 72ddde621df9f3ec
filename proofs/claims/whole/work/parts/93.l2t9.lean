/-! help: both sides, the call -/
section HELP
variable {M : Mem}
theorem op_help (I : Inv M) (h : Int) : Alk (f_X10_help h M) (f_X11_help h) := by
  have h14 := I.1.n14
  have h23 := I.1.k23
  have o7 := I.2.1.o7
  have c7 := I.2.1.c7
  unfold A7 at o7
  unfold C7 at c7
  obtain ⟨H, hH⟩ : ∃ H : Nat, M 80 50 = (H : Int) := ⟨(M 80 50).toNat, by omega⟩
  have e51 : M 51 0 = (H : Int) := o7.1.trans hH
  have h5 : ∀ i, i < H → 1 ≤ M 112 i ∧ M 112 i ≤ 60 := fun i hi => c7 i (by omega)
  have hn : ∀ k, k < 3 → 0 ≤ needS M k ∧ needS M k ≤ 2000 := fun k _ => by have := need_b I.1 k (nK M) (Nat.le_refl _); unfold needS; omega
  have p0 : 0 < nC M ^ H := Nat.pow_pos (by omega)
  have p1 : nC M ^ H ≤ 729 := pow729 (by omega) (by omega)
  obtain ⟨f, hf⟩ := BWy.ex (lackW M (needS M) H (nC M)) (nC M ^ H - 1)
  rw [Nat.sub_add_cancel p0] at hf
  refine alk_ro (ans := if cnt (fun c => M 110 c ≠ -1) (nK M) = 0 then -1 else if -1 ≤ h ∧ h ≤ (H : Int) - 1 then (if h = -1 then lackW M (needS M) H (nC M) f else ((f / nC M ^ (H - 1 - h.toNat) % nC M : Nat) : Int)) else -1) I ?_ (fun M1 h1 => ?_)
  · unfold f_X10_help
    refine ok_e (c_countListed I.cf) ?_
    rw [cntl I]
    refine ok_ite (fun h0 => ok_some ⟨lvC.rf M, by rw [if_pos h0]⟩) (fun h0 => ?_)
    rw [if_neg h0, e51, wrap_of (x := (H : Int) - 1) (by omega) (by omega), I.cf.td]
    refine ok_b (c_within _ _ _ _) (fun hw => ?_) (fun hw => ok_ite_t rfl (ok_some ⟨lvC.rf M, by rw [if_neg hw]⟩))
    rw [if_pos hw]
    refine ok_ite_f (by decide) (ok_obn (c_learn2 I.cf (M 80 14)) (fun M1 hM1 => ?_))
    obtain ⟨f1, hL⟩ := hM1
    refine ok_obn (P := fun M2 => (∀ c i, c ≠ 53 → M2 c i = M1 c i) ∧ ∀ k, k < 3 → M2 53 k = 0) ?_ (fun M2 hM2 => ?_)
    · unfold f_X3_clear
      refine ok_obn (c_fill 53 (by decide +kernel) 0 M1) (fun M2 hM2 => ok_some ?_)
      have ha : aln 53 = 3 := by decide +kernel
      rw [ha] at hM2
      exact ⟨fun c i q => by rw [hM2]; exact if_neg (fun z => q z.1), fun k hk => by rw [hM2]; exact if_pos ⟨rfl, hk⟩⟩
    obtain ⟨f2, z2⟩ := hM2
    have C2 : CF M M2 := I.cf.fr (fun c i q => by rw [f2 c i (by unfold isC at q; omega), f1 c i (by unfold isC at q; omega)])
    refine ok_obn (c_needs I C2 (fun c => by rw [f2 1 c (by omega), f1 1 c (by omega)]; exact I.l1 c) (hL.fr (fun i => f2 23 i (by omega))) z2 h) (fun s hs => ?_)
    obtain ⟨f3, z3⟩ := hs
    have C3 : CF M s.2 := C2.fr (fun c i q => f3 c i (by unfold isC at q; omega))
    unfold f_X10_help_j95
    rw [C3.k]
    have hw3 : HW M s.2 (needS M) H (nC M) := ⟨by rw [f3 51 0 (by omega), f2 51 0 (by omega), f1 51 0 (by omega)]; exact e51, by omega, h23, fun i => by rw [f3 52 i (by omega), f2 52 i (by omega), f1 52 i (by omega)]; exact I.2.1.e52 i, h5, fun k hk => ⟨z3 k hk, hn k hk⟩, fun k k1 k2 => by
      unfold needS
      refine (fb_si_cong (g := fun _ => 0) (fun c hc => if_neg (fun z => ?_))).trans (si_zero _)
      have := I.2.1.ls c (by omega)
      have := I.1.k
      omega⟩
    refine ok_obn (c_divide hw3) (fun M4 hM4 => ?_)
    obtain ⟨f4, g, bg, lg, dg⟩ := hM4
    have eg := bg.one_of hf
    subst eg
    have lv : lvC M M4 := fun c i q => by
      have q2 : ¬ (c = 51 ∧ i = 6) ∧ c ≠ 54 ∧ c ≠ 55 ∧ c ≠ 56 ∧ c ≠ 53 ∧ c ≠ 23 := by unfold isS isFa isO isX1 isX2 at q; omega
      rw [f4 c i q2.2.1 q2.2.2.1 q2.2.2.2.1 q2.1, f3 c i q2.2.2.2.2.1, f2 c i q2.2.2.2.2.1, f1 c i q2.2.2.2.2.2]
    refine ok_ite (fun h6 => ok_some ⟨lv, ?_⟩) (fun h6 => ok_gd (by omega) (ok_some ⟨lv, ?_⟩))
    · rw [if_pos h6]; exact lg
    · rw [if_neg h6]
      have := dg (H - 1 - h.toNat) (by omega)
      rw [show H - 1 - (H - 1 - h.toNat) = h.toNat by omega] at this
      exact this
  · unfold f_X11_help
    obtain ⟨M2, e2, H2, f2, l2, g2⟩ := m_start I h1
    refine ok_lt ?_
    rw [e2]
    have ec : cnt (fun c => M2 110 c ≠ -1) (nK M) = cnt (fun c => M 110 c ≠ -1) (nK M) := cnt_congr (fun c _ => by rw [g2 110 c (by omega) (by omega)])
    refine ok_e (m_listed H2) ?_
    rw [ec]
    refine ok_ite (fun h0 => ok_some ⟨l2, by rw [if_pos h0]⟩) (fun h0 => ?_)
    rw [if_neg h0, g2 80 50 (by omega) (by omega), hH, wrap_of (x := (H : Int) - 1) (by omega) (by omega), H2.td]
    refine ok_b (m_within _ _ _ _) (fun hw => ?_) (fun hw => ok_ite_t rfl (ok_some ⟨l2, by rw [if_neg hw]⟩))
    rw [if_pos hw]
    refine ok_ite_f (by decide) (ok_obn (m_learns H2 (M 80 14)) (fun M3 hM3 => ?_))
    obtain ⟨f3, L3⟩ := hM3
    have k50 : M3 80 50 = (H : Int) := by rw [f3 80 50 (by omega), g2 80 50 (by omega) (by omega)]; exact hH
    have k12 : M3 80 12 = (nC M : Int) := L3.1.k
    have hl : f_X11_help_l40 h M3 1 0 = some (((nC M ^ H : Nat) : Int), (H : Int)) := by
      unfold f_X11_help_l40
      refine whl_n H (fun k => (((nC M ^ k : Nat) : Int), (k : Int))) (by omega) (by rw [Nat.pow_zero]; rfl) (fun k hk => ok_to ?_) (ok_to ?_)
      · unfold f_X11_help_s40
        try dsimp only
        have p2 : nC M ^ (k + 1) ≤ 729 := pow729 (by omega) (by omega)
        have e : ((nC M ^ k : Nat) : Int) * (nC M : Int) = ((nC M ^ (k + 1) : Nat) : Int) := by rw [Nat.pow_succ, Int.natCast_mul]
        rw [k50, k12, e, wrap_n1 (by omega), wrap_of (by omega) (by omega)]
        exact ok_ite_f (by omega) (ok_lt (ok_lt (ok_some rfl)))
      · unfold f_X11_help_s40
        try dsimp only
        rw [k50]
        exact ok_ite_t (by omega) (ok_some rfl)
    refine ok_e hl ?_
    unfold f_X11_help_j61
    try dsimp only
    generalize hW : nC M ^ H = W at hf p0 p1
    refine ok_obn (P := fun s => s.1 = lackW M (needS M) H (nC M) f ∧ s.2.1 = (f : Int)) ?_ (fun s hs => ?_)
    · unfold f_X11_help_l71
      refine ok_whl W (fun w s => s.2.2 = (w : Int) ∧ ((w = 0 ∧ s.1 = 1000000000 ∧ s.2.1 = 0) ∨ ∃ g, BWy (lackW M (needS M) H (nC M)) g w ∧ s.1 = lackW M (needS M) H (nC M) g ∧ s.2.1 = (g : Int))) (FU_big (by omega)) ⟨rfl, Or.inl ⟨rfl, rfl, rfl⟩⟩ ?_
      rintro w ⟨a, b, d⟩ hw2 ⟨hd, hb⟩
      dsimp only at hd hb ⊢
      subst hd
      unfold f_X11_help_s71
      refine ok_ite (fun z => ok_some ?_) (fun z => ?_)
      · have e : w = W := by omega
        subst e
        rcases hb with hb | ⟨g, b1, b2, b3⟩
        · omega
        · rw [b1.one_of hf] at b2 b3
          exact ⟨b2, b3⟩
      have hwW : w < W := by omega
      refine ok_e (m_lacking I L3 (fun c _ => by rw [f3 110 c (by omega)]; exact g2 110 c (by omega) (by omega)) hH k50 (fun i => by rw [f3 112 i (by omega)]; exact g2 112 i (by omega) (by omega)) (way := w) (by omega)) ?_
      have lb := lackW_b (B := M) (need := needS M) (H := H) (C := nC M) (way := w) (by omega) h5 hn
      rw [wrap_n1 (by omega)]
      refine ok_ite (fun l => ok_lt (ok_some ⟨hwW, rfl, Or.inr ⟨w, ?_, rfl, rfl⟩⟩)) (fun l => ok_lt (ok_some ⟨hwW, rfl, Or.inr ?_⟩))
      · rcases hb with hb | ⟨g, b1, b2, b3⟩
        · rw [hb.1]; exact BWy.one _
        · rw [b2] at l; exact b1.new l
      · rcases hb with hb | ⟨g, b1, b2, b3⟩
        · omega
        · rw [b2] at l; exact ⟨g, b1.old (by omega), b2, b3⟩
    · obtain ⟨a, b, d⟩ := s
      obtain ⟨ha, hb⟩ := hs
      dsimp only at ha hb ⊢
      subst ha hb
      have lv3 : lvM M1 M3 := fun c i q => by rw [f3 c i (by unfold isS isFa isO isX1 isX2 at q; omega)]; exact l2 c i q
      unfold f_X11_help_j107
      refine ok_ite (fun h6 => ok_some ⟨lv3, by rw [if_pos h6]⟩) (fun h6 => ?_)
      rw [if_neg h6, k50, wrap_of (x := (H : Int) - 1) (by omega) (by omega)]
      refine ok_lt (ok_obn (P := fun s => (∀ c i, c ≠ 113 → s.2.2 c i = M3 c i) ∧ ∀ j, j < H → s.2.2 113 (H - 1 - j) = ((f / nC M ^ j % nC M : Nat) : Int)) ?_ (fun s hs => ?_))
      · unfold f_X11_help_l122
        refine ok_whl H (fun j s => s.1 = ((f / nC M ^ j : Nat) : Int) ∧ s.2.1 = (H : Int) - 1 - (j : Int) ∧ (∀ c i, c ≠ 113 → s.2.2 c i = M3 c i) ∧ ∀ j', j' < j → s.2.2 113 (H - 1 - j') = ((f / nC M ^ j' % nC M : Nat) : Int)) (FU_big (by omega)) ⟨by show (f : Int) = _; rw [Nat.pow_zero, Nat.div_one], by show (H : Int) - 1 = _; omega, fun _ _ _ => rfl, fun _ hj => absurd hj (by omega)⟩ ?_
        rintro j ⟨u, v, N⟩ hj ⟨hu, hv, hf5, hd⟩
        dsimp only at hu hv hf5 hd ⊢
        unfold f_X11_help_s122
        refine ok_ite (fun z => ok_some ?_) (fun z => ?_)
        · have e : j = H := by omega
          subst e; exact ⟨hf5, hd⟩
        have hjH : j < H := by omega
        obtain ⟨i, hi⟩ : ∃ i : Nat, i = H - 1 - j := ⟨_, rfl⟩
        have ev : v = (i : Int) := by omega
        have hwj : f / nC M ^ j ≤ f := Nat.div_le_self _ _
        have fW := hf.1
        have kN : N 80 12 = (nC M : Int) := by rw [hf5 80 12 (by omega)]; exact k12
        obtain ⟨N2, e5, f5, v5⟩ := mup_gen N 113 i ((f / nC M ^ j % nC M : Nat) : Int)
        rw [kN, hu, ev, jremN (by omega) (by omega) (by omega), toN, e5]
        refine ok_gd (by omega) (ok_gd (by omega) (ok_lt ?_))
        rw [f5 80 12 (by omega), kN, jdivN (by omega) (by omega) (by omega), div_step]
        refine ok_gd (by omega) (ok_lt ?_)
        rw [wrap_of (x := (i : Int) + (-1)) (by omega) (by omega)]
        refine ok_lt (ok_some ⟨hjH, rfl, by show (i : Int) + (-1) = _; omega, fun c i' q => by show N2 c i' = _; rw [f5 c i' (by omega)]; exact hf5 c i' q, fun j' hj' => ?_⟩)
        try dsimp only
        by_cases e : j' = j
        · rw [e, ← hi]; exact v5
        · rw [f5 113 _ (by omega)]; exact hd j' (by omega)
      · obtain ⟨u, v, N⟩ := s
        obtain ⟨hf5, hd⟩ := hs
        dsimp only at hf5 hd ⊢
        unfold f_X11_help_j156
        refine ok_gd (by omega) (ok_some ⟨fun c i q => ?_, ?_⟩)
        · try dsimp only
          rw [hf5 c i (by unfold isS isFa isO isX1 isX2 at q; omega)]; exact lv3 c i q
        · have := hd (H - 1 - h.toNat) (by omega)
          rw [show H - 1 - (H - 1 - h.toNat) = h.toNat by omega] at this
          exact this
end HELP
