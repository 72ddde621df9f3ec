/-! ring: the model's search, both sides -/
theorem jd3 (k : Nat) (h : k < 1000000) : jdiv (k : Int) 3 = ((k / 3 : Nat) : Int) := by
  rw [jdiv_n (by omega) (by omega) (by omega) (by omega)]; omega
def ld (B N : Mem) (o : Nat) : Bool := decide (o < nK B) && decide (N 111 o ≠ 0)
theorem ld_iff {B N : Mem} {o : Nat} : ld B N o = true ↔ o < nK B ∧ N 111 o ≠ 0 := by
  unfold ld; rw [Bool.and_eq_true, decide_eq_true_iff, decide_eq_true_iff]
section LEADS
variable {B M : Mem}
theorem m_lround (H : MF B M) {c : Nat} (v : Int) (hl : ∀ o, o < 14 → ld B M o = true → Lead B c o) : Okk (f_X11_leads_l44 v 0 M) (fun s => (∀ c i, c ≠ 111 → s.2 c i = M c i) ∧ (∀ o, o < 14 → ld B M o = true → ld B s.2 o = true) ∧ (∀ o, o < 14 → ld B s.2 o = true → Lead B c o) ∧ ∀ a b, a < nK B → ld B M a = true → wishB B a b = true → ld B s.2 b = true) := by
  have h14 := H.1.n14
  have hn := H.1.n
  unfold f_X11_leads_l44
  refine ok_whl (3 * nK B) (fun k s => s.1 = (k : Int) ∧ (∀ c i, c ≠ 111 → s.2 c i = M c i) ∧ (∀ o, o < 14 → ld B M o = true → ld B s.2 o = true) ∧ (∀ o, o < 14 → ld B s.2 o = true → Lead B c o) ∧ ∀ j, j < k → ld B M (j / 3) = true → B 86 j ≠ -1 → ld B s.2 (B 86 j).toNat = true) (FU_big (by omega)) ⟨rfl, fun _ _ _ => rfl, fun _ _ h => h, hl, fun _ h => absurd h (by omega)⟩ ?_
  rintro k ⟨u, N⟩ hk ⟨hu, hf, h1, h2, h3⟩
  dsimp only at hu hf h1 h2 h3 ⊢
  subst hu
  have e1 : N 80 1 = (nK B : Int) := by rw [hf 80 1 (by omega)]; exact H.n
  unfold f_X11_leads_s44
  (try simp (disch := omega) only [wrap_of, toN, nA, n1, mr2, mr3, mr4, mr9, mr14, ml2, ml3, ml4, ml7, ml14, ml28, e1])
  refine ok_ite (fun h => ?_) (fun h => ?_)
  · have e : k = 3 * nK B := by omega
    subst e
    refine ok_some ⟨hf, h1, h2, fun a b ha h4 h5 => ?_⟩
    obtain ⟨p, hp, e⟩ := (anyB_iff _ _).mp h5
    have e2 := of_decide_eq_true e
    have := h3 (3 * a + p) (by omega) (by rw [show (3 * a + p) / 3 = a by omega]; exact h4) (by omega)
    rw [e2, toN] at this
    exact this
  have hk3 : k < 3 * nK B := by omega
  have q := H.1.c3 k (by omega)
  rw [jd3 k (by omega), toN, hf 86 k (by omega), H.2 86 k (by unfold isFa; omega)]
  have keep : (ld B M (k / 3) = true → B 86 k ≠ -1 → ld B N (B 86 k).toNat = true) → ∀ j, j < k + 1 → ld B M (j / 3) = true → B 86 j ≠ -1 → ld B N (B 86 j).toNat = true := fun h6 j hj h4 h5 => by
    by_cases e : j = k
    · subst e; exact h6 h4 h5
    · exact h3 j (by omega) h4 h5
  refine ok_gd (by omega) (ok_ite (fun h5 => ?_) (fun h5 => ok_gd (by omega) (ok_ite (fun h6 => ?_) (fun h6 => ?_))))
  · refine ok_lt (ok_some ⟨hk3, rfl, hf, h1, h2, keep (fun h4 _ => ?_)⟩)
    exact absurd h5 (ld_iff.mp (h1 (k / 3) (by omega) h4)).2
  · exact ok_lt (ok_some ⟨hk3, rfl, hf, h1, h2, keep (fun _ z => absurd h6 z)⟩)
  · obtain ⟨j, hj⟩ : ∃ j : Nat, B 86 k = (j : Int) := ⟨(B 86 k).toNat, by omega⟩
    have hjn : j < nK B := by omega
    rw [hj, toN]
    obtain ⟨M2, e2, f2, v2⟩ := mup_gen N 111 j 1
    refine ok_gd (by omega) (ok_gd (by omega) (ok_lt (ok_lt ?_)))
    rw [e2]
    have old : ∀ o, ld B N o = true → ld B M2 o = true := fun o h4 => by
      have := ld_iff.mp h4
      refine ld_iff.mpr ⟨this.1, ?_⟩
      by_cases e : o = j
      · rw [e, v2]; omega
      · rw [f2 111 o (by omega)]; exact this.2
    have new : ld B M2 j = true := ld_iff.mpr ⟨hjn, by rw [v2]; omega⟩
    refine ok_some ⟨hk3, rfl, fun c i z => by show M2 c i = _; rw [f2 c i (by omega)]; exact hf c i z, fun o ho h4 => old o (h1 o ho h4), fun o ho h4 => ?_, fun i hi h4 h7 => ?_⟩
    · by_cases e : o = j
      · subst e
        have l := h2 (k / 3) (by omega) (ld_iff.mpr ⟨by omega, h5⟩)
        refine l.st (by omega) ((anyB_iff _ _).mpr ⟨k % 3, by omega, decide_eq_true ?_⟩)
        rw [show 3 * (k / 3) + k % 3 = k by omega]; exact hj
      · refine h2 o ho (ld_iff.mpr ⟨(ld_iff.mp h4).1, ?_⟩)
        have z := (ld_iff.mp h4).2
        try dsimp only at z
        rw [f2 111 o (by omega)] at z
        exact z
    · by_cases e : i = k
      · subst e; rw [hj, toN]; exact new
      · exact old _ (h3 i (by omega) h4 h7)
theorem m_leads (H : MF B M) {c : Nat} (hc : c < nK B) : Okk (f_X11_leads c M) (fun M' => (∀ c i, c ≠ 111 → M' c i = M c i) ∧ ∀ o, o < nK B → (M' 111 o = 0 ↔ ¬ Lead B c o)) := by
  have h14 := H.1.n14
  unfold f_X11_leads
  refine ok_obn (P := fun s => (∀ c i, c ≠ 111 → s.2 c i = M c i) ∧ ∀ o, o < nK B → s.2 111 o = if o = c then 1 else 0) ?_ (fun s hs => ?_)
  · unfold f_X11_leads_l2
    refine ok_whl (nK B) (fun k s => s.1 = (k : Int) ∧ (∀ c i, c ≠ 111 → s.2 c i = M c i) ∧ ∀ o, o < k → s.2 111 o = if o = c then 1 else 0) (FU_big (by omega)) ⟨rfl, fun _ _ _ => rfl, fun _ h => absurd h (by omega)⟩ ?_
    rintro k ⟨u, N⟩ hk ⟨hu, hf, h1⟩
    dsimp only at hu hf h1 ⊢
    subst hu
    have e1 : N 80 1 = (nK B : Int) := by rw [hf 80 1 (by omega)]; exact H.n
    unfold f_X11_leads_s2
    rw [e1, toN]
    refine ok_ite (fun h => ?_) (fun h => ?_)
    · have e : k = nK B := by omega
      subst e; exact ok_some ⟨hf, h1⟩
    have hkn : k < nK B := by omega
    rw [wrap_n1 (by omega)]
    refine ok_ite (fun h5 => ?_) (fun h5 => ?_)
    · obtain ⟨M2, e2, f2, v2⟩ := mup_gen N 111 k 1
      refine ok_gd (by omega) (ok_lt (ok_lt ?_))
      rw [e2]
      refine ok_some ⟨hkn, rfl, fun c i z => by show M2 c i = _; rw [f2 c i (by omega)]; exact hf c i z, fun o ho => ?_⟩
      try dsimp only
      by_cases e : o = k
      · rw [e, v2, if_pos (by omega)]
      · rw [f2 111 o (by omega)]; exact h1 o (by omega)
    · obtain ⟨M2, e2, f2, v2⟩ := mup_gen N 111 k 0
      refine ok_gd (by omega) (ok_lt (ok_lt ?_))
      rw [e2]
      refine ok_some ⟨hkn, rfl, fun c i z => by show M2 c i = _; rw [f2 c i (by omega)]; exact hf c i z, fun o ho => ?_⟩
      try dsimp only
      by_cases e : o = k
      · rw [e, v2, if_neg (by omega)]
      · rw [f2 111 o (by omega)]; exact h1 o (by omega)
  obtain ⟨u, N⟩ := s
  obtain ⟨hf, h1⟩ := hs
  dsimp only at hf h1 ⊢
  unfold f_X11_leads_j32
  have S0 : St B c 0 (ld B N) := St.start hc (fun o ho => by
    unfold ld
    by_cases z : o < nK B
    · rw [h1 o z, decide_eq_true z, Bool.true_and]
      by_cases e : o = c
      · rw [if_pos e, decide_eq_true e]; rfl
      · rw [if_neg e, decide_eq_false e]; rfl
    · rw [decide_eq_false z, Bool.false_and, decide_eq_false (by omega)]) h14
  refine ok_obn (P := fun s => (∀ c i, c ≠ 111 → s.2 c i = M c i) ∧ St B c (nK B) (ld B s.2)) ?_ (fun s hs => ?_)
  · unfold f_X11_leads_l34
    refine ok_whl (nK B) (fun k s => s.1 = (k : Int) ∧ (∀ c i, c ≠ 111 → s.2 c i = M c i) ∧ St B c k (ld B s.2)) (FU_big (by omega)) ⟨rfl, hf, S0⟩ ?_
    rintro k ⟨u, N⟩ hk ⟨hu, hf, hS⟩
    dsimp only at hu hf hS ⊢
    subst hu
    have e1 : N 80 1 = (nK B : Int) := by rw [hf 80 1 (by omega)]; exact H.n
    unfold f_X11_leads_s34
    rw [e1]
    refine ok_ite (fun h => ?_) (fun h => ?_)
    · have e : k = nK B := by omega
      subst e; exact ok_some ⟨hf, hS⟩
    have hkn : k < nK B := by omega
    have H2 : MF B N := H.fr (fun c i q => hf c i (by unfold isFa at q; omega))
    refine ok_obn (m_lround (c := c) H2 _ hS.2.1) (fun s hs => ?_)
    obtain ⟨s1, s2, s3, s4⟩ := hs
    unfold f_X11_leads_j93k34
    rw [wrap_n1 (by omega)]
    exact ok_lt (ok_some ⟨hkn, rfl, fun c i z => by show s.2 c i = _; rw [s1 c i z]; exact hf c i z, hS.rnd H.1 s2 s3 s4 hc⟩)
  · unfold f_X11_leads_j99
    refine ok_some ⟨hs.1, fun o ho => ?_⟩
    have := hs.2.fin H.1 hc (by omega) o (by omega)
    rw [ld_iff] at this
    constructor
    · intro e w; exact (this.mpr w).2 e
    · intro w
      apply Classical.byContradiction
      intro z
      exact w (this.mp ⟨ho, z⟩)
end LEADS
section RING
variable {M : Mem}
theorem op_ring (I : Inv M) (c : Int) : Alk (pr M (f_X10_ring c M)) (f_X11_ring c) := by
  have h14 := I.1.n14
  obtain ⟨M2, e2, H2, f2, l2, g2⟩ := m_start I (lvC.rf M)
  by_cases h : 0 ≤ c ∧ c < (nK M : Int)
  · obtain ⟨c, rfl, hc⟩ := nat_of h
    obtain ⟨m, hm, pm, jm⟩ := @fb_first (fun o => Lead M c o ∧ Lead M o c) (fun _ => Classical.propDecidable _) (c + 1) ⟨c, by omega, Lead.rf M c, Lead.rf M c⟩
    refine alk_pr (ans := (m : Int)) I (ok_to ?_) ?_
    · unfold f_X10_ring
      refine ok_b (c2_has I.cf _) (fun _ => ok_ite_f (by decide) ?_) (fun h0 => absurd h h0)
      refine ok_obn (c_reach I.cf hc) (fun r hr => ?_)
      refine ok_lpr (P := fun _ => m = c) (P2 := fun r => r = (m : Int)) ?_ (fun s hs => by unfold f_X10_ring_j60; exact ok_some (by rw [hs])) (fun t ht => ok_some ht)
      unfold f_X10_ring_l24
      refine ok_first (n := c) (by omega) (fun o => Lead M c o ∧ Lead M o c) _ (fun k hk hj => ?_) (fun hj => ?_)
      · unfold f_X10_ring_s24
        rw [wrap_n1 (by omega)]
        refine ok_ite_f (by omega) (ok_ite (fun h5 => ok_lt (ok_some (Or.inl ⟨?_, rfl⟩))) (fun h5 => ?_))
        · exact fun z => pb_f.mp ((mIs_bit0 hr (j := k) (by omega)).mp h5) z.1
        · have l1 : Lead M c k := by
            apply Classical.byContradiction
            intro z
            exact h5 ((mIs_bit0 hr (j := k) (by omega)).mpr (pb_f.mpr z))
          refine ok_obn (c_reach I.cf (c := k) (by omega)) (fun r2 hr2 => ?_)
          refine ok_ite (fun h6 => ok_lt (ok_some (Or.inl ⟨?_, rfl⟩))) (fun h6 => ok_some (Or.inr ?_))
          · exact fun z => pb_f.mp ((mIs_bit0 hr2 (j := c) (by omega)).mp h6) z.2
          · have l2 : Lead M k c := by
              apply Classical.byContradiction
              intro z
              exact h6 ((mIs_bit0 hr2 (j := c) (by omega)).mpr (pb_f.mpr z))
            refine ⟨⟨l1, l2⟩, _, rfl, ?_⟩
            show (k : Int) = (m : Int)
            rw [fb_first_one (p := fun o => Lead M c o ∧ Lead M o c) ⟨l1, l2⟩ hj pm jm]
      · unfold f_X10_ring_s24
        refine ok_ite_t (by omega) (ok_some ⟨_, rfl, ?_⟩)
        show m = c
        by_cases z : m = c
        · exact z
        · exact absurd pm (hj m (by omega))
    · unfold f_X11_ring
      refine ok_lt ?_
      rw [e2]
      refine ok_b (m2_isChild H2 _) (fun _ => ok_ite_f (by decide) ?_) (fun h0 => absurd h h0)
      have lv : ∀ N : Mem, (∀ c i, c ≠ 111 → N c i = M2 c i) → lvM M N := fun N hN d i q => by
        rw [hN d i (by unfold isS isFa isO isX1 isX2 at q; omega)]
        exact l2 d i q
      refine ok_lpr (P := fun s => (∀ c i, c ≠ 111 → s.2 c i = M2 c i) ∧ m = c) (P2 := fun r => (∀ c i, c ≠ 111 → r.2 c i = M2 c i) ∧ r.1 = (m : Int)) ?_ (fun s hs => by unfold f_X11_ring_j60; exact ok_some ⟨lv _ hs.1, by rw [hs.2]⟩) (fun t ht => ok_some ⟨lv _ ht.1, ht.2⟩)
      unfold f_X11_ring_l17
      refine ok_whl c (fun k s => s.1 = (k : Int) ∧ (∀ c i, c ≠ 111 → s.2 c i = M2 c i) ∧ ∀ j, j < k → ¬ (Lead M c j ∧ Lead M j c)) (FU_big (by omega)) ⟨rfl, fun _ _ _ => rfl, fun _ h => absurd h (by omega)⟩ ?_
      rintro k ⟨u, N⟩ hk ⟨hu, hf, hj⟩
      dsimp only at hu hf hj ⊢
      subst hu
      unfold f_X11_ring_s17
      refine ok_ite (fun h5 => ok_some ?_) (fun h5 => ?_)
      · have e : k = c := by omega
        subst e
        refine ⟨hf, ?_⟩
        by_cases z : m = k
        · exact z
        · exact absurd pm (hj m (by omega))
      have hkc : k < c := by omega
      have H3 : MF M N := H2.fr (fun c i q => hf c i (by unfold isFa at q; omega))
      refine ok_obn (m_leads H3 (c := k) (by omega)) (fun N2 hN2 => ?_)
      obtain ⟨f3, l3⟩ := hN2
      have H4 : MF M N2 := H3.fr (fun c i q => f3 c i (by unfold isFa at q; omega))
      refine ok_gd (by omega) (ok_lt (ok_obn (m_leads H4 hc) (fun N3 hN3 => ?_)))
      obtain ⟨f4, l4⟩ := hN3
      rw [toN, toN, wrap_n1 (by omega)]
      have hf4 : ∀ c i, c ≠ 111 → N3 c i = M2 c i := fun c i q => by rw [f4 c i q, f3 c i q]; exact hf c i q
      have more : ¬ (Lead M c k ∧ Lead M k c) → ∀ j, j < k + 1 → ¬ (Lead M c j ∧ Lead M j c) := fun z j hj2 => by
        by_cases e : j = k
        · rw [e]; exact z
        · exact hj j (by omega)
      refine ok_ite (fun h6 => ok_lt (ok_some ⟨hkc, rfl, hf4, more (fun z => (l3 c hc).mp h6 z.2)⟩)) (fun h6 => ok_gd (by omega) (ok_ite (fun h7 => ok_lt (ok_some ⟨hkc, rfl, hf4, more (fun z => (l4 k (by omega)).mp h7 z.1)⟩)) (fun h7 => ok_some ?_)))
      have p1 : Lead M k c := Classical.byContradiction (fun z => h6 ((l3 c hc).mpr z))
      have p2 : Lead M c k := Classical.byContradiction (fun z => h7 ((l4 k (by omega)).mpr z))
      refine ⟨hf4, ?_⟩
      show (k : Int) = (m : Int)
      rw [fb_first_one (p := fun o => Lead M c o ∧ Lead M o c) ⟨p2, p1⟩ hj pm jm]
  · refine alk_pr (ans := -1) I (ok_to ?_) ?_
    · unfold f_X10_ring
      exact ok_b (c2_has I.cf _) (fun h0 => absurd h0 h) (fun _ => ok_ite_t rfl (ok_some rfl))
    · unfold f_X11_ring
      refine ok_lt ?_
      rw [e2]
      exact ok_b (m2_isChild H2 _) (fun h0 => absurd h0 h) (fun _ => ok_ite_t rfl (ok_some ⟨l2, rfl⟩))
end RING
