/-! calls that only ask: holds, lonely, count -/
theorem alk_rel {M : Mem} {x : Option Res} {y : Mem → Option Res} (R : Int → Prop) (hu : ∀ a b, R a → R b → a = b) (I : Inv M) (h1 : Okk x (fun q => lvC M q.2 ∧ R q.1)) (h2 : ∀ M1, lvC M M1 → Okk (y M1) (fun q => lvM M1 q.2 ∧ R q.1)) : Alk x y := by
  refine ok_mono h1 (fun q hq => ok_mono (h2 q.2 hq.1) (fun q2 hq2 => ⟨hu _ _ hq2.2 hq.2, I.congr (fun c i z => by rw [hq2.1 c i z, hq.1 c i (Or.inl z)])⟩))
theorem ok_pr2 {M : Mem} {x : Option Int} {Q : Res → Prop} (h : Okk x (fun r => Q (r, M))) : Okk (pr M x) Q := ok_obn h (fun r hr => ok_some hr)
theorem wl0 {i : Int} (hi : inR i) {s : Int} (h0 : 0 ≤ s) (h1 : s ≤ 14) : wrap (i - s) = 0 ↔ i = s := by unfold inR at hi; unfold wrap; omega
theorem wl1 (i s : Int) : wrap (wrap (i - s) + -1) = wrap (i - (s + 1)) := by unfold wrap; omega
section ASK2
variable {M : Mem}
theorem c_takesTerms {B M : Mem} (H : CF B M) {s w : Nat} (hs : s < nS B) (hw : w < 2) : Okk (f_X7_takesTerms (B 0 11) s w M) (fun r => isB r (hasT B s w)) := by
  have h16 := H.1.s16
  have hkd := H.kd hs
  have hkb := H.kb hs
  have p : ∀ x : Int, Okk (if (w : Int) = 0 then some 1 else some 0) (fun r => isB r (w = 0)) := fun x => ok_ite (fun h => ok_some (isB.one (by omega))) (fun h => ok_some (isB.zero (by omega)))
  unfold f_X7_takesTerms hasT
  rw [toN, hkd]
  refine ok_gd (by omega) ?_
  refine ok_ite (fun h => ok_some (isB.zero (by omega))) (fun h => ?_)
  refine ok_ite (fun h0 => ok_mono (p 0) (fun r hr => hr.iff (by omega))) (fun h0 => ?_)
  refine ok_ite (fun h1 => ok_some (isB.zero (by omega))) (fun h1 => ?_)
  refine ok_ite (fun h2 => ok_some (isB.zero (by omega))) (fun h2 => ?_)
  refine ok_ite (fun h3 => ok_mono (p 0) (fun r hr => hr.iff (by omega))) (fun h3 => ?_)
  refine ok_ite (fun h4 => ok_some (isB.zero (by omega))) (fun h4 => ?_)
  refine ok_ite (fun h5 => ok_some (isB.one (by omega))) (fun h5 => ?_)
  refine ok_ite (fun h6 => ok_mono (p 0) (fun r hr => hr.iff (by omega))) (fun h6 => ?_)
  exact ok_ite (fun h7 => ok_mono (p 0) (fun r hr => hr.iff (by omega))) (fun h7 => absurd h7 (by omega))
theorem op_holds (I : Inv M) (s w c d : Int) : Alk (f_X10_holds s w c d M) (f_X11_holds s w c d) := by
  have h14 := I.1.n14
  have h16 := I.1.s16
  by_cases hs : 0 ≤ s ∧ s ≤ (nS M : Int) - 1
  by_cases hw : 0 ≤ w ∧ w ≤ 1
  by_cases hc : 0 ≤ c ∧ c < (nK M : Int)
  by_cases hd : okDay M d
  · obtain ⟨s, rfl, hs2⟩ := nat_of (n := nS M) (show 0 ≤ s ∧ s < (nS M : Int) by omega)
    obtain ⟨w, rfl, hw2⟩ := nat_of (n := 2) (show 0 ≤ w ∧ w < ((2 : Nat) : Int) by omega)
    obtain ⟨c, rfl, hc2⟩ := nat_of hc
    have tx := fun h => I.cf.tx hs2 hw2 h
    have tn := fun h => I.cf.tn hs2 hw2 h
    refine alk_ro (ans := if M 100 (2 * s + w) = -1 then -1 else if holdB M d (2 * s + w) c = true then 1 else 0) I ?_ (fun M1 h1 => ?_)
    · unfold f_X10_holds
      rw [I.cf.r11, I.cf.rc, wrap_of (x := (nS M : Int) - 1) (by omega) (by omega)]
      refine ok_gd I.cf.ru (ok_b (c_within _ _ _ _) (fun _ => ok_ite_f (by decide) ?_) (fun z => absurd hs z))
      refine ok_b (c_within _ _ _ _) (fun _ => ok_ite_f (by decide) ?_) (fun z => absurd hw z)
      refine ok_b (c2_has I.cf c) (fun _ => ok_ite_f (by decide) ?_) (fun z => absurd hc z)
      refine ok_b (c2_isDay I.cf d) (fun _ => ok_ite_f (by decide) ?_) (fun z => absurd hd z)
      refine ok_gd I.cf.ru (ok_obn (c_takesTerms I.cf hs2 hw2) (fun r hr => ?_))
      refine ok_ite (fun h0 => ok_some ⟨lvC.rf M, ?_⟩) (fun h0 => ok_gd I.cf.ru (ok_obn (c_prepare (known := d) I.cf) (fun M2 hM2 => ?_)))
      · rw [if_pos (tx (hr.f h0)).2]
      · have hT := hr.t h0
        rw [if_neg (by have := tn hT; omega)]
        obtain ⟨J2, f2⟩ := hM2
        have lv : lvC M M2 := lvC.of (fun c i z => f2 c i (by unfold frC at z; omega))
        have e : wrap (wrap ((s : Int) * 2) + w) = ((2 * s + w : Nat) : Int) := by rw [wrap_of (x := (s : Int) * 2) (by omega) (by omega), wrap_of (by omega) (by omega)]; omega
        rw [e]
        clear e
        refine ok_e (c_meets J2.1 hs2 hw2 hT hc2) ?_
        by_cases hB : holdB M d (2 * s + w) c = true
        · rw [if_pos hB]; exact ok_ite_f (by decide) (ok_some ⟨lv, rfl⟩)
        · rw [if_neg hB]; exact ok_ite_t rfl (ok_some ⟨lv, rfl⟩)
    · unfold f_X11_holds
      obtain ⟨M2, e2, H2, f2, l2, g2⟩ := m_start I h1
      refine ok_lt ?_
      rw [e2, H2.s, H2.td, wrap_of (x := (nS M : Int) - 1) (by omega) (by omega)]
      refine ok_b (m_within _ _ _ _) (fun _ => ok_ite_f (by decide) ?_) (fun z => absurd hs z)
      refine ok_b (m_within _ _ _ _) (fun _ => ok_ite_f (by decide) ?_) (fun z => absurd hw z)
      refine ok_b (m2_isChild H2 c) (fun _ => ok_ite_f (by decide) ?_) (fun z => absurd hc z)
      have hdd : f_X11_within d 0 (M 80 14) M2 = some (b2i (okDay M d)) := m_within _ _ _ _
      refine ok_b hdd (fun _ => ok_ite_f (by decide) ?_) (fun z => absurd hd z)
      (try simp (disch := omega) only [wrap_of, toN, nA, n1, mr2, mr3, mr4, mr9, mr14, ml2, ml3, ml4, ml7, ml14, ml28])
      rw [H2.w 100 _ (by omega)]
      refine ok_gd (by omega) (ok_ite (fun h0 => ok_some ⟨l2, by rw [if_pos h0]⟩) (fun h0 => ?_))
      rw [if_neg h0]
      refine ok_obn (m_learns H2 d) (fun M3 hM3 => ?_)
      obtain ⟨f3, L3⟩ := hM3
      have l3 : lvM M1 M3 := fun c i q => by rw [f3 c i (by unfold isS isFa isO isX1 isX2 at q; omega)]; exact l2 c i q
      rw [L3.2.2 (2 * s + w) c (by omega) hc2]
      by_cases hB : holdB M d (2 * s + w) c = true
      · rw [if_pos hB]; exact ok_gd (by omega) (ok_ite_f (by decide) (ok_some ⟨l3, rfl⟩))
      · rw [if_neg hB]; exact ok_gd (by omega) (ok_ite_t rfl (ok_some ⟨l3, rfl⟩))
  all_goals (refine alk_ro (ans := -1) I ?_ (fun M1 h1 => ?_))
  all_goals first
    | (unfold f_X10_holds
       rw [I.cf.r11, I.cf.rc, wrap_of (x := (nS M : Int) - 1) (by omega) (by omega)]
       refine ok_gd I.cf.ru (ok_b (c_within _ _ _ _) (fun a1 => ok_ite_f (by decide) ?_) (fun z => ok_ite_t rfl (ok_some ⟨lvC.rf M, rfl⟩)))
       refine ok_b (c_within _ _ _ _) (fun a2 => ok_ite_f (by decide) ?_) (fun z => ok_ite_t rfl (ok_some ⟨lvC.rf M, rfl⟩))
       refine ok_b (c2_has I.cf c) (fun a3 => ok_ite_f (by decide) ?_) (fun z => ok_ite_t rfl (ok_some ⟨lvC.rf M, rfl⟩))
       refine ok_b (c2_isDay I.cf d) (fun a4 => ok_ite_f (by decide) ?_) (fun z => ok_ite_t rfl (ok_some ⟨lvC.rf M, rfl⟩))
       exfalso
       first | exact hs a1 | exact hw a2 | exact hc a3 | exact hd a4)
    | (unfold f_X11_holds
       obtain ⟨M2, e2, H2, f2, l2, g2⟩ := m_start I h1
       refine ok_lt ?_
       rw [e2, H2.s, H2.td, wrap_of (x := (nS M : Int) - 1) (by omega) (by omega)]
       refine ok_b (m_within _ _ _ _) (fun a1 => ok_ite_f (by decide) ?_) (fun z => ok_ite_t rfl (ok_some ⟨l2, rfl⟩))
       refine ok_b (m_within _ _ _ _) (fun a2 => ok_ite_f (by decide) ?_) (fun z => ok_ite_t rfl (ok_some ⟨l2, rfl⟩))
       refine ok_b (m2_isChild H2 c) (fun a3 => ok_ite_f (by decide) ?_) (fun z => ok_ite_t rfl (ok_some ⟨l2, rfl⟩))
       have hdd : f_X11_within d 0 (M 80 14) M2 = some (b2i (okDay M d)) := m_within _ _ _ _
       refine ok_b hdd (fun a4 => ok_ite_f (by decide) ?_) (fun z => ok_ite_t rfl (ok_some ⟨l2, rfl⟩))
       exfalso
       first | exact hs a1 | exact hw a2 | exact hc a3 | exact hd a4)
/-- the i-th that is nobody's WISH -/
def LonR (M : Mem) (i r : Int) : Prop :=
  (∃ j, j < nK M ∧ namedS M j = 0 ∧ cnt (fun c => namedS M c = 0) j = i ∧ (∀ j', j' < j → namedS M j' = 0 → cnt (fun c => namedS M c = 0) j' ≠ i) ∧ r = (j : Int)) ∨
  ((∀ j, j < nK M → namedS M j = 0 → cnt (fun c => namedS M c = 0) j ≠ i) ∧ r = -1)
theorem LonR.uniq {i a b : Int} (ha : LonR M i a) (hb : LonR M i b) : a = b := by
  rcases ha with ⟨j, h1, h2, h3, h4, h5⟩ | ⟨h1, h2⟩
  · rcases hb with ⟨k, g1, g2, g3, g4, g5⟩ | ⟨g1, g2⟩
    · have e : j = k := by
        apply Classical.byContradiction
        intro hne
        by_cases hlt : j < k
        · exact g4 j hlt h2 h3
        · exact h4 k (by omega) g2 g3
      rw [h5, g5, e]
    · exact absurd h3 (g1 j h1 h2)
  · rcases hb with ⟨k, g1, g2, g3, g4, g5⟩ | ⟨g1, g2⟩
    · exact absurd g3 (h1 k g1 g2)
    · rw [h2, g2]
theorem op_lonely (I : Inv M) {i : Int} (hi : inR i) : Alk (pr M (f_X10_lonely i M)) (f_X11_lonely i) := by
  have h14 := I.1.n14
  let p : Nat → Prop := fun c => namedS M c = 0
  let none : Nat → Prop := fun k => ∀ j, j < k → namedS M j = 0 → cnt (fun c => namedS M c = 0) j ≠ i
  refine alk_rel (LonR M i) (fun a b => LonR.uniq) I (ok_pr2 ?_) (fun M1 h1 => ?_)
  · refine ok_mono (P := fun r => LonR M i r) ?_ (fun r hr => ⟨lvC.rf M, hr⟩)
    unfold f_X10_lonely
    refine ok_lpr (P := fun _ => none (nK M)) (P2 := LonR M i) ?_ (fun v hv => ok_some (Or.inr ⟨hv, rfl⟩)) (fun r hr => ok_some hr)
    unfold f_X10_lonely_l4
    refine ok_whl (nK M) (fun k s => s.2 = (k : Int) ∧ s.1 = cnt (fun c => namedS M c = 0) k ∧ none k) (FU_big (by omega)) ⟨rfl, rfl, fun j h => absurd h (by omega)⟩ ?_
    rintro k ⟨v, j⟩ hk ⟨h2, h1, hn⟩
    dsimp only at h1 h2 ⊢
    subst h2 h1
    have b := cnt_b (fun c => namedS M c = 0) k
    have eS := cnt_succ (fun c => namedS M c = 0) k
    unfold f_X10_lonely_s4
    (try simp (disch := omega) only [wrap_of, toN, nA, n1, mr2, mr3, mr4, mr9, mr14, ml2, ml3, ml4, ml7, ml14, ml28, I.cf.n])
    refine ok_ite (fun h => ?_) (fun h => ?_)
    · have e : k = nK M := by omega
      subst e; exact ok_some hn
    have hkn : k < nK M := by omega
    have ext : (namedS M k = 0 → cnt (fun c => namedS M c = 0) k ≠ i) → none (k + 1) := by
      intro z j hj hj2
      by_cases e : j = k
      · subst e; exact z hj2
      · exact hn j (by omega) hj2
    refine ok_e (c_naming I.cf k) ?_
    refine ok_ite (fun h5 => ok_ite (fun h6 => ok_some (Or.inl ⟨k, hkn, h5, h6, hn, rfl⟩)) (fun h6 => ?_)) (fun h5 => ?_)
    · rw [if_pos h5] at eS
      exact ok_lt (ok_lt (ok_some ⟨hkn, rfl, eS.symm, ext (fun _ => h6)⟩))
    · rw [if_neg h5, Int.add_zero] at eS
      exact ok_lt (ok_some ⟨hkn, rfl, eS.symm, ext (fun z => absurd z h5)⟩)
  · unfold f_X11_lonely
    obtain ⟨M2, e2, H2, f2, l2, g2⟩ := m_start I h1
    refine ok_lt ?_
    rw [e2]
    refine ok_lpr (P := fun _ => none (nK M)) (P2 := fun q => lvM M1 q.2 ∧ LonR M i q.1) ?_ (fun v hv => ok_some ⟨l2, Or.inr ⟨hv, rfl⟩⟩) (fun r hr => ok_some hr)
    unfold f_X11_lonely_l9
    refine ok_whl (nK M) (fun k s => s.2 = (k : Int) ∧ s.1 = wrap (i - cnt (fun c => namedS M c = 0) k) ∧ none k) (FU_big (by omega)) ⟨rfl, ?_, fun j h => absurd h (by omega)⟩ ?_
    · show i = wrap (i - 0)
      rw [Int.sub_zero, wrap_id hi]
    rintro k ⟨v, j⟩ hk ⟨h2, h1', hn⟩
    dsimp only at h1' h2 ⊢
    subst h2 h1'
    have b := cnt_b (fun c => namedS M c = 0) k
    have eS := cnt_succ (fun c => namedS M c = 0) k
    have nb := named_b (B := M) k
    unfold f_X11_lonely_s9
    rw [H2.n]
    refine ok_ite (fun h => ?_) (fun h => ?_)
    · have e : k = nK M := by omega
      subst e; exact ok_some hn
    have hkn : k < nK M := by omega
    have ext : (namedS M k = 0 → cnt (fun c => namedS M c = 0) k ≠ i) → none (k + 1) := by
      intro z j hj hj2
      by_cases e : j = k
      · subst e; exact z hj2
      · exact hn j (by omega) hj2
    have w0 := wl0 hi b.1 (show cnt (fun c => namedS M c = 0) k ≤ 14 by omega)
    rw [wrap_n1 (k := k) (by omega)]
    refine ok_e (m2_namedBy H2 k) ?_
    refine ok_ite (fun h5 => ok_ite (fun h6 => ok_some ⟨l2, Or.inl ⟨k, hkn, ?_, (w0.mp h6).symm, hn, rfl⟩⟩) (fun h6 => ?_)) (fun h5 => ?_)
    · clear w0 h6; omega
    · have h50 : namedS M k = 0 := by clear w0 h6; omega
      rw [if_pos h50] at eS
      rw [wl1]
      exact ok_lt (ok_lt (ok_some ⟨hkn, rfl, by rw [eS], ext (fun _ z => h6 (w0.mpr z.symm))⟩))
    · have h50 : ¬ namedS M k = 0 := by clear w0; omega
      rw [if_neg h50, Int.add_zero] at eS
      exact ok_lt (ok_some ⟨hkn, rfl, by rw [eS], ext (fun z => absurd z h50)⟩)
theorem op_count (I : Inv M) (w : Int) : Alk (f_X10_count w M) (f_X11_count w) := by
  have h14 := I.1.n14
  have h3 := I.1.k23
  have hk := I.1.k
  refine alk_ro (ans := if w < 0 ∨ 9 < w then (if 20 ≤ w ∧ w ≤ 22 then M 91 (w - 20).toNat else if 10 ≤ w ∧ w ≤ 9 + (nC M : Int) then inG M (GP M (lsP M) (w - 10).toNat) else -1) else if w = 0 then M 80 1 else if w = 1 then M 80 12 else if w = 2 then M 80 14 else if w = 3 then M 80 15 else if w = 4 then M 80 32 else if w = 5 then cnt (fun c => M 110 c ≠ -1) (nK M) else if w = 6 then M 80 55 else if w = 7 then M 80 21 else if w = 8 then M 80 50 else M 80 56) I ?_ (fun M1 h1 => ?_)
  · unfold f_X10_count
    have L := lvC.rf M
    refine ok_ite (fun h => ?_) (fun h => ?_)
    · rw [if_pos h]
      refine ok_bnd (P := fun q => lvC M q.2 ∧ q.1 = if 20 ≤ w ∧ w ≤ 22 then M 91 (w - 20).toNat else if 10 ≤ w ∧ w ≤ 9 + (nC M : Int) then inG M (GP M (lsP M) (w - 10).toNat) else -1) ?_ (fun r M' hM' => ok_some hM')
      unfold f_X10_countClass
      rw [I.cf.k, wrap_of (x := 9 + (nC M : Int)) (by omega) (by omega)]
      refine ok_b (c_within _ _ _ _) (fun h2 => ?_) (fun h2 => ?_)
      · rw [if_neg (show ¬ (20 ≤ w ∧ w ≤ 22) by omega), if_pos h2]
        obtain ⟨k, hk2⟩ : ∃ k : Nat, w - 10 = (k : Int) := ⟨(w - 10).toNat, by omega⟩
        refine ok_ite_f (by decide) (ok_obn (c_gather I.cf (fun c hc => by rw [I.l1]; exact I.lsb (by omega))) (fun M2 hM2 => ?_))
        obtain ⟨f2, g2⟩ := hM2
        rw [lsP_gp I] at g2
        rw [wrap_of (x := w - 10) (by omega) (by omega), hk2, toN]
        refine ok_gd (by omega) (ok_e (c_inG I.1 (g2 k (by omega)) M2) (ok_some ⟨lvC.of (fun c i z => f2 c i (by unfold frC at z; omega)), rfl⟩))
      · refine ok_ite_t rfl (ok_b (c_within _ _ _ _) (fun h4 => ?_) (fun h4 => ok_ite_t rfl (ok_some ⟨L, by rw [if_neg h4, if_neg h2]⟩)))
        rw [if_pos h4, wrap_of (x := w - 20) (by omega) (by omega)]
        exact ok_ite_f (by decide) (ok_gd (by omega) (ok_some ⟨L, I.1.e16 _⟩))
    rw [if_neg h]
    refine ok_ite (fun z => ok_some ⟨L, by rw [if_pos z]; exact I.1.a1.2.2⟩) (fun z => ?_); rw [if_neg z]
    refine ok_ite (fun z => ok_some ⟨L, by rw [if_pos z]; exact I.1.a2.1⟩) (fun z => ?_); rw [if_neg z]
    refine ok_ite (fun z => ok_some ⟨L, by rw [if_pos z]; exact I.1.a3.1⟩) (fun z => ?_); rw [if_neg z]
    refine ok_ite (fun z => ok_some ⟨L, by rw [if_pos z]; exact I.1.a4.1⟩) (fun z => ?_); rw [if_neg z]
    refine ok_ite (fun z => ok_some ⟨L, by rw [if_pos z]; exact I.2.1.o9.1⟩) (fun z => ?_); rw [if_neg z]
    refine ok_ite (fun z => ok_e (c_countListed I.cf) (ok_some ⟨L, by rw [if_pos z]; exact cntl I⟩)) (fun z => ?_); rw [if_neg z]
    refine ok_ite (fun z => ok_some ⟨L, by rw [if_pos z]; exact I.2.1.o5⟩) (fun z => ?_); rw [if_neg z]
    refine ok_ite (fun z => ok_gd I.1.r1.1 (ok_some ⟨L, by rw [if_pos z]; exact I.1.r1.2.2.2.1⟩)) (fun z => ?_); rw [if_neg z]
    refine ok_ite (fun z => ok_some ⟨L, by rw [if_pos z]; exact I.2.1.o7.1⟩) (fun z => ?_); rw [if_neg z]
    exact ok_ite (fun z => ok_some ⟨L, I.2.1.o8.1⟩) (fun z => absurd z (by omega))
  · unfold f_X11_count
    obtain ⟨M2, e2, H2, f2, l2, g2⟩ := m_start I h1
    refine ok_lt ?_
    rw [e2]
    have v : ∀ i, i ≠ 0 → M2 80 i = M 80 i := fun i hi => g2 80 i (by omega) (by omega)
    refine ok_ite (fun h => ?_) (fun h => ?_)
    · rw [if_pos h]
      refine ok_b (m_within _ _ _ _) (fun h2 => ?_) (fun h2 => ?_)
      · rw [if_pos h2, wrap_of (x := w - 20) (by omega) (by omega)]
        exact ok_ite_f (by decide) (ok_gd (by omega) (ok_some ⟨l2, H2.w 91 _ (by omega)⟩))
      · rw [if_neg h2, H2.k, wrap_of (x := 9 + (nC M : Int)) (by omega) (by omega)]
        refine ok_ite_t rfl (ok_b (m_within _ _ _ _) (fun h4 => ?_) (fun h4 => ok_ite_t rfl (ok_some ⟨l2, by rw [if_neg h4]⟩)))
        rw [if_pos h4]
        obtain ⟨k, hk2⟩ : ∃ k : Nat, w - 10 = (k : Int) := ⟨(w - 10).toNat, by omega⟩
        have hl : f_X11_count_l153 w M2 0 0 = some (inG M (GP M (lsP M) k), (nK M : Int)) := by
          unfold f_X11_count_l153
          have e : inG M (GP M (lsP M) k) = cnt (fun c => M 110 c = (k : Int)) (nK M) := cnt_congr (fun c hc => by rw [GP_iff]; exact ⟨fun z => z.2, fun z => ⟨hc, z⟩⟩)
          rw [e]
          refine whl_cnt (n := nK M) (by omega) (fun c => M 110 c = (k : Int)) (fun c hc v h0 h1 => ?_) (fun v => ?_)
          · have e110 := g2 110 c (by omega) (by omega)
            unfold f_X11_count_s153
            rw [wrap_of (x := w - 10) (by omega) (by omega), hk2]
            (try simp (disch := omega) only [wrap_of, toN, nA, n1, mr2, mr3, mr4, mr9, mr14, ml2, ml3, ml4, ml7, ml14, ml28, H2.n, e110])
            (repeat' (first | (with_reducible refine ok_ltw ?_ ?_; (· omega)) | (with_reducible refine ok_lt ?_) | (with_reducible refine ok_gd ?_ ?_; (· omega)) | (with_reducible refine ok_ite_t ?_ ?_; (· omega)) | (with_reducible refine ok_ite_f ?_ ?_; (· omega)) | (with_reducible refine ok_ite (fun _ => ?_) (fun _ => ?_)) | (with_reducible refine ok_some ?_)))
            all_goals (first | rfl | (rw [if_pos (by omega)]) | (rw [if_neg (by omega)]; done) | (rw [if_neg (by omega), Int.add_zero]) | (simp_all; done))
          · unfold f_X11_count_s153
            (try simp (disch := omega) only [wrap_of, toN, nA, n1, mr2, mr3, mr4, mr9, mr14, ml2, ml3, ml4, ml7, ml14, ml28, H2.n])
            exact ok_ite_t (by omega) (ok_some rfl)
        refine ok_ite_f (by decide) (ok_e hl ?_)
        unfold f_X11_count_j188
        exact ok_some ⟨l2, by rw [hk2, toN]⟩
    rw [if_neg h]
    refine ok_ite (fun z => ok_some ⟨l2, by rw [if_pos z]; exact v 1 (by omega)⟩) (fun z => ?_); rw [if_neg z]
    refine ok_ite (fun z => ok_some ⟨l2, by rw [if_pos z]; exact v 12 (by omega)⟩) (fun z => ?_); rw [if_neg z]
    refine ok_ite (fun z => ok_some ⟨l2, by rw [if_pos z]; exact v 14 (by omega)⟩) (fun z => ?_); rw [if_neg z]
    refine ok_ite (fun z => ok_some ⟨l2, by rw [if_pos z]; exact v 15 (by omega)⟩) (fun z => ?_); rw [if_neg z]
    refine ok_ite (fun z => ok_some ⟨l2, by rw [if_pos z]; exact v 32 (by omega)⟩) (fun z => ?_); rw [if_neg z]
    refine ok_ite (fun z => ok_e (m_listed H2) (ok_some ⟨l2, by rw [if_pos z]; exact cnt_congr (fun c _ => by rw [g2 110 c (by omega) (by omega)])⟩)) (fun z => ?_); rw [if_neg z]
    refine ok_ite (fun z => ok_some ⟨l2, by rw [if_pos z]; exact v 55 (by omega)⟩) (fun z => ?_); rw [if_neg z]
    refine ok_ite (fun z => ok_some ⟨l2, by rw [if_pos z]; exact v 21 (by omega)⟩) (fun z => ?_); rw [if_neg z]
    refine ok_ite (fun z => ok_some ⟨l2, by rw [if_pos z]; exact v 50 (by omega)⟩) (fun z => ?_); rw [if_neg z]
    exact ok_ite (fun z => ok_some ⟨l2, v 56 (by omega)⟩) (fun z => absurd z (by omega))
end ASK2
