/-! THE LIST, in the class and in the model -/
theorem GP_congr {B : Mem} {P Q : Nat → Int} (h : ∀ c, c < nK B → P c = Q c) : GP B P = GP B Q := by
  funext k c
  unfold GP
  by_cases hc : c < nK B
  · rw [h c hc]
  · rw [decide_eq_false hc, Bool.false_and, Bool.false_and]
def lsP (M : Mem) : Nat → Int := fun c => M 110 c
theorem Inv.lsb {M : Mem} (I : Inv M) {c : Nat} (hc : c < 14) : -1 ≤ M 110 c ∧ M 110 c < 3 := by
  have := I.2.1.ls c hc
  have := I.1.a2.2
  omega
theorem Inv.pb {M : Mem} (I : Inv M) : PB M (lsP M) := by
  intro c hc
  have h14 := I.1.n14
  have := (I.2.1.ls c (by omega)).1
  have := I.1.k
  unfold lsP
  omega
section LIST
variable {B M : Mem}
theorem c_gather (H : CF B M) (hl : ∀ c, c < nK B → -1 ≤ M 1 c ∧ M 1 c < 3) : Okk (f_X10_gatherList M) (fun M' => (∀ c i, c ≠ 2 → M' c i = M c i) ∧ ∀ k, k < 3 → gIs B (M' 2 k) (GP B (fun c => M 1 c) k)) := by
  have h14 := H.1.n14
  unfold f_X10_gatherList
  refine ok_obn (c_fill 2 (by decide +kernel) 0 M) (fun M1 hM1 => ?_)
  have ha : aln 2 = 3 := by decide +kernel
  rw [ha] at hM1
  have f1 : ∀ c i, c ≠ 2 → M1 c i = M c i := fun c i q => by rw [hM1]; exact if_neg (fun z => q z.1)
  have z1 : ∀ k, k < 3 → M1 2 k = 0 := fun k hk => by rw [hM1]; exact if_pos ⟨rfl, hk⟩
  clear hM1
  refine ok_obn (P := fun s => (∀ c i, c ≠ 2 → s.2 c i = M c i) ∧ ∀ k, k < 3 → gIs B (s.2 2 k) (GP B (fun c => M 1 c) k)) ?_ (fun s hs => ok_some hs)
  unfold f_X10_gatherList_l10
  refine ok_whl (nK B) (fun a s => s.1 = (a : Int) ∧ (∀ c i, c ≠ 2 → s.2 c i = M c i) ∧ ∀ k : Nat, k < 3 → mIs (s.2 2 k) (fun c => decide (c < a) && decide (M 1 c = (k : Int)))) (FU_big (by omega)) ⟨rfl, f1, fun k hk => ?_⟩ ?_
  · show mIs (M1 2 k) _
    rw [z1 k hk]
    exact mIs_0.congr (fun c _ => by rw [decide_eq_false (by omega), Bool.false_and])
  rintro a ⟨v, M2⟩ ha2 ⟨h1, hF, hm⟩
  dsimp only at h1 hF hm ⊢
  subst h1
  have H2 : CF B M2 := H.fr (fun c i q => hF c i (by unfold isC at q; omega))
  unfold f_X10_gatherList_s10
  (try simp (disch := omega) only [wrap_of, toN, nA, n1, mr2, mr3, mr4, mr9, mr14, ml2, ml3, ml4, ml7, ml14, ml28, H2.n])
  rw [hF 1 a (by omega)]
  refine ok_ite (fun h => ?_) (fun h => ?_)
  · have e : a = nK B := by omega
    subst e
    refine ok_some ⟨hF, fun k hk => ⟨(hm k hk), fun c hc1 hc2 => GP_far hc1⟩⟩
  have han : a < nK B := by omega
  have b := hl a han
  have hd : ∀ c, c ≠ a → decide (c < a + 1) = decide (c < a) := fun c hc => decide_eq_decide.mpr (by omega)
  refine ok_gd (by omega) (ok_lt ?_)
  have skip : M 1 a < 0 → ∀ k : Nat, k < 3 → mIs (M2 2 k) (fun c => decide (c < a + 1) && decide (M 1 c = (k : Int))) := by
    intro hneg k hk
    refine (hm k hk).congr (fun c hc => ?_)
    by_cases e : c = a
    · subst e; rw [decide_eq_false (show ¬ M 1 c = (k : Int) by omega), Bool.and_false, Bool.and_false]
    · rw [hd c e]
  refine ok_ite (fun h5 => ok_lt (ok_some ⟨han, rfl, hF, skip h5⟩)) (fun h5 => ok_ite_f (by omega) ?_)
  obtain ⟨k0, hk0⟩ : ∃ k0 : Nat, M 1 a = (k0 : Int) := ⟨(M 1 a).toNat, by omega⟩
  rw [hk0, toN]
  refine ok_gd (by omega) (ok_gd (by omega) (ok_lt (ok_lt (ok_some ⟨han, rfl, fun c i q => ?_, fun k hk => ?_⟩))))
  · try dsimp only
    rw [mup_o _ _ (by omega)]; exact hF c i q
  · try dsimp only
    by_cases ek : k = k0
    · subst ek
      rw [mup_s]
      refine (mIs_or (hm k hk) (mIs_1 (j := a) (by omega))).congr (fun c hc => ?_)
      by_cases e : c = a
      · subst e; simp [hk0]
      · rw [hd c e, decide_eq_false e, Bool.or_false]
    · rw [mup_o _ _ (by omega)]
      refine (hm k hk).congr (fun c hc => ?_)
      by_cases e : c = a
      · subst e; rw [decide_eq_false (show ¬ M 1 c = (k : Int) by omega), Bool.and_false, Bool.and_false]
      · rw [hd c e]
theorem c_countListed (H : CF B M) : f_X10_countListed M = some (cnt (fun c => M 1 c ≠ -1) (nK B)) := by
  have h14 := H.1.n14
  unfold f_X10_countListed f_X10_countListed_l4
  refine (obn_e _ (whl_cnt (n := nK B) (by omega) (fun c => M 1 c ≠ -1) (fun k hk v h0 h1 => ?_) (fun v => ?_))).trans rfl
  · unfold f_X10_countListed_s4
    (try simp (disch := omega) only [wrap_of, toN, nA, n1, mr2, mr3, mr4, mr9, mr14, ml2, ml3, ml4, ml7, ml14, ml28, H.n])
    (repeat' (first | (with_reducible refine ok_ltw ?_ ?_; (· omega)) | (with_reducible refine ok_lt ?_) | (with_reducible refine ok_gd ?_ ?_; (· omega)) | (with_reducible refine ok_ite_t ?_ ?_; (· omega)) | (with_reducible refine ok_ite_f ?_ ?_; (· omega)) | (with_reducible refine ok_ite (fun _ => ?_) (fun _ => ?_)) | (with_reducible refine ok_some ?_)))
    all_goals (first | rfl | (rw [if_pos (by omega)]) | (rw [if_neg (by omega)]; done) | (rw [if_neg (by omega), Int.add_zero]) | (simp_all; done))
  · unfold f_X10_countListed_s4
    (try simp (disch := omega) only [wrap_of, toN, nA, n1, mr2, mr3, mr4, mr9, mr14, ml2, ml3, ml4, ml7, ml14, ml28, H.n])
    (repeat' (first | (with_reducible refine ok_ltw ?_ ?_; (· omega)) | (with_reducible refine ok_lt ?_) | (with_reducible refine ok_gd ?_ ?_; (· omega)) | (with_reducible refine ok_ite_t ?_ ?_; (· omega)) | (with_reducible refine ok_ite_f ?_ ?_; (· omega)) | (with_reducible refine ok_ite (fun _ => ?_) (fun _ => ?_)) | (with_reducible refine ok_some ?_)))
    all_goals (first | rfl | (rw [if_pos (by omega)]) | (rw [if_neg (by omega)]; done) | (rw [if_neg (by omega), Int.add_zero]) | (simp_all; done))
theorem m_listed (H : MF B M) : f_X11_listed M = some (cnt (fun c => M 110 c ≠ -1) (nK B)) := by
  have h14 := H.1.n14
  unfold f_X11_listed f_X11_listed_l4
  refine (obn_e _ (whl_cnt (n := nK B) (by omega) (fun c => M 110 c ≠ -1) (fun k hk v h0 h1 => ?_) (fun v => ?_))).trans rfl
  · unfold f_X11_listed_s4
    (try simp (disch := omega) only [wrap_of, toN, nA, n1, mr2, mr3, mr4, mr9, mr14, ml2, ml3, ml4, ml7, ml14, ml28, H.n])
    (repeat' (first | (with_reducible refine ok_ltw ?_ ?_; (· omega)) | (with_reducible refine ok_lt ?_) | (with_reducible refine ok_gd ?_ ?_; (· omega)) | (with_reducible refine ok_ite_t ?_ ?_; (· omega)) | (with_reducible refine ok_ite_f ?_ ?_; (· omega)) | (with_reducible refine ok_ite (fun _ => ?_) (fun _ => ?_)) | (with_reducible refine ok_some ?_)))
    all_goals (first | rfl | (rw [if_pos (by omega)]) | (rw [if_neg (by omega)]; done) | (rw [if_neg (by omega), Int.add_zero]) | (simp_all; done))
  · unfold f_X11_listed_s4
    (try simp (disch := omega) only [wrap_of, toN, nA, n1, mr2, mr3, mr4, mr9, mr14, ml2, ml3, ml4, ml7, ml14, ml28, H.n])
    (repeat' (first | (with_reducible refine ok_ltw ?_ ?_; (· omega)) | (with_reducible refine ok_lt ?_) | (with_reducible refine ok_gd ?_ ?_; (· omega)) | (with_reducible refine ok_ite_t ?_ ?_; (· omega)) | (with_reducible refine ok_ite_f ?_ ?_; (· omega)) | (with_reducible refine ok_ite (fun _ => ?_) (fun _ => ?_)) | (with_reducible refine ok_some ?_)))
    all_goals (first | rfl | (rw [if_pos (by omega)]) | (rw [if_neg (by omega)]; done) | (rw [if_neg (by omega), Int.add_zero]) | (simp_all; done))
theorem m_looks (H : MF B M) : Okk (f_X11_looks M) (fun M' => (∀ c i, ¬ (106 ≤ c ∧ c ≤ 108) → M' c i = M c i) ∧ LR B (B 80 14) M' ∧ ∀ c, c < nK B → M' 108 c = M 110 c) := by
  have h14 := H.1.n14
  unfold f_X11_looks
  rw [H.td]
  refine ok_obn (m_learns H (B 80 14)) (fun M1 hM1 => ?_)
  obtain ⟨f1, L1⟩ := hM1
  refine ok_obn (P := fun s => (∀ c i, c ≠ 108 → s.2 c i = M1 c i) ∧ ∀ c, c < nK B → s.2 108 c = M 110 c) ?_ (fun s hs => ?_)
  · unfold f_X11_looks_l10
    refine ok_whl (nK B) (fun k s => s.1 = (k : Int) ∧ (∀ c i, c ≠ 108 → s.2 c i = M1 c i) ∧ ∀ c, c < k → s.2 108 c = M 110 c) (FU_big (by omega)) ⟨rfl, fun _ _ _ => rfl, fun c h => absurd h (by omega)⟩ ?_
    rintro k ⟨v, M2⟩ hk ⟨h1, hF, hT⟩
    dsimp only at h1 hF hT ⊢
    subst h1
    have e1 : M2 80 1 = (nK B : Int) := by rw [hF 80 1 (by omega)]; exact L1.1.n
    unfold f_X11_looks_s10
    (try simp (disch := omega) only [wrap_of, toN, nA, n1, mr2, mr3, mr4, mr9, mr14, ml2, ml3, ml4, ml7, ml14, ml28, e1])
    refine ok_ite (fun h => ?_) (fun h => ?_)
    · have e : k = nK B := by omega
      subst e; exact ok_some ⟨hF, hT⟩
    have hkn : k < nK B := by omega
    refine ok_gd (by omega) (ok_gd (by omega) (ok_lt (ok_lt (ok_some ⟨hkn, rfl, fun c i q => ?_, fun c hc => ?_⟩))))
    · try dsimp only
      rw [mup_o _ _ (by omega)]; exact hF c i q
    · try dsimp only
      by_cases e : c = k
      · subst e; rw [mup_s, hF 110 c (by omega), f1 110 c (by omega)]
      · rw [mup_o _ _ (by omega)]; exact hT c (by omega)
  · obtain ⟨v, M2⟩ := s
    obtain ⟨f2, t2⟩ := hs
    dsimp only at f2 t2 ⊢
    unfold f_X11_looks_j36
    exact ok_some ⟨fun c i q => by rw [f2 c i (by omega), f1 c i (by omega)], L1.fr (fun c i q => f2 c i (by unfold isFa at q; omega)), t2⟩
end LIST
/-! calls that change nothing that counts -/
/-- a run of the class, of the model: what they leave -/
def lvC (M M1 : Mem) : Prop := ∀ c i, isS c i ∨ 80 ≤ c → M1 c i = M c i
def lvM (M1 M2 : Mem) : Prop := ∀ c i, isS c i → M2 c i = M1 c i
theorem lvC.rf (M : Mem) : lvC M M := fun _ _ _ => rfl
theorem lvC.mf {M M1 : Mem} (h : lvC M M1) (I : Inv M) : MF M M1 := ⟨I.1, fun c i q => h c i (Or.inl (Or.inl q))⟩
theorem alk_ro {M : Mem} {x : Option Res} {y : Mem → Option Res} {ans : Int} (I : Inv M) (h1 : Okk x (fun q => lvC M q.2 ∧ q.1 = ans)) (h2 : ∀ M1, lvC M M1 → Okk (y M1) (fun q => lvM M1 q.2 ∧ q.1 = ans)) : Alk x y := by
  refine ok_mono h1 (fun q hq => ok_mono (h2 q.2 hq.1) (fun q2 hq2 => ⟨by rw [hq2.2, hq.2], I.congr (fun c i z => by rw [hq2.1 c i z, hq.1 c i (Or.inl z)])⟩))
theorem alk_pr {M : Mem} {x : Option Int} {y : Mem → Option Res} {ans : Int} (I : Inv M) (h1 : x = some ans) (h2 : Okk (y M) (fun q => lvM M q.2 ∧ q.1 = ans)) : Alk (pr M x) y := by
  rw [ok_pr h1]
  exact ok_some (ok_mono h2 (fun q2 hq2 => ⟨hq2.2, I.congr (fun c i z => hq2.1 c i z)⟩))
/-- cells of the class, of the model, that may be anything -/
def frC (c : Nat) : Prop := c = 2 ∨ (23 ≤ c ∧ c ≤ 34 ∧ c ≠ 24 ∧ c ≠ 25 ∧ c ≠ 29) ∨ (53 ≤ c ∧ c ≤ 56)
def frM (c i : Nat) : Prop := (c = 80 ∧ (i = 0 ∨ i = 46)) ∨ (106 ≤ c ∧ c ≤ 108) ∨ c = 111 ∨ c = 113
theorem lvC.of {M M1 : Mem} (h : ∀ c i, ¬ frC c → M1 c i = M c i) : lvC M M1 := fun c i q => h c i (by
  unfold isS isFa isO isX1 isX2 at q
  unfold frC
  omega)
theorem lvM.of {M1 M2 : Mem} (h : ∀ c i, ¬ frM c i → M2 c i = M1 c i) : lvM M1 M2 := fun c i q => h c i (by
  unfold isS isFa isO isX1 isX2 at q
  unfold frM
  omega)
theorem Inv.cf {M : Mem} (I : Inv M) : CF M M := CF.rf I.1
theorem th0 (M : Mem) : ∃ M', mup M 80 0 0 = M' ∧ ∀ c i, ¬ (c = 80 ∧ i = 0) → M' c i = M c i := ⟨_, rfl, fun _ _ h => mup_o _ _ h⟩
theorem isB_b2i (p : Prop) [Decidable p] : isB (b2i p) p := by
  unfold b2i
  by_cases h : p
  · rw [if_pos h]; exact isB.one h
  · rw [if_neg h]; exact isB.zero h
/-- the class's and the model's list are one -/
theorem Inv.l1 {M : Mem} (I : Inv M) (c : Nat) : M 1 c = M 110 c := I.2.1.e1 c
theorem lsP_gp {M : Mem} (I : Inv M) : GP M (fun c => M 1 c) = GP M (lsP M) := GP_congr (fun c _ => I.l1 c)
theorem cntl {M : Mem} (I : Inv M) : cnt (fun c => M 1 c ≠ -1) (nK M) = cnt (fun c => M 110 c ≠ -1) (nK M) := cnt_congr (fun c _ => by rw [I.l1 c])
