/-! make: the class's STEPS, in their order -/
section STEPS
variable {B M : Mem} {known : Int}
theorem c_byMove {P : Nat → Int} {tk : Int} {M0 : Mem} (X : CS B known P tk M0 M) (hV : VP B P) :
    Okk (f_X2_stepsByMove M) (fun q => (q.1 = 0 ∧ noMv B known P ∧ CS B known P tk M0 q.2) ∨ (q.1 = 1 ∧ ∃ c k, isMv B known P c k ∧ CS B known (upP P c (k : Int)) tk M0 q.2)) := by
  have h3 := X.1.c.1.k23
  have h14 := X.1.c.1.n14
  unfold f_X2_stepsByMove
  refine ok_lpr (P := fun s => noMv B known P ∧ CS B known P tk M0 s.2) (P2 := fun q => q.1 = 1 ∧ ∃ c k, isMv B known P c k ∧ CS B known (upP P c (k : Int)) tk M0 q.2) ?_ (fun s hs => by unfold f_X2_stepsByMove_j71; exact ok_some (Or.inl ⟨rfl, hs⟩)) (fun t ht => ok_some (Or.inr ht))
  unfold f_X2_stepsByMove_l2
  refine ok_whl (nK B) (fun c s => s.1 = (c : Int) ∧ CS B known P tk M0 s.2 ∧ ∀ c', c' < c → ∀ k', ¬ mvOK B known P c' k') (FU_big (by omega)) ⟨rfl, X, fun c' h => absurd h (by omega)⟩ ?_
  rintro c ⟨u, N⟩ hc ⟨hu, XN, hno⟩
  dsimp only at hu XN hno ⊢
  subst hu
  unfold f_X2_stepsByMove_s2
  rw [XN.1.c.n, toN]
  refine ok_ite (fun h => ?_) (fun h => ?_)
  · have e : c = nK B := by omega
    subst e; exact ok_some ⟨hno, XN⟩
  have hcn : c < nK B := by omega
  have hv := hV c hcn
  obtain ⟨a, ha⟩ : ∃ a : Nat, P c = (a : Int) := ⟨(P c).toNat, by omega⟩
  rw [XN.2.2.2.1 c hcn, ha]
  refine ok_gd (by omega) (ok_lt (ok_lpr (P := fun s => CS B known P tk M0 s.2 ∧ ∀ k', ¬ mvOK B known P c k') (P2 := fun q => q.1 = 1 ∧ ∃ c k, isMv B known P c k ∧ CS B known (upP P c (k : Int)) tk M0 q.2) ?_ (fun s hs => ?_) (fun t ht => by exact ok_some ht)))
  · unfold f_X2_stepsByMove_l22
    refine ok_whl (nC B) (fun k s => s.1 = (k : Int) ∧ CS B known P tk M0 s.2 ∧ ∀ k', k' < k → ¬ mvOK B known P c k') (FU_big (by omega)) ⟨rfl, XN, fun k' h => absurd h (by omega)⟩ ?_
    rintro k ⟨u, N1⟩ hk ⟨hu, XN1, hnk⟩
    dsimp only at hu XN1 hnk ⊢
    subst hu
    unfold f_X2_stepsByMove_s22
    rw [XN1.1.c.k, wrap_n1 (by omega)]
    refine ok_ite (fun h => ?_) (fun h => ?_)
    · have e : k = nC B := by omega
      subst e
      refine ok_some ⟨XN1, fun k' z => ?_⟩
      by_cases y : k' < nC B
      · exact hnk k' y z
      · exact y z.1
    have hkC : k < nC B := by omega
    have nx : ¬ mvOK B known P c k → ∀ k', k' < k + 1 → ¬ mvOK B known P c k' := fun z k' hk' => by
      by_cases e : k' = k
      · rw [e]; exact z
      · exact hnk k' (by omega)
    refine ok_ite (fun h5 => ok_lt (ok_some ⟨hkC, rfl, XN1, nx (fun z => z.2.1 (by rw [ha]; exact h5.symm))⟩)) (fun h5 => ?_)
    have m := mv_move (B := B) h14 hcn ha (by omega) (k := k) (by omega) (by omega)
    refine ok_bnd (c_moveBetters XN1 m) (fun r N2 hr => ?_)
    rcases hr with ⟨r0, nb, X2⟩ | ⟨r1, yb, xs2, J2, xf2, xg2, xl2, xh2, xt2⟩
    · dsimp only at r0 nb X2 ⊢
      exact ok_ite_t r0 (ok_lt (ok_some ⟨hkC, rfl, X2, nx (fun z => nb z.2.2)⟩))
    · dsimp only at r1 yb xs2 J2 xf2 xg2 xl2 xh2 xt2 ⊢
      refine ok_ite_f (by omega) ?_
      obtain ⟨N3, e3, f3, v3⟩ := mup_gen N2 50 c (k : Int)
      rw [toN]
      refine ok_gd (by omega) (ok_lt ?_)
      rw [e3]
      have fr3 : ∀ x i, x ≠ 50 → N3 x i = N2 x i := fun x i q => f3 x i (by omega)
      refine ok_some ⟨rfl, c, k, ⟨hcn, ⟨hkC, by rw [ha]; omega, yb⟩, hnk, hno⟩, J2.fr (fun x i q => fr3 x i (by unfold isC at q; omega)), fun x i q1 q2 q3 => by show N3 x i = _; rw [fr3 x i q3]; exact xf2 x i q1 q2 q3, fun j hj => by show gIs B (N3 49 j) _; rw [fr3 49 j (by omega)]; exact xg2 j hj, fun x hx => ?_, ?_, ?_, ?_⟩
      · show N3 50 x = _
        by_cases e : x = c
        · rw [e, upP_at, v3]
        · rw [upP_ne _ _ e, f3 50 x (by omega)]; exact xs2 x hx
      · show N3 48 5 = _; rw [fr3 48 5 (by omega)]; exact xl2
      · show N3 48 6 = _; rw [fr3 48 6 (by omega)]; exact xh2
      · show N3 48 4 = _; rw [fr3 48 4 (by omega)]; exact xt2
  · unfold f_X2_stepsByMove_j65k2
    rw [wrap_n1 (by omega)]
    refine ok_lt (ok_some ⟨hcn, rfl, hs.1, fun c' hc' => ?_⟩)
    by_cases e : c' = c
    · rw [e]; exact hs.2
    · exact hno c' (by omega)
theorem c_bySwap {P : Nat → Int} {tk : Int} {M0 : Mem} (X : CS B known P tk M0 M) (hV : VP B P) :
    Okk (f_X2_stepsBySwap M) (fun q => (q.1 = 0 ∧ noSw B known P ∧ CS B known P tk M0 q.2) ∨ (q.1 = 1 ∧ ∃ a b, isSw B known P a b ∧ CS B known (swL P a b) tk M0 q.2)) := by
  have h3 := X.1.c.1.k23
  have h14 := X.1.c.1.n14
  unfold f_X2_stepsBySwap
  refine ok_lpr (P := fun s => noSw B known P ∧ CS B known P tk M0 s.2) (P2 := fun q => q.1 = 1 ∧ ∃ a b, isSw B known P a b ∧ CS B known (swL P a b) tk M0 q.2) ?_ (fun s hs => by unfold f_X2_stepsBySwap_j95; exact ok_some (Or.inl ⟨rfl, hs⟩)) (fun t ht => ok_some (Or.inr ht))
  unfold f_X2_stepsBySwap_l2
  refine ok_whl (nK B) (fun a s => s.1 = (a : Int) ∧ CS B known P tk M0 s.2 ∧ ∀ a', a' < a → ∀ b', a' < b' → b' < nK B → ¬ swOK B known P a' b') (FU_big (by omega)) ⟨rfl, X, fun c' h => absurd h (by omega)⟩ ?_
  rintro a ⟨u, N⟩ hc ⟨hu, XN, hno⟩
  dsimp only at hu XN hno ⊢
  subst hu
  unfold f_X2_stepsBySwap_s2
  rw [XN.1.c.n]
  refine ok_ite (fun h => ?_) (fun h => ?_)
  · have e : a = nK B := by omega
    subst e; exact ok_some ⟨fun a' b' h1 h2 => hno a' (by omega) b' h1 h2, XN⟩
  have han : a < nK B := by omega
  have hva := hV a han
  obtain ⟨ka, hka⟩ : ∃ k : Nat, P a = (k : Int) := ⟨(P a).toNat, by omega⟩
  rw [wrap_n1 (by omega)]
  refine ok_lt (ok_lpr (P := fun s => CS B known P tk M0 s.2 ∧ ∀ b', a < b' → b' < nK B → ¬ swOK B known P a b') (P2 := fun q => q.1 = 1 ∧ ∃ a b, isSw B known P a b ∧ CS B known (swL P a b) tk M0 q.2) ?_ (fun s hs => ?_) (fun t ht => by exact ok_some ht))
  · unfold f_X2_stepsBySwap_l17
    refine ok_whl (nK B - (a + 1)) (fun j s => s.1 = ((a + 1 + j : Nat) : Int) ∧ CS B known P tk M0 s.2 ∧ ∀ b', a < b' → b' < a + 1 + j → ¬ swOK B known P a b') (FU_big (by omega)) ⟨rfl, XN, fun b' h1 h2 => absurd h1 (by omega)⟩ ?_
    rintro j ⟨u, N1⟩ hj ⟨hu, XN1, hnb⟩
    dsimp only at hu XN1 hnb ⊢
    subst hu
    unfold f_X2_stepsBySwap_s17
    rw [XN1.1.c.n, toN, toN, wrap_n1 (by omega)]
    refine ok_ite (fun h => ?_) (fun h => ?_)
    · have e : a + 1 + j = nK B := by omega
      rw [e] at hnb
      exact ok_some ⟨XN1, hnb⟩
    have hbn : a + 1 + j < nK B := by omega
    have hvb := hV (a + 1 + j) hbn
    obtain ⟨kb, hkb⟩ : ∃ k : Nat, P (a + 1 + j) = (k : Int) := ⟨(P (a + 1 + j)).toNat, by omega⟩
    rw [XN1.2.2.2.1 a han, XN1.2.2.2.1 _ hbn, hka, hkb]
    have nx : ¬ swOK B known P a (a + 1 + j) → ∀ b', a < b' → b' < a + 1 + (j + 1) → ¬ swOK B known P a b' := fun z b' h1 h2 => by
      by_cases e : b' = a + 1 + j
      · rw [e]; exact z
      · exact hnb b' h1 (by omega)
    refine ok_gd (by omega) (ok_lt (ok_gd (by omega) (ok_lt ?_)))
    refine ok_ite (fun h5 => ok_lt (ok_some ⟨by omega, by show ((a + 1 + j + 1 : Nat) : Int) = _; omega, XN1, nx (fun z => z.1 (by rw [hka, hkb]; exact h5))⟩)) (fun h5 => ?_)
    have m := mv_swap (B := B) h14 han hbn (by omega) hka hkb (by omega) (by omega) (by omega)
    refine ok_bnd (c_moveBetters XN1 m) (fun r N2 hr => ?_)
    rcases hr with ⟨r0, nb, X2⟩ | ⟨r1, yb, xs2, J2, xf2, xg2, xl2, xh2, xt2⟩
    · dsimp only at r0 nb X2 ⊢
      exact ok_ite_t r0 (ok_lt (ok_some ⟨by omega, by show ((a + 1 + j + 1 : Nat) : Int) = _; omega, X2, nx (fun z => nb z.2)⟩))
    · dsimp only at r1 yb xs2 J2 xf2 xg2 xl2 xh2 xt2 ⊢
      refine ok_ite_f (by omega) ?_
      obtain ⟨N3, e3, f3, v3⟩ := mup_gen N2 50 a (kb : Int)
      refine ok_gd (by omega) (ok_lt ?_)
      rw [e3]
      obtain ⟨N4, e4, f4, v4⟩ := mup_gen N3 50 (a + 1 + j) (ka : Int)
      refine ok_gd (by omega) (ok_lt ?_)
      rw [e4]
      have fr4 : ∀ x i, x ≠ 50 → N4 x i = N2 x i := fun x i q => by rw [f4 x i (by omega), f3 x i (by omega)]
      refine ok_some ⟨rfl, a, a + 1 + j, ⟨by omega, hbn, ⟨by rw [hka, hkb]; omega, yb⟩, hnb, hno⟩, J2.fr (fun x i q => fr4 x i (by unfold isC at q; omega)), fun x i q1 q2 q3 => by show N4 x i = _; rw [fr4 x i q3]; exact xf2 x i q1 q2 q3, fun j hj => by show gIs B (N4 49 j) _; rw [fr4 49 j (by omega)]; exact xg2 j hj, fun x hx => ?_, ?_, ?_, ?_⟩
      · show N4 50 x = _
        by_cases e : x = a
        · rw [e, swL_a, f4 50 a (by omega), v3, hkb]
        · by_cases e2 : x = a + 1 + j
          · rw [e2, swL_b (by omega), v4, hka]
          · rw [swL_o e e2, f4 50 x (by omega), f3 50 x (by omega)]; exact xs2 x hx
      · show N4 48 5 = _; rw [fr4 48 5 (by omega)]; exact xl2
      · show N4 48 6 = _; rw [fr4 48 6 (by omega)]; exact xh2
      · show N4 48 4 = _; rw [fr4 48 4 (by omega)]; exact xt2
  · unfold f_X2_stepsBySwap_j89k2
    rw [wrap_n1 (by omega)]
    refine ok_lt (ok_some ⟨han, rfl, hs.1, fun a' ha' => ?_⟩)
    by_cases e : a' = a
    · rw [e]; exact hs.2
    · exact hno a' (by omega)
end STEPS
