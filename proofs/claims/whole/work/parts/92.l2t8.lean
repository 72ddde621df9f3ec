/-! help: both sides -/
def needS (M : Mem) (k : Nat) : Int := fb_si (fun c => if M 110 c = (k : Int) then toldS M (M 80 14) c 3 else 0) (nK M)
section HELP
variable {M : Mem}
theorem need_b {M : Mem} (hF : Fa M) (k n : Nat) (hn : n ≤ nK M) : 0 ≤ fb_si (fun c => if M 110 c = (k : Int) then toldS M (M 80 14) c 3 else 0) n ∧ fb_si (fun c => if M 110 c = (k : Int) then toldS M (M 80 14) c 3 else 0) n ≤ 1386 := by
  have h14 := hF.n14
  have := si_nn (f := fun c => if M 110 c = (k : Int) then toldS M (M 80 14) c 3 else 0) (b := 99) (n := n) (fun c hc => by
    have := told_b hF (M 80 14) (c := c) (by omega) 3
    try dsimp only
    split <;> omega)
  omega
/-- what the class's HELPERS are given -/
theorem c_needs (I : Inv M) {M1 : Mem} (C1 : CF M M1) (hl : ∀ c, M1 1 c = M 110 c) (hL : Learnt M (M 80 14) M1) (hz : ∀ k, k < 3 → M1 53 k = 0) (p : Int) : Okk (f_X10_help_l46 p 0 M1) (fun s => (∀ c i, c ≠ 53 → s.2 c i = M1 c i) ∧ ∀ k, k < 3 → s.2 53 k = needS M k) := by
  have h14 := I.1.n14
  unfold f_X10_help_l46
  refine ok_whl (nK M) (fun n s => s.1 = (n : Int) ∧ (∀ c i, c ≠ 53 → s.2 c i = M1 c i) ∧ ∀ k : Nat, k < 3 → s.2 53 k = fb_si (fun c => if M 110 c = (k : Int) then toldS M (M 80 14) c 3 else 0) n) (FU_big (by omega)) ⟨rfl, fun _ _ _ => rfl, fun k hk => hz k hk⟩ ?_
  rintro n ⟨u, N⟩ hn ⟨hu, hf, hs⟩
  dsimp only at hu hf hs ⊢
  subst hu
  have CN : CF M N := C1.fr (fun c i q => hf c i (by unfold isC at q; omega))
  have LN : Learnt M (M 80 14) N := hL.fr (fun i => hf 23 i (by omega))
  unfold f_X10_help_s46
  rw [CN.n, toN, hf 1 n (by omega), hl n, wrap_n1 (by omega)]
  refine ok_ite (fun h => ok_some ?_) (fun h => ?_)
  · have e : n = nK M := by omega
    subst e; exact ⟨hf, hs⟩
  have hnk : n < nK M := by omega
  have b := I.lsb (c := n) (by omega)
  refine ok_gd (by omega) (ok_ite (fun h5 => ?_) (fun h5 => ?_))
  · refine ok_lt (ok_some ⟨hnk, rfl, hf, fun k hk => ?_⟩)
    try dsimp only
    rw [fb_si_succ, if_neg (by omega), hs k hk]; omega
  · obtain ⟨k0, hk0⟩ : ∃ k0 : Nat, M 110 n = (k0 : Int) := ⟨(M 110 n).toNat, by omega⟩
    refine ok_gd (by omega) (ok_e (a := toldS M (M 80 14) n 3) (ok_to (c_level I.1.a1 I.1.a4 I.1.c6 LN (c := n) (q := 1) (by omega) (by omega))) ?_)
    have tb := told_b I.1 (M 80 14) hnk 3
    have nb := need_b I.1 k0 n (by omega)
    have a3 := hs k0 (by omega)
    unfold f_X3_addNeed
    rw [hk0, toN, a3, wrap_of (by omega) (by omega)]
    obtain ⟨N2, e2, f2, v2⟩ := mup_gen N 53 k0 (fb_si (fun c => if M 110 c = (k0 : Int) then toldS M (M 80 14) c 3 else 0) n + toldS M (M 80 14) n 3)
    rw [e2]
    refine ok_obn (P := fun N' => N' = N2) (ok_ite_f (by omega) (ok_ite_f (by omega) (ok_gd (by omega) (ok_gd (by omega) (ok_lt (ok_some rfl)))))) (fun N' hN' => ?_)
    subst hN'
    refine ok_lt (ok_some ⟨hnk, rfl, fun c i q => by show N' c i = _; rw [f2 c i (by omega)]; exact hf c i q, fun k hk => ?_⟩)
    try dsimp only
    rw [fb_si_succ]
    by_cases e : k = k0
    · rw [e, v2, if_pos hk0]
    · rw [f2 53 k (by omega), hs k hk, if_neg (by omega)]; omega
/-- the model: what CLASSES lack by a way -/
theorem m_lacking (I : Inv M) {N : Mem} (L : LR M (M 80 14) N) (hl : ∀ c, c < 14 → N 110 c = M 110 c) {H : Nat} (hH : M 80 50 = (H : Int)) (h50 : N 80 50 = (H : Int)) (h112 : ∀ i, N 112 i = M 112 i) {way : Nat} (hw : way < 1000) : f_X11_lacking way N = some (lackW M (needS M) H (nC M) way) := by
  have h14 := I.1.n14
  have h23 := I.1.k23
  have o7 := I.2.1.o7
  have c7 := I.2.1.c7
  unfold A7 at o7
  unfold C7 at c7
  have h5 : ∀ i, i < H → 1 ≤ M 112 i ∧ M 112 i ≤ 60 := fun i hi => c7 i (by omega)
  have hn : ∀ k, k < 3 → 0 ≤ needS M k ∧ needS M k ≤ 2000 := fun k _ => by have := need_b I.1 k (nK M) (Nat.le_refl _); unfold needS; omega
  unfold f_X11_lacking
  have e0 : f_X11_lacking_l4 way N 0 0 = some (fb_si (fun k => pos0 (restS M (needS M) H (nC M) way k H)) (nC M), (nC M : Int)) := by
    unfold f_X11_lacking_l4
    refine whl_sum (n := nC M) (by omega) (fun k => pos0 (restS M (needS M) H (nC M) way k H)) 2000 6000 (by omega) (by omega) (fun k hk => ?_) (fun k hk v a1 a2 a3 a4 => ?_) (fun v => ?_)
    · have := pos0_b (rest_b (C := nC M) (way := way) h5 (hn k (by omega)) H (Nat.le_refl _)).2 (by omega)
      omega
    · unfold f_X11_lacking_s4
      try dsimp only
      rw [L.1.k]
      refine ok_ite_f (by omega) ?_
      have e1 : f_X11_lacking_l18 way v k N 0 0 = some (needS M k, (nK M : Int)) := by
        unfold f_X11_lacking_l18
        refine whl_sum (n := nK M) (by omega) (fun c => if M 110 c = (k : Int) then toldS M (M 80 14) c 3 else 0) 99 1386 (by omega) (by omega) (fun c hc => ?_) (fun c hc v a1 a2 a3 a4 => ?_) (fun v => ?_)
        · have := told_b I.1 (M 80 14) hc 3
          try dsimp only
          split <;> omega
        · unfold f_X11_lacking_s18
          try dsimp only
          rw [L.1.n, toN, hl c (by omega)]
          refine ok_ite_f (by omega) (ok_gd (by omega) (ok_ite (fun h => ?_) (fun h => ?_)))
          · rw [if_pos h] at a3 a4 ⊢
            have e3 : N 106 (7 * c + 3) = toldS M (M 80 14) c 3 := L.2.1 c 3 hc (by omega)
            have ei : (wrap ((wrap (7 * (c : Int))) + 3)) = ((7 * c + 3 : Nat) : Int) := by
              rw [ml7, wrap_of (x := ((7 * c : Nat) : Int)) (by omega) (by omega)]
              exact wrap_of (by omega) (by omega)
            rw [ei, toN, e3, wrap_of (x := v + toldS M (M 80 14) c 3) (by omega) (by omega), wrap_n1 (by omega)]
            exact ok_gd (by omega) (ok_lt (ok_lt (ok_some rfl)))
          · rw [if_neg h] at a3 a4 ⊢
            rw [wrap_of (x := v + 0) (by omega) (by omega), wrap_n1 (by omega)]
            exact ok_lt (ok_lt (ok_some rfl))
        · unfold f_X11_lacking_s18
          try dsimp only
          rw [L.1.n]
          exact ok_ite_t (by omega) (ok_some rfl)
      refine ok_e e1 ?_
      unfold f_X11_lacking_j65k4
      rw [h50, wrap_of (by omega) (by omega)]
      refine ok_lt (ok_obn (P := fun s => s.1 = restS M (needS M) H (nC M) way k H) ?_ (fun s hs => ?_))
      · unfold f_X11_lacking_l76
        refine ok_whl H (fun j s => s.1 = restS M (needS M) H (nC M) way k j ∧ s.2.1 = ((way / nC M ^ j : Nat) : Int) ∧ s.2.2 = (H : Int) - 1 - (j : Int)) (FU_big (by omega)) ⟨rfl, by show (way : Int) = _; rw [Nat.pow_zero, Nat.div_one], by show (H : Int) - 1 = _; omega⟩ ?_
        rintro j ⟨a, b, d⟩ hj ⟨ha, hb, hd⟩
        dsimp only at ha hb hd ⊢
        unfold f_X11_lacking_s76
        refine ok_ite (fun z => ok_some ?_) (fun z => ?_)
        · have e : j = H := by omega
          subst e; exact ha
        have hjH : j < H := by omega
        obtain ⟨i, hi⟩ : ∃ i : Nat, i = H - 1 - j := ⟨_, rfl⟩
        have ed : d = (i : Int) := by omega
        have hwj : way / nC M ^ j ≤ way := Nat.div_le_self _ _
        have q1 := rest_b (C := nC M) (way := way) h5 (hn k (by omega)) j (by omega)
        have q2 := h5 i (by omega)
        have nx : restS M (needS M) H (nC M) way k (j + 1) = restS M (needS M) H (nC M) way k j - if way / nC M ^ j % nC M = k then M 112 (H - 1 - j) else 0 := rfl
        rw [← hi] at nx
        rw [L.1.k, hb, ed, jremN (by omega) (by omega) (by omega), toN, h112 i, ha]
        have tail : ∀ x : Int, x = (if way / nC M ^ j % nC M = k then M 112 i else 0) → Okk (f_X11_lacking_j105k76 (way : Int) v (k : Int) (restS M (needS M) H (nC M) way k j) ((way / nC M ^ j : Nat) : Int) (i : Int) x (restS M (needS M) H (nC M) way k j) N) (inS (fun s => j < H ∧ s.1 = restS M (needS M) H (nC M) way k (j + 1) ∧ s.2.1 = ((way / nC M ^ (j + 1) : Nat) : Int) ∧ s.2.2 = (H : Int) - 1 - ((j + 1 : Nat) : Int)) (fun s => s.1 = restS M (needS M) H (nC M) way k H)) := fun x hx => by
          unfold f_X11_lacking_j105k76
          have xb : 0 ≤ x ∧ x ≤ 60 := by rw [hx]; split <;> omega
          rw [L.1.k, jdivN (by omega) (by omega) (by omega), div_step, wrap_of (by omega) (by omega), wrap_of (by omega) (by omega)]
          exact ok_lt (ok_gd (by omega) (ok_lt (ok_lt (ok_some ⟨hjH, by rw [nx, ← hx], rfl, by show (i : Int) + (-1) = _; omega⟩))))
        refine ok_gd (by omega) (ok_ite (fun h => ok_gd (by omega) (tail _ (by rw [if_pos (by omega)]))) (fun h => tail _ (by rw [if_neg (by omega)])))
      · unfold f_X11_lacking_j123k4
        have q1 := rest_b (C := nC M) (way := way) h5 (hn k (by omega)) H (Nat.le_refl _)
        rw [hs]
        unfold pos0 at a3 a4 ⊢
        refine ok_ite (fun h => ?_) (fun h => ?_)
        · rw [if_neg (by omega)] at a3 a4 ⊢
          rw [wrap_of (by omega) (by omega), wrap_n1 (by omega)]
          exact ok_lt (ok_lt (ok_some rfl))
        · rw [if_pos (by omega)] at a3 a4 ⊢
          rw [wrap_of (by omega) (by omega), wrap_n1 (by omega)]
          exact ok_lt (ok_lt (ok_some rfl))
    · unfold f_X11_lacking_s4
      try dsimp only
      rw [L.1.k]
      exact ok_ite_t (by omega) (ok_some rfl)
  rw [obn_e _ e0]
  rfl
end HELP
