/-! the model: what it learns of a DAY; its counting through plans -/
theorem mup_gen (M : Mem) (c i : Nat) (v : Int) : ∃ M', mup M c i v = M' ∧ (∀ c' i', ¬ (c' = c ∧ i' = i) → M' c' i' = M c' i') ∧ M' c i = v :=
  ⟨_, rfl, fun _ _ h => mup_o _ _ h, mup_s _ _ _ _⟩
theorem n2 (a : Nat) : (a : Int) + 2 = ((a + 2 : Nat) : Int) := by omega
theorem n3 (a : Nat) : (a : Int) + 3 = ((a + 3 : Nat) : Int) := by omega
theorem n4 (a : Nat) : (a : Int) + 4 = ((a + 4 : Nat) : Int) := by omega
theorem n5 (a : Nat) : (a : Int) + 5 = ((a + 5 : Nat) : Int) := by omega
theorem n6 (a : Nat) : (a : Int) + 6 = ((a + 6 : Nat) : Int) := by omega
section LEARN
variable {B M : Mem} {known : Int}
theorem m2_together (H : MF B M) (c q known : Int) : f_X11_together c q known M = some (togetherS B c q known) := by
  rw [ok_to (m_together H.fa.a1 H.fa.a4 c q known), fe_together H.fe]
theorem m2_wishesOf (H : MF B M) {c : Nat} (hc : c < 14) : f_X11_wishesOf c M = some (wishesS B c) := by
  rw [ok_to (m_wishesOf hc)]
  unfold wishesS
  refine congrArg some (cnt_congr (fun p hp => ?_))
  rw [H.w 86 _ (by omega)]
theorem m2_namedBy (H : MF B M) (c : Nat) : f_X11_namedBy c M = some (namedS B c) := by
  rw [ok_to (m_namedBy H.fa.a1 c)]
  unfold namedS
  rw [H.eK]
  refine congrArg some (cnt_congr (fun p hp => ?_))
  rw [H.w 86 _ (by omega)]
theorem m_learn2 (H : MF B M) (known : Int) : Okk (f_X11_learns_l2 known 0 M) (fun s => (∀ c i, c ≠ 106 → s.2 c i = M c i) ∧ ∀ c j, c < nK B → j < 7 → s.2 106 (7 * c + j) = toldS B known c j) := by
  have h14 := H.1.n14
  unfold f_X11_learns_l2
  refine ok_whl (nK B) (fun k s => s.1 = (k : Int) ∧ (∀ c i, c ≠ 106 → s.2 c i = M c i) ∧ ∀ c j, c < k → j < 7 → s.2 106 (7 * c + j) = toldS B known c j) (FU_big (by omega)) ⟨rfl, fun _ _ _ => rfl, fun c j h => absurd h (by omega)⟩ ?_
  rintro k ⟨v, M1⟩ hk ⟨h1, hF, hT⟩
  dsimp only at h1 hF hT ⊢
  subst h1
  have H1 : MF B M1 := H.fr (fun c i q => hF c i (by unfold isFa at q; omega))
  unfold f_X11_learns_s2
  (try simp (disch := omega) only [wrap_of, toN, nA, n1, mr2, mr3, mr4, mr9, mr14, ml2, ml3, ml4, ml7, ml14, ml28, H1.n, n2, n3, n4, n5, n6])
  refine ok_ite (fun h => ?_) (fun h => ?_)
  · have e : k = nK B := by omega
    subst e; exact ok_some ⟨hF, hT⟩
  have hkn : k < nK B := by omega
  refine ok_gd (by omega) (ok_gd (by omega) (ok_lt ?_))
  obtain ⟨M2, e2, f2, v2⟩ := mup_gen M1 106 (7 * k) (M1 81 k)
  rw [e2]; clear e2
  have H2 : MF B M2 := H1.fr (fun c i q => f2 c i (by unfold isFa at q; omega))
  refine ok_gd (by omega) (ok_gd (by omega) (ok_lt ?_))
  obtain ⟨M3, e3, f3, v3⟩ := mup_gen M2 106 (7 * k + 1) (M2 82 k)
  rw [e3]; clear e3
  have H3 : MF B M3 := H2.fr (fun c i q => f3 c i (by unfold isFa at q; omega))
  refine ok_e (m2_together H3 k 0 known) (ok_e (m_orFive _ _) (ok_gd (by omega) (ok_lt ?_)))
  obtain ⟨M4, e4, f4, v4⟩ := mup_gen M3 106 (7 * k + 2) (orFive (togetherS B k 0 known))
  rw [e4]; clear e4
  have H4 : MF B M4 := H3.fr (fun c i q => f4 c i (by unfold isFa at q; omega))
  refine ok_e (m2_together H4 k 1 known) (ok_e (m_orFive _ _) (ok_gd (by omega) (ok_lt ?_)))
  obtain ⟨M5, e5, f5, v5⟩ := mup_gen M4 106 (7 * k + 3) (orFive (togetherS B k 1 known))
  rw [e5]; clear e5
  have H5 : MF B M5 := H4.fr (fun c i q => f5 c i (by unfold isFa at q; omega))
  refine ok_gd (by omega) (ok_gd (by omega) (ok_lt ?_))
  obtain ⟨M6, e6, f6, v6⟩ := mup_gen M5 106 (7 * k + 4) (M5 85 k)
  rw [e6]; clear e6
  have H6 : MF B M6 := H5.fr (fun c i q => f6 c i (by unfold isFa at q; omega))
  refine ok_e (m2_wishesOf H6 (by omega)) (ok_gd (by omega) (ok_lt ?_))
  obtain ⟨M7, e7, f7, v7⟩ := mup_gen M6 106 (7 * k + 5) (wishesS B k)
  rw [e7]; clear e7
  have H7 : MF B M7 := H6.fr (fun c i q => f7 c i (by unfold isFa at q; omega))
  refine ok_e (m2_namedBy H7 k) (ok_gd (by omega) (ok_lt ?_))
  obtain ⟨M8, e8, f8, v8⟩ := mup_gen M7 106 (7 * k + 6) (namedS B k)
  rw [e8]; clear e8
  refine ok_lt (ok_some ⟨hkn, rfl, fun c i q => ?_, fun c j hc hj => ?_⟩)
  · try dsimp only
    rw [f8 c i (by omega), f7 c i (by omega), f6 c i (by omega), f5 c i (by omega), f4 c i (by omega), f3 c i (by omega), f2 c i (by omega)]
    exact hF c i q
  · try dsimp only
    by_cases e : c = k
    · subst e
      have cs : j = 0 ∨ j = 1 ∨ j = 2 ∨ j = 3 ∨ j = 4 ∨ j = 5 ∨ j = 6 := by omega
      rcases cs with rfl | rfl | rfl | rfl | rfl | rfl | rfl
      · rw [f8 _ _ (by omega), f7 _ _ (by omega), f6 _ _ (by omega), f5 _ _ (by omega), f4 _ _ (by omega), f3 _ _ (by omega), show M2 106 (7 * c + 0) = M1 81 c from v2, H1.w 81 c (by omega)]; rfl
      · rw [f8 _ _ (by omega), f7 _ _ (by omega), f6 _ _ (by omega), f5 _ _ (by omega), f4 _ _ (by omega), v3, H2.w 82 c (by omega)]; rfl
      · rw [f8 _ _ (by omega), f7 _ _ (by omega), f6 _ _ (by omega), f5 _ _ (by omega), v4]; rfl
      · rw [f8 _ _ (by omega), f7 _ _ (by omega), f6 _ _ (by omega), v5]; rfl
      · rw [f8 _ _ (by omega), f7 _ _ (by omega), v6, H5.w 85 c (by omega)]; rfl
      · rw [f8 _ _ (by omega), v7]; rfl
      · rw [v8]; rfl
    · rw [f8 _ _ (by omega), f7 _ _ (by omega), f6 _ _ (by omega), f5 _ _ (by omega), f4 _ _ (by omega), f3 _ _ (by omega), f2 _ _ (by omega)]
      exact hT c j (by omega) hj
theorem Fa.rowOk {B : Mem} (h : Fa B) {row : Nat} (hr : row < 2 * nS B) : RowOk B row := by
  have e : row = 2 * (row / 2) + row % 2 := by omega
  have b := h.row4 hr
  refine ⟨b.1, b.2, fun t ht => ?_⟩
  have T := h.cf.tm (s := row / 2) (w := row % 2) (t := t) (by omega) (by omega) (by omega) (by rw [← e]; exact ht)
  rw [← e] at T
  exact T.2.2.1
theorem m2_allHold (H : MF B M) (hT : ∀ c j, c < nK B → j < 7 → M 106 (7 * c + j) = toldS B known c j) {row c : Nat} (hr : row < 2 * nS B) (hn : B 100 row ≠ -1) (hc : c < nK B) : f_X11_allHold row c M = some (if holdB B known row c = true then 1 else 0) := by
  have h14 := H.1.n14
  have h16 := H.1.s16
  have e100 := H.w 100 row (by omega)
  have := ok_to (m_allHold (M := M) (known := known) (row := row) (c := c) (by omega) (by omega) (H.fa.rowOk (by rw [H.eS]; exact hr)) (by rw [e100]; exact hn) (fun j hj => by rw [fe_told H.fe]; exact hT c j hc hj))
  rw [this, ← H.hold known hr c]
  have e : termsB M known row c (M 100 row).toNat = holdB M known row c := by
    unfold holdB
    rw [decide_eq_true (show M 100 row ≠ -1 by rw [e100]; exact hn), Bool.true_and]
  rw [e]
theorem m_learns (H : MF B M) (known : Int) : Okk (f_X11_learns known M) (fun M' => (∀ c i, ¬ (106 ≤ c ∧ c ≤ 107) → M' c i = M c i) ∧ LR B known M') := by
  have h14 := H.1.n14
  have h16 := H.1.s16
  unfold f_X11_learns
  refine ok_obn (m_learn2 H known) (fun s hs => ?_)
  obtain ⟨v, M1⟩ := s
  obtain ⟨f1, t1⟩ := hs
  dsimp only at f1 t1 ⊢
  have H1 : MF B M1 := H.fr (fun c i q => f1 c i (by unfold isFa at q; omega))
  unfold f_X11_learns_j140
  refine ok_obn (P := fun s => (∀ c i, c ≠ 107 → s.2 c i = M1 c i) ∧ ∀ row c, row < 2 * nS B → c < nK B → s.2 107 (14 * row + c) = if holdB B known row c = true then 1 else 0) ?_ (fun s hs => ?_)
  · unfold f_X11_learns_l142
    refine ok_whl (2 * nS B) (fun r s => s.1 = (r : Int) ∧ (∀ c i, c ≠ 107 → s.2 c i = M1 c i) ∧ ∀ row c, row < r → c < nK B → s.2 107 (14 * row + c) = if holdB B known row c = true then 1 else 0) (FU_big (by omega)) ⟨rfl, fun _ _ _ => rfl, fun r c h => absurd h (by omega)⟩ ?_
    rintro r ⟨v, M2⟩ hr ⟨h1, hF, hT⟩
    dsimp only at h1 hF hT ⊢
    subst h1
    have H2 : MF B M2 := H1.fr (fun c i q => hF c i (by unfold isFa at q; omega))
    unfold f_X11_learns_s142
    (try simp (disch := omega) only [wrap_of, toN, nA, n1, mr2, mr3, mr4, mr9, mr14, ml2, ml3, ml4, ml7, ml14, ml28, H2.s])
    refine ok_ite (fun h => ?_) (fun h => ?_)
    · have e : r = 2 * nS B := by omega
      subst e; exact ok_some ⟨hF, hT⟩
    have hrn : r < 2 * nS B := by omega
    refine ok_obn (P := fun s => (∀ c i, ¬ (c = 107 ∧ 14 * r ≤ i ∧ i < 14 * r + 14) → s.2 c i = M2 c i) ∧ ∀ c, c < nK B → s.2 107 (14 * r + c) = if holdB B known r c = true then 1 else 0) ?_ (fun s hs => ?_)
    · unfold f_X11_learns_l154
      refine ok_whl (nK B) (fun k s => s.1 = (k : Int) ∧ (∀ c i, ¬ (c = 107 ∧ 14 * r ≤ i ∧ i < 14 * r + 14) → s.2 c i = M2 c i) ∧ ∀ c, c < k → s.2 107 (14 * r + c) = if holdB B known r c = true then 1 else 0) (FU_big (by omega)) ⟨rfl, fun _ _ _ => rfl, fun c h => absurd h (by omega)⟩ ?_
      rintro k ⟨v, M3⟩ hk ⟨h1, hF3, hT3⟩
      dsimp only at h1 hF3 hT3 ⊢
      subst h1
      have H3 : MF B M3 := H2.fr (fun c i q => hF3 c i (by unfold isFa at q; omega))
      have T3 : ∀ c j, c < nK B → j < 7 → M3 106 (7 * c + j) = toldS B known c j := fun c j hc hj => by rw [hF3 106 _ (by omega), hF 106 _ (by omega)]; exact t1 c j hc hj
      unfold f_X11_learns_s154
      (try simp (disch := omega) only [wrap_of, toN, nA, n1, mr2, mr3, mr4, mr9, mr14, ml2, ml3, ml4, ml7, ml14, ml28, H3.n, H3.w])
      refine ok_ite (fun h => ?_) (fun h => ?_)
      · have e : k = nK B := by omega
        subst e; exact ok_some ⟨hF3, hT3⟩
      have hkn : k < nK B := by omega
      have fin : ∀ x : Int, x = (if holdB B known r k = true then 1 else 0) → Okk (lt (mup M3 107 (14 * r + k) x) fun M_2 => lt ((k + 1 : Nat) : Int) fun v3_2 => (some (Sum.inl (v3_2, M_2)) : Option ((Int × Mem) ⊕ (Int × Mem)))) (inS (fun s' => k < nK B ∧ s'.1 = ((k + 1 : Nat) : Int) ∧ (∀ c i, ¬ (c = 107 ∧ 14 * r ≤ i ∧ i < 14 * r + 14) → s'.2 c i = M2 c i) ∧ ∀ c, c < k + 1 → s'.2 107 (14 * r + c) = if holdB B known r c = true then 1 else 0)
          (fun s : Int × Mem => (∀ c i, ¬ (c = 107 ∧ 14 * r ≤ i ∧ i < 14 * r + 14) → s.2 c i = M2 c i) ∧ ∀ c, c < nK B → s.2 107 (14 * r + c) = if holdB B known r c = true then 1 else 0)) := by
        intro x hx
        refine ok_lt (ok_lt (ok_some ⟨hkn, rfl, fun c i q => ?_, fun c hc => ?_⟩))
        · try dsimp only
          rw [mup_o _ _ (by omega)]; exact hF3 c i q
        · try dsimp only
          by_cases e : c = k
          · subst e; rw [mup_s]; exact hx
          · rw [mup_o _ _ (by omega)]; exact hT3 c (by omega)
      refine ok_gd (by omega) (ok_ite (fun h5 => ok_gd (by omega) (fin 0 ?_)) (fun h5 => ok_e (m2_allHold H3 T3 hrn h5 hkn) ?_))
      · have : holdB B known r k = false := by unfold holdB; rw [decide_eq_false (fun z => z h5)]; rfl
        rw [this]; rfl
      · by_cases hB : holdB B known r k = true
        · rw [if_pos hB]
          exact ok_ite_f (by decide) (ok_gd (by omega) (fin 1 (by rw [if_pos hB])))
        · rw [if_neg hB]
          exact ok_ite_t rfl (ok_gd (by omega) (fin 0 (by rw [if_neg hB])))
    · obtain ⟨v, M4⟩ := s
      obtain ⟨f4, t4⟩ := hs
      dsimp only at f4 t4 ⊢
      unfold f_X11_learns_j203k142
      (try simp (disch := omega) only [wrap_of, toN, nA, n1, mr2, mr3, mr4, mr9, mr14, ml2, ml3, ml4, ml7, ml14, ml28])
      refine ok_lt (ok_some ⟨hrn, rfl, fun c i q => (f4 c i (by omega)).trans (hF c i q), fun row c h hc => ?_⟩)
      try dsimp only
      by_cases e : row = r
      · subst e; exact t4 c hc
      · rw [f4 _ _ (by omega)]; exact hT row c (by omega) hc
  · obtain ⟨v, M2⟩ := s
    obtain ⟨f2, t2⟩ := hs
    dsimp only at f2 t2 ⊢
    unfold f_X11_learns_j209
    exact ok_some ⟨fun c i q => by rw [f2 c i (by omega), f1 c i (by omega)], H1.fr (fun c i q => f2 c i (by unfold isFa at q; omega)), fun c j hc hj => by rw [f2 106 _ (by omega)]; exact t1 c j hc hj, t2⟩
theorem m_cameBy (H : MF B M) (known : Int) : f_X11_cameBy known M = some (cnt (fun c => B 84 c ≤ known) (nK B)) := by
  have h14 := H.1.n14
  unfold f_X11_cameBy f_X11_cameBy_l4
  refine (obn_e _ (whl_cnt (n := nK B) (by omega) (fun c => B 84 c ≤ known) (fun k hk v h0 h1 => ?_) (fun v => ?_))).trans rfl
  · unfold f_X11_cameBy_s4
    (try simp (disch := omega) only [wrap_of, toN, nA, n1, mr2, mr3, mr4, mr9, mr14, ml2, ml3, ml4, ml7, ml14, ml28, H.w, H.n])
    (repeat' (first | (with_reducible refine ok_ltw ?_ ?_; (· omega)) | (with_reducible refine ok_lt ?_) | (with_reducible refine ok_gd ?_ ?_; (· omega)) | (with_reducible refine ok_ite_t ?_ ?_; (· omega)) | (with_reducible refine ok_ite_f ?_ ?_; (· omega)) | (with_reducible refine ok_ite (fun _ => ?_) (fun _ => ?_)) | (with_reducible refine ok_some ?_)))
    all_goals (first | rfl | (rw [if_pos (by omega)]) | (rw [if_neg (by omega)]; done) | (rw [if_neg (by omega), Int.add_zero]) | (simp_all; done))
  · unfold f_X11_cameBy_s4
    (try simp (disch := omega) only [wrap_of, toN, nA, n1, mr2, mr3, mr4, mr9, mr14, ml2, ml3, ml4, ml7, ml14, ml28, H.n])
    (repeat' (first | (with_reducible refine ok_ltw ?_ ?_; (· omega)) | (with_reducible refine ok_lt ?_) | (with_reducible refine ok_gd ?_ ?_; (· omega)) | (with_reducible refine ok_ite_t ?_ ?_; (· omega)) | (with_reducible refine ok_ite_f ?_ ?_; (· omega)) | (with_reducible refine ok_ite (fun _ => ?_) (fun _ => ?_)) | (with_reducible refine ok_some ?_)))
    all_goals (first | rfl | (rw [if_pos (by omega)]) | (rw [if_neg (by omega)]; done) | (rw [if_neg (by omega), Int.add_zero]) | (simp_all; done))
end LEARN
/-! ways and plans -/
/-- P gives the places the classes of s, others none -/
def WP (B : Mem) (n : Nat) (mem s : Nat → Nat) (P : Nat → Int) : Prop := (∀ i, i < n → P (mem i) = (s i : Int)) ∧ ∀ c, c < nK B → (∀ i, i < n → mem i ≠ c) → P c = -1
/-- the places: children, in order -/
def MS (B : Mem) (n : Nat) (mem : Nat → Nat) : Prop := n ≤ 9 ∧ (∀ i, i < n → mem i < nK B) ∧ ∀ i j, i < j → j < n → mem i < mem j
theorem MS.inj {B : Mem} {n : Nat} {mem : Nat → Nat} (S : MS B n mem) {i j : Nat} (hi : i < n) (hj : j < n) (e : mem i = mem j) : i = j := by
  apply Classical.byContradiction
  intro hne
  by_cases h : i < j
  · have := S.2.2 i j h hj; omega
  · have := S.2.2 j i (by omega) hi; omega
theorem WP.gp {B : Mem} {n : Nat} {mem s : Nat → Nat} {P : Nat → Int} (S : MS B n mem) (h : WP B n mem s P) : GP B P = gsF mem n s := by
  funext k c
  have iff : GP B P k c = true ↔ gsF mem n s k c = true := by
    rw [GP_iff]
    unfold gsF
    rw [chG_iff]
    constructor
    · rintro ⟨hc, he⟩
      by_cases hm : ∃ i, i < n ∧ mem i = c
      · obtain ⟨i, hi, e⟩ := hm
        subst e
        have := h.1 i hi
        exact ⟨i, hi, grp_iff.mpr ⟨hi, by omega⟩, rfl⟩
      · have := h.2 c hc (fun i hi e => hm ⟨i, hi, e⟩)
        omega
    · rintro ⟨i, hi, hg, e⟩
      subst e
      have := (grp_iff.mp hg).2
      exact ⟨S.2.1 i hi, by rw [h.1 i hi]; omega⟩
  cases e1 : GP B P k c <;> cases e2 : gsF mem n s k c <;> first | rfl | (exfalso; rw [e1, e2] at iff; simp at iff)
theorem WP.pb {B : Mem} {n : Nat} {mem s : Nat → Nat} {P : Nat → Int} (h : WP B n mem s P) (hv : Vd (nC B) n s) : PB B P := by
  intro c hc
  by_cases hm : ∃ i, i < n ∧ mem i = c
  · obtain ⟨i, hi, e⟩ := hm
    subst e
    have := h.1 i hi
    have := hv i hi
    omega
  · have := h.2 c hc (fun i hi e => hm ⟨i, hi, e⟩)
    omega
theorem WP.ok {B : Mem} {known : Int} {n : Nat} {mem s : Nat → Nat} {P : Nat → Int} (hB : Fa B) (S : MS B n mem) (h : WP B n mem s P) (hv : Vd (nC B) n s) : okW B known mem n s ↔ soundS B known P ∧ lackS B known P = 0 := by
  unfold okW
  rw [← h.gp S, sound_pg hB (h.pb hv), lack_pg]
theorem WP.hm {B : Mem} {known : Int} {n : Nat} {mem s : Nat → Nat} {P : Nat → Int} (hB : Fa B) (S : MS B n mem) (h : WP B n mem s P) (hv : Vd (nC B) n s) : hmW B known mem n s = harmS B known P := by
  unfold hmW
  rw [← h.gp S, harm_pg hB (h.pb hv)]
/-- the next way -/
def nxt (s : Nat → Nat) (i0 : Nat) : Nat → Nat := fun i => if i < i0 then s i else if i = i0 then s i0 + 1 else 0
theorem cod_next {C : Nat} {s : Nat → Nat} {i0 : Nat} : ∀ e, (∀ i, i0 < i → i < i0 + 1 + e → s i + 1 = C) → cod C (nxt s i0) (i0 + 1 + e) = cod C s (i0 + 1 + e) + 1
  | 0, _ => by
    show C * cod C (nxt s i0) i0 + nxt s i0 i0 = C * cod C s i0 + s i0 + 1
    have e1 : cod C (nxt s i0) i0 = cod C s i0 := cod_congr (fun i hi => if_pos hi)
    have e2 : nxt s i0 i0 = s i0 + 1 := by unfold nxt; rw [if_neg (by omega), if_pos rfl]
    rw [e1, e2]; omega
  | e + 1, h => by
    have ih := cod_next e (fun i h1 h2 => h i h1 (by omega))
    show C * cod C (nxt s i0) (i0 + 1 + e) + nxt s i0 (i0 + 1 + e) = C * cod C s (i0 + 1 + e) + s (i0 + 1 + e) + 1
    have e2 : nxt s i0 (i0 + 1 + e) = 0 := by unfold nxt; rw [if_neg (by omega), if_neg (by omega)]
    have := h (i0 + 1 + e) (by omega) (by omega)
    rw [ih, e2, Nat.mul_succ]
    omega
theorem cod_last {C : Nat} {s : Nat → Nat} : ∀ n, (∀ i, i < n → s i + 1 = C) → cod C s n + 1 = C ^ n
  | 0, _ => rfl
  | n + 1, h => by
    have ih := cod_last n (fun i hi => h i (by omega))
    have := h n (by omega)
    show C * cod C s n + s n + 1 = _
    rw [Nat.pow_succ, ← ih, Nat.mul_comm (cod C s n + 1), Nat.mul_succ]
    omega
section COUNTS
variable {B M : Mem} {n : Nat} {mem s : Nat → Nat}
theorem m_counts (H : MF B M) (S : MS B n mem) (hv : Vd (nC B) n s) (hW : WP B n mem s (planOf M)) : Okk (f_X11_counts M) (fun q => (∀ c i, c ≠ 108 → q.2 c i = M c i) ∧
      ((q.1 = 1 ∧ ∃ s', Vd (nC B) n s' ∧ WP B n mem s' (planOf q.2) ∧ cod (nC B) s' n = cod (nC B) s n + 1) ∨ (q.1 = 0 ∧ cod (nC B) s n + 1 = nC B ^ n))) := by
  have h14 := H.1.n14
  have h3 := H.1.k23
  have h9 := S.1
  unfold f_X11_counts
  (try simp (disch := omega) only [wrap_of, toN, nA, n1, mr2, mr3, mr4, mr9, mr14, ml2, ml3, ml4, ml7, ml14, ml28, H.n])
  refine ok_lt ?_
  -- at child v: those places behind it have gone back to 0
  let I : Nat → Int × Mem → Prop := fun j q => q.1 = (nK B : Int) - 1 - j ∧ (∀ c i, c ≠ 108 → q.2 c i = M c i) ∧ (∀ i, i < n → (mem i : Int) ≤ q.1 → q.2 108 (mem i) = (s i : Int)) ∧ (∀ i, i < n → ¬ (mem i : Int) ≤ q.1 → q.2 108 (mem i) = 0 ∧ s i + 1 = nC B) ∧ (∀ c, c < nK B → (∀ i, i < n → mem i ≠ c) → q.2 108 c = -1)
  let R : Int × Mem → Prop := fun q => (∀ c i, c ≠ 108 → q.2 c i = M c i) ∧ q.1 = 1 ∧ ∃ s', Vd (nC B) n s' ∧ WP B n mem s' (planOf q.2) ∧ cod (nC B) s' n = cod (nC B) s n + 1
  refine ok_lpr (P := fun q => (∀ c i, c ≠ 108 → q.2 c i = M c i) ∧ cod (nC B) s n + 1 = nC B ^ n) (P2 := R) ?_ (fun q hq => ?_) (fun q hq => ok_some ⟨hq.1, Or.inl hq.2⟩)
  · unfold f_X11_counts_l7
    refine ok_whl (nK B) I (FU_big (by omega)) ⟨by omega, fun _ _ _ => rfl, fun i hi _ => hW.1 i hi, fun i hi z => absurd (S.2.1 i hi) (by omega), hW.2⟩ ?_
    rintro j ⟨v, M1⟩ hj ⟨i1, i2, i3, i4, i5⟩
    dsimp only at i1 i2 i3 i4 i5 ⊢
    unfold f_X11_counts_s7
    refine ok_ite (fun h => ok_some ⟨i2, cod_last n (fun i hi => (i4 i hi (by omega)).2)⟩) (fun h => ?_)
    obtain ⟨c0, hc0⟩ : ∃ c0 : Nat, v = (c0 : Int) := ⟨v.toNat, by omega⟩
    subst hc0
    have hcn : c0 < nK B := by omega
    have hjn : j < nK B := by omega
    rw [toN]
    refine ok_gd (by omega) ?_
    by_cases hm : ∃ i0, i0 < n ∧ mem i0 = c0
    · obtain ⟨i0, hi0, em⟩ := hm
      subst em
      have es := i3 i0 hi0 (by omega)
      have hvs := hv i0 hi0
      rw [es, wrap_of (x := (s i0 : Int) + 1) (by omega) (by omega)]
      refine ok_ite_f (by omega) (ok_gd (by omega) (ok_gd (by omega) (ok_lt (ok_gd (by omega) ?_))))
      obtain ⟨M2, e2, f2, v2⟩ := mup_gen M1 108 (mem i0) ((s i0 : Int) + 1)
      rw [e2]; clear e2
      have k2 : M2 80 12 = (nC B : Int) := by rw [f2 80 12 (by omega), i2 80 12 (by omega)]; exact H.k
      rw [v2, k2]
      refine ok_ite (fun hge => ok_gd (by omega) (ok_lt ?_)) (fun hlt => ok_some ?_)
      · obtain ⟨M3, e3, f3, v3⟩ := mup_gen M2 108 (mem i0) 0
        rw [e3]; clear e3
        refine ok_ltw (by omega) (ok_some ⟨hjn, by show (mem i0 : Int) + -1 = _; omega, fun c i q => ?_, fun i hi hle => ?_, fun i hi hle => ?_, fun c hc hno => ?_⟩)
        · try dsimp only
          rw [f3 c i (by omega), f2 c i (by omega)]; exact i2 c i q
        · try dsimp only at hle ⊢
          have hne : mem i ≠ mem i0 := by omega
          rw [f3 _ _ (by omega), f2 _ _ (by omega)]
          exact i3 i hi (by omega)
        · try dsimp only at hle ⊢
          by_cases e : i = i0
          · subst e; exact ⟨v3, by omega⟩
          · have hne : mem i ≠ mem i0 := fun z => e (S.inj hi hi0 z)
            rw [f3 _ _ (by omega), f2 _ _ (by omega)]
            exact i4 i hi (by omega)
        · try dsimp only
          have hne : c ≠ mem i0 := fun z => hno i0 hi0 z.symm
          rw [f3 _ _ (by omega), f2 _ _ (by omega)]
          exact i5 c hc hno
      · have big : ∀ i, i0 < i → i < n → mem i0 < mem i := fun i h1 h2 => S.2.2 i0 i h1 h2
        have small : ∀ i, i < i0 → mem i < mem i0 := fun i h1 => S.2.2 i i0 h1 hi0
        refine ⟨fun c i q => by try dsimp only
                                rw [f2 c i (by omega)]; exact i2 c i q, rfl, nxt s i0, fun i hi => ?_, ⟨fun i hi => ?_, fun c hc hno => ?_⟩, ?_⟩
        · unfold nxt
          split
          · exact hv i hi
          · split <;> omega
        · show M2 108 (mem i) = _
          unfold nxt
          by_cases e1 : i < i0
          · rw [if_pos e1]
            have := small i e1
            rw [f2 _ _ (by omega)]
            exact i3 i hi (by omega)
          · rw [if_neg e1]
            by_cases e2 : i = i0
            · subst e2; rw [if_pos rfl, v2]; omega
            · rw [if_neg e2]
              have := big i (by omega) hi
              rw [f2 _ _ (by omega)]
              exact (i4 i hi (by omega)).1
        · show M2 108 c = _
          have hne : c ≠ mem i0 := fun z => hno i0 hi0 z.symm
          rw [f2 _ _ (by omega)]
          exact i5 c hc hno
        · have := cod_next (C := nC B) (s := s) (i0 := i0) (n - (i0 + 1)) (fun i h1 h2 => (i4 i (by omega) (by have := big i h1 (by omega); omega)).2)
          rw [show i0 + 1 + (n - (i0 + 1)) = n by omega] at this
          exact this
    · have hno : ∀ i, i < n → mem i ≠ c0 := fun i hi e => hm ⟨i, hi, e⟩
      rw [i5 c0 hcn hno]
      refine ok_ite_t rfl (ok_ltw (by omega) (ok_some ⟨hjn, by show (c0 : Int) + -1 = _; omega, i2, fun i hi hle => i3 i hi (by dsimp only at hle; omega), fun i hi hle => i4 i hi (by have := hno i hi; dsimp only at hle; omega), i5⟩))
  · obtain ⟨v, M1⟩ := q
    unfold f_X11_counts_j62
    exact ok_some ⟨hq.1, Or.inr ⟨rfl, hq.2⟩⟩
end COUNTS
