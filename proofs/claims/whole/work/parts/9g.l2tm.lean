/-! rule: what the TOKEN at hand is, on both sides -/
section ASKT
variable {b : Nat → Int} {L : Nat} {M N : Mem}
theorem cd_lt {f : Nat} (h : f < L) (hl : isLt (b f)) : cdE b L f = wdC b f (ltE b L f - f) := by unfold cdE; rw [if_neg (by omega), if_pos hl]
theorem cd_dg {f : Nat} (h : f < L) (hl : ¬ isLt (b f)) (hd : isDg (b f)) : cdE b L f = if dgE b L f ≤ f + 2 then -3 else -2 := by unfold cdE; rw [if_neg (by omega), if_neg hl, if_pos hd]
theorem cd_sg {f : Nat} (h : f < L) (hl : ¬ isLt (b f)) (hd : ¬ isDg (b f)) : cdE b L f = if isSg (b f) then b f else -2 := by unfold cdE; rw [if_neg (by omega), if_neg hl, if_neg hd]
theorem cd_en {f : Nat} (h : L ≤ f) : cdE b L f = -1 := by unfold cdE; rw [if_pos h]
theorem tk_lt {f : Nat} (h : f < L) (hl : isLt (b f)) : tkE b L f = 1 := by unfold tkE; rw [if_neg (by omega), if_pos hl]
theorem tk_dg {f : Nat} (h : f < L) (hl : ¬ isLt (b f)) (hd : isDg (b f)) : tkE b L f = if dgE b L f ≤ f + 2 then 2 else 4 := by unfold tkE; rw [if_neg (by omega), if_neg hl, if_pos hd]
theorem tk_sg {f : Nat} (h : f < L) (hl : ¬ isLt (b f)) (hd : ¬ isDg (b f)) : tkE b L f = if isSg (b f) then 3 else 4 := by unfold tkE; rw [if_neg (by omega), if_neg hl, if_neg hd]
theorem tk_en {f : Nat} (h : L ≤ f) : tkE b L f = 0 := by unfold tkE; rw [if_pos h]
/-- the five kinds of TOKENS: the end, a word, a NUMBER, a SIGN, another one -/
theorem tk_all (f : Nat) : (L ≤ f ∧ tkE b L f = 0 ∧ cdE b L f = -1) ∨ (f < L ∧ isLt (b f) ∧ tkE b L f = 1 ∧ cdE b L f = wdC b f (ltE b L f - f)) ∨ (f < L ∧ ¬ isLt (b f) ∧ tkE b L f = 2 ∧ cdE b L f = -3) ∨ (f < L ∧ ¬ isLt (b f) ∧ isSg (b f) ∧ tkE b L f = 3 ∧ cdE b L f = b f) ∨ (f < L ∧ ¬ isLt (b f) ∧ tkE b L f = 4 ∧ cdE b L f = -2) := by
  by_cases h : L ≤ f
  · exact Or.inl ⟨h, tk_en h, cd_en h⟩
  · have h2 : f < L := by omega
    by_cases hl : isLt (b f)
    · exact Or.inr (Or.inl ⟨h2, hl, tk_lt h2 hl, cd_lt h2 hl⟩)
    · by_cases hd : isDg (b f)
      · by_cases z : dgE b L f ≤ f + 2
        · exact Or.inr (Or.inr (Or.inl ⟨h2, hl, by rw [tk_dg h2 hl hd, if_pos z], by rw [cd_dg h2 hl hd, if_pos z]⟩))
        · exact Or.inr (Or.inr (Or.inr (Or.inr ⟨h2, hl, by rw [tk_dg h2 hl hd, if_neg z], by rw [cd_dg h2 hl hd, if_neg z]⟩)))
      · by_cases z : isSg (b f)
        · exact Or.inr (Or.inr (Or.inr (Or.inl ⟨h2, hl, z, by rw [tk_sg h2 hl hd, if_pos z], by rw [cd_sg h2 hl hd, if_pos z]⟩)))
        · exact Or.inr (Or.inr (Or.inr (Or.inr ⟨h2, hl, by rw [tk_sg h2 hl hd, if_neg z], by rw [cd_sg h2 hl hd, if_neg z]⟩)))
theorem cd_b (f : Nat) : -3 ≤ cdE b L f := by
  rcases tk_all (b := b) (L := L) f with ⟨_, _, e⟩ | ⟨_, _, _, e⟩ | ⟨_, _, _, e⟩ | ⟨_, _, h, _, e⟩ | ⟨_, _, _, e⟩
  · omega
  · have := wdC_b b f (ltE b L f - f); omega
  · omega
  · omega
  · omega
theorem tk2 (f : Nat) : tkE b L f = 2 ↔ cdE b L f = -3 := by
  rcases tk_all (b := b) (L := L) f with ⟨_, t, e⟩ | ⟨_, _, t, e⟩ | ⟨_, _, t, e⟩ | ⟨_, _, h, t, e⟩ | ⟨_, _, t, e⟩
  · omega
  · have := wdC_b b f (ltE b L f - f); omega
  · omega
  · omega
  · omega
theorem tk0 (f : Nat) : tkE b L f = 0 ↔ cdE b L f = -1 := by
  rcases tk_all (b := b) (L := L) f with ⟨_, t, e⟩ | ⟨_, _, t, e⟩ | ⟨_, _, t, e⟩ | ⟨_, _, h, t, e⟩ | ⟨_, _, t, e⟩
  · omega
  · have := wdC_b b f (ltE b L f - f); omega
  · omega
  · omega
  · omega
theorem sl_b : ∀ i, i < 27 → sLen i < 200 := by decide +kernel
theorem wI_b : ∀ k, k < 22 → wI k < 27 := by decide +kernel
theorem m_isWord (T : TM b L N) {f : Nat} (X : ML b L f N) {k i : Nat} (hk : k < 22) (hi : wI k = i) : Okk (f_X11_isWord i N) (fun q => isB q.1 (cdE b L f = (k : Int)) ∧ q.2 = N) := by
  obtain ⟨hfL, x1, x2, x3, x4⟩ := X
  have hL := T.2.1
  have hs := sl_b i (by rw [← hi]; exact wI_b k hk)
  -- the letters
  have lets : ∀ n, f + n ≤ L → n = sLen i → Okk (f_X11_isWord_j29 i 1 N) (fun q => isB q.1 (∀ m, m < n → b (f + m) = sAt i m) ∧ q.2 = N) := fun n hn hnl => by
    unfold f_X11_isWord_j29
    refine ok_obn (P := fun s => isB s.1 (∀ m, m < n → b (f + m) = sAt i m) ∧ s.2.2 = N) ?_ (fun s hs => ?_)
    · unfold f_X11_isWord_l32
      refine ok_whl n (fun j s => s.2.1 = (j : Int) ∧ s.2.2 = N ∧ ((s.1 = 1 ∧ ∀ m, m < j → b (f + m) = sAt i m) ∨ (s.1 = 0 ∧ ¬ ∀ m, m < n → b (f + m) = sAt i m))) (FU_big (by omega)) ⟨rfl, rfl, Or.inl ⟨rfl, fun m hm => absurd hm (by omega)⟩⟩ ?_
      rintro j ⟨u, v, N1⟩ hj ⟨hv, hN, hu⟩
      dsimp only at hv hN hu ⊢
      subst hv hN
      unfold f_X11_isWord_s32
      rw [← hnl]
      refine ok_ite (fun z => ok_some ⟨?_, rfl⟩) (fun z => ?_)
      · have e : j = n := by omega
        subst e
        rcases hu with ⟨u1, u2⟩ | ⟨u1, u2⟩
        · exact Or.inl ⟨u1, u2⟩
        · exact Or.inr ⟨u1, u2⟩
      refine ok_ite (fun h0 => ok_some ⟨?_, rfl⟩) (fun h0 => ?_)
      · rcases hu with ⟨u1, u2⟩ | ⟨u1, u2⟩
        · omega
        · exact Or.inr ⟨u1, u2⟩
      rcases hu with ⟨u1, u2⟩ | ⟨u1, u2⟩
      · rw [x1, nA, wrap_of (by omega) (by omega), toN, wrap_n1 (by omega)]
        refine ok_e (m_byteAt T _) (ok_gd (by omega) ?_)
        rw [bt0_in (by omega)]
        refine ok_ite (fun e => ok_lt (ok_some ⟨by omega, rfl, rfl, Or.inl ⟨rfl, fun m hm => ?_⟩⟩)) (fun e => ok_lt (ok_some ⟨by omega, rfl, rfl, Or.inr ⟨rfl, fun q => e (q j (by omega))⟩⟩))
        by_cases e2 : m = j
        · rw [e2]; exact e
        · exact u2 m (by omega)
      · exact absurd u1 h0
    · unfold f_X11_isWord_j74
      exact ok_gd hs.1.z (ok_some hs)
  have none : Okk (f_X11_isWord_j29 i 0 N) (fun q => q.1 = 0 ∧ q.2 = N) := by
    unfold f_X11_isWord_j29
    refine ok_obn (P := fun s => s.1 = 0 ∧ s.2.2 = N) ?_ (fun s hs => ?_)
    · unfold f_X11_isWord_l32
      refine ok_whl 0 (fun j s => s.1 = 0 ∧ s.2.2 = N) (FU_big (by omega)) ⟨rfl, rfl⟩ ?_
      rintro j ⟨u, v, N1⟩ hj ⟨hu, hN⟩
      dsimp only at hu hN ⊢
      subst hN
      unfold f_X11_isWord_s32
      exact ok_ite (fun z => ok_some ⟨hu, rfl⟩) (fun z => ok_ite_t hu (ok_some ⟨hu, rfl⟩))
    · unfold f_X11_isWord_j74
      exact ok_gd (Or.inl hs.1) (ok_some hs)
  unfold f_X11_isWord
  rw [x3]
  rcases tk_all (b := b) (L := L) f with ⟨_, t, e⟩ | ⟨h1, h2, t, e⟩ | ⟨_, _, t, e⟩ | ⟨_, _, h, t, e⟩ | ⟨_, _, t, e⟩
  · exact ok_ite_f (by omega) (ok_mono none (fun q hq => ⟨Or.inr ⟨hq.1, by omega⟩, hq.2⟩))
  · have tb := te_b (b := b) h1
    have ete : teE b L f = ltE b L f := by unfold teE; rw [if_neg (by omega), if_pos h2]
    rw [ete] at x2 tb
    rw [x1, x2, wrap_of (x := (ltE b L f : Int) - (f : Int)) (by omega) (by omega)]
    refine ok_ite_t t (ok_ite (fun z => ok_mono (lets (ltE b L f - f) (by omega) (by omega)) (fun q hq => ⟨hq.1.iff ?_, hq.2⟩)) (fun z => ok_mono none (fun q hq => ⟨Or.inr ⟨hq.1, fun w => z ?_⟩, hq.2⟩)))
    · rw [e, wdC_iff hk]
      unfold mtW
      rw [hi]
      exact ⟨fun w => ⟨by omega, w⟩, fun w => w.2⟩
    · rw [e, wdC_iff hk] at w
      have := w.1
      rw [hi] at this
      omega
  · exact ok_ite_f (by omega) (ok_mono none (fun q hq => ⟨Or.inr ⟨hq.1, by omega⟩, hq.2⟩))
  · exact ok_ite_f (by omega) (ok_mono none (fun q hq => ⟨Or.inr ⟨hq.1, by omega⟩, hq.2⟩))
  · exact ok_ite_f (by omega) (ok_mono none (fun q hq => ⟨Or.inr ⟨hq.1, by omega⟩, hq.2⟩))
theorem m_isSign (T : TM b L N) {f : Nat} (X : ML b L f N) {c : Int} (hc : isSg c) : f_X11_isSign c N = some (b2i (cdE b L f = c)) := by
  obtain ⟨hfL, x1, x2, x3, x4⟩ := X
  apply ok_to
  unfold f_X11_isSign
  rw [x3, x1]
  rcases tk_all (b := b) (L := L) f with ⟨_, t, e⟩ | ⟨h1, h2, t, e⟩ | ⟨_, _, t, e⟩ | ⟨h1, _, h, t, e⟩ | ⟨_, _, t, e⟩
  · exact ok_ite_f (by omega) (ok_some (by rw [b2i_f (by omega)]))
  · have := wdC_b b f (ltE b L f - f)
    exact ok_ite_f (by omega) (ok_some (by rw [b2i_f (by omega)]))
  · exact ok_ite_f (by omega) (ok_some (by rw [b2i_f (by omega)]))
  · refine ok_ite_t t (ok_e (m_byteAt T _) ?_)
    rw [bt0_in h1]
    exact ok_ite (fun z => ok_some (by rw [b2i_t (by omega)])) (fun z => ok_some (by rw [b2i_f (by omega)]))
  · exact ok_ite_f (by omega) (ok_some (by rw [b2i_f (by omega)]))
theorem m_factHere (T : TM b L N) {f : Nat} (X : ML b L f N) : Okk (f_X11_factHere N) (fun q => q.2 = N ∧ ((0 ≤ cdE b L f ∧ cdE b L f ≤ 6 ∧ q.1 = cdE b L f) ∨ (¬ (0 ≤ cdE b L f ∧ cdE b L f ≤ 6) ∧ q.1 = -1))) := by
  unfold f_X11_factHere
  refine ok_lpr (P := fun s => s.2 = N ∧ ¬ (0 ≤ cdE b L f ∧ cdE b L f ≤ 6)) (P2 := fun q => q.2 = N ∧ 0 ≤ cdE b L f ∧ cdE b L f ≤ 6 ∧ q.1 = cdE b L f) ?_ (fun s hs => by unfold f_X11_factHere_j27; exact ok_some ⟨hs.1, Or.inr ⟨hs.2, rfl⟩⟩) (fun t ht => ok_some ⟨ht.1, Or.inl ht.2⟩)
  unfold f_X11_factHere_l2
  refine ok_whl 7 (fun k s => s.1 = (k : Int) ∧ s.2 = N ∧ ∀ j : Nat, j < k → cdE b L f ≠ (j : Int)) (FU_big (by omega)) ⟨rfl, rfl, fun j hj => absurd hj (by omega)⟩ ?_
  rintro k ⟨u, N1⟩ hk ⟨hu, hN, hj⟩
  dsimp only at hu hN hj ⊢
  subst hu hN
  unfold f_X11_factHere_s2
  refine ok_ite (fun z => ok_some ⟨rfl, fun q => ?_⟩) (fun z => ?_)
  · exact hj (cdE b L f).toNat (by omega) (by omega)
  have hk7 : k < 7 := by omega
  have hw : f_X11_factWord (k : Int) N1 = some ((16 + k : Nat) : Int) := by
    unfold f_X11_factWord
    have : k = 0 ∨ k = 1 ∨ k = 2 ∨ k = 3 ∨ k = 4 ∨ k = 5 ∨ k = 6 := by omega
    rcases this with rfl | rfl | rfl | rfl | rfl | rfl | rfl <;> rfl
  have hi : wI k = 16 + k := by
    have : ∀ k, k < 7 → wI k = 16 + k := by decide +kernel
    exact this k hk7
  refine ok_e hw ?_
  rw [toN, wrap_n1 (by omega)]
  refine ok_bnd (m_isWord T X (k := k) (by omega) hi) (fun r N2 hr => ?_)
  obtain ⟨hr, hN2⟩ := hr
  dsimp only at hr hN2 ⊢
  subst hN2
  refine ok_ite (fun h0 => ok_lt (ok_some ⟨hk7, rfl, rfl, fun j hj2 => ?_⟩)) (fun h0 => ok_some ⟨rfl, ?_⟩)
  · by_cases e : j = k
    · rw [e]; exact hr.f h0
    · exact hj j (by omega)
  · have := hr.t h0
    try dsimp only
    omega
theorem m_sortHere (T : TM b L N) {f : Nat} (X : ML b L f N) : Okk (f_X11_sortHere N) (fun q => q.2 = N ∧ ((8 ≤ cdE b L f ∧ cdE b L f ≤ 16 ∧ q.1 = cdE b L f - 8) ∨ (¬ (8 ≤ cdE b L f ∧ cdE b L f ≤ 16) ∧ q.1 = -1))) := by
  unfold f_X11_sortHere
  refine ok_lpr (P := fun s => s.2 = N ∧ ¬ (8 ≤ cdE b L f ∧ cdE b L f ≤ 16)) (P2 := fun q => q.2 = N ∧ 8 ≤ cdE b L f ∧ cdE b L f ≤ 16 ∧ q.1 = cdE b L f - 8) ?_ (fun s hs => by unfold f_X11_sortHere_j27; exact ok_some ⟨hs.1, Or.inr ⟨hs.2, rfl⟩⟩) (fun t ht => ok_some ⟨ht.1, Or.inl ht.2⟩)
  unfold f_X11_sortHere_l2
  refine ok_whl 9 (fun k s => s.1 = (k : Int) ∧ s.2 = N ∧ ∀ j : Nat, j < k → cdE b L f ≠ ((8 + j : Nat) : Int)) (FU_big (by omega)) ⟨rfl, rfl, fun j hj => absurd hj (by omega)⟩ ?_
  rintro k ⟨u, N1⟩ hk ⟨hu, hN, hj⟩
  dsimp only at hu hN hj ⊢
  subst hu hN
  unfold f_X11_sortHere_s2
  refine ok_ite (fun z => ok_some ⟨rfl, fun q => ?_⟩) (fun z => ?_)
  · exact hj (cdE b L f - 8).toNat (by omega) (by omega)
  have hk9 : k < 9 := by omega
  have hw : f_X11_sortWord (k : Int) N1 = some ((5 + k : Nat) : Int) := by
    unfold f_X11_sortWord
    have : k = 0 ∨ k = 1 ∨ k = 2 ∨ k = 3 ∨ k = 4 ∨ k = 5 ∨ k = 6 ∨ k = 7 ∨ k = 8 := by omega
    rcases this with rfl | rfl | rfl | rfl | rfl | rfl | rfl | rfl | rfl <;> rfl
  have hi : wI (8 + k) = 5 + k := by
    have : ∀ k, k < 9 → wI (8 + k) = 5 + k := by decide +kernel
    exact this k hk9
  refine ok_e hw ?_
  rw [toN, wrap_n1 (by omega)]
  refine ok_bnd (m_isWord T X (k := 8 + k) (by omega) hi) (fun r N2 hr => ?_)
  obtain ⟨hr, hN2⟩ := hr
  dsimp only at hr hN2 ⊢
  subst hN2
  refine ok_ite (fun h0 => ok_lt (ok_some ⟨hk9, rfl, rfl, fun j hj2 => ?_⟩)) (fun h0 => ok_some ⟨rfl, ?_⟩)
  · by_cases e : j = k
    · rw [e]; exact hr.f h0
    · exact hj j (by omega)
  · have := hr.t h0
    try dsimp only
    omega
/-- the class's TOKEN at hand -/
def PC (b : Nat → Int) (L T f : Nat) (M : Mem) : Prop := LX b L T M ∧ ∃ t, t ≤ T ∧ f = stk b L t ∧ M 29 4 = (t : Int) ∧ M 29 5 = cdE b L f ∧ M 29 6 = (f : Int) ∧ M 29 7 = nmE b L f
def nxE (b : Nat → Int) (L f : Nat) : Nat := skp b L (teE b L f)
theorem LX.fr {T : Nat} {M' : Mem} (h : LX b L T M) (h0 : M' 24 2 = M 24 2) (k : ∀ c i, 26 ≤ c → c ≤ 28 → M' c i = M c i) : LX b L T M' := by
  obtain ⟨a1, a2, a3, a4, a5⟩ := h
  refine ⟨h0.trans a1, a2, a3, a4, fun i hi => ?_⟩
  rw [k 26 i (by omega) (by omega), k 27 i (by omega) (by omega), k 28 i (by omega) (by omega)]
  exact a5 i hi
theorem c_next {T f : Nat} (X : PC b L T f M) : Okk (f_X6_next M) (fun M' => (∀ c i, ¬ (c = 29 ∧ 4 ≤ i ∧ i ≤ 7) → M' c i = M c i) ∧ PC b L T (nxE b L f) M') := by
  obtain ⟨LXX, t, ht, hf, h4, h5, h6, h7⟩ := X
  have LX2 := LXX
  obtain ⟨a1, a2, a3, a4, a5⟩ := LXX
  unfold f_X6_next
  rw [a1, h4, wrap_n1 (by omega)]
  refine ok_ite (fun z => ok_some ⟨fun _ _ _ => rfl, LX2, t, ht, ?_, h4, ?_, ?_, ?_⟩) (fun z => ?_)
  · have e : t = T := by omega
    subst e
    rw [a3]
    have : nxE b L f = L := by
      unfold nxE teE
      rw [hf, a3, if_pos (Nat.le_refl _)]
      exact sk_stay (Nat.le_refl _) (fun y => absurd y (by omega))
    exact this
  · have e : t = T := by omega
    subst e
    have : nxE b L f = f := by
      unfold nxE teE
      rw [hf, a3, if_pos (Nat.le_refl _)]
      exact sk_stay (Nat.le_refl _) (fun y => absurd y (by omega))
    rw [this]; exact h5
  · have e : t = T := by omega
    subst e
    have : nxE b L f = f := by
      unfold nxE teE
      rw [hf, a3, if_pos (Nat.le_refl _)]
      exact sk_stay (Nat.le_refl _) (fun y => absurd y (by omega))
    rw [this]; exact h6
  · have e : t = T := by omega
    subst e
    have : nxE b L f = f := by
      unfold nxE teE
      rw [hf, a3, if_pos (Nat.le_refl _)]
      exact sk_stay (Nat.le_refl _) (fun y => absurd y (by omega))
    rw [this]; exact h7
  have htT : t + 1 ≤ T := by omega
  have en : nxE b L f = stk b L (t + 1) := by rw [hf]; rfl
  obtain ⟨b1, b2, b3⟩ := a5 (t + 1) htT
  obtain ⟨M2, e2, f2, v2⟩ := mup_gen M 29 4 ((t + 1 : Nat) : Int)
  refine ok_lt ?_
  rw [e2, v2, toN, f2 26 (t + 1) (by omega), b1]
  obtain ⟨M3, e3, f3, v3⟩ := mup_gen M2 29 5 (cdE b L (stk b L (t + 1)))
  refine ok_gd (by omega) (ok_lt ?_)
  rw [e3, f3 29 4 (by omega), v2, toN, f3 27 (t + 1) (by omega), f2 27 (t + 1) (by omega), b2]
  obtain ⟨M4, e4, f4, v4⟩ := mup_gen M3 29 6 (stk b L (t + 1) : Int)
  refine ok_gd (by omega) (ok_lt ?_)
  rw [e4, f4 29 4 (by omega), f3 29 4 (by omega), v2, toN, f4 28 (t + 1) (by omega), f3 28 (t + 1) (by omega), f2 28 (t + 1) (by omega), b3]
  obtain ⟨M5, e5, f5, v5⟩ := mup_gen M4 29 7 (nmE b L (stk b L (t + 1)))
  refine ok_gd (by omega) (ok_lt ?_)
  rw [e5]
  have fr : ∀ c i, ¬ (c = 29 ∧ 4 ≤ i ∧ i ≤ 7) → M5 c i = M c i := fun c i q => by rw [f5 c i (by omega), f4 c i (by omega), f3 c i (by omega), f2 c i (by omega)]
  refine ok_some ⟨fr, LX2.fr (fr 24 2 (by omega)) (fun c i q1 q2 => fr c i (by omega)), t + 1, htT, en, ?_, ?_, ?_, ?_⟩
  · rw [f5 29 4 (by omega), f4 29 4 (by omega), f3 29 4 (by omega)]; exact v2
  · rw [en, f5 29 5 (by omega), f4 29 5 (by omega)]; exact v3
  · rw [en, f5 29 6 (by omega)]; exact v4
  · rw [en]; exact v5
/-- both go on -/
theorem m_nx (T : TM b L N) {f : Nat} (X : ML b L f N) : Okk (f_X11_next N) (fun N' => (∀ c i, ¬ isMx c i → N' c i = N c i) ∧ ML b L (nxE b L f) N') := by
  obtain ⟨hfL, x1, x2, x3, x4⟩ := X
  have hte : teE b L f ≤ L := by
    by_cases z : f < L
    · exact (te_b z).2
    · unfold teE; rw [if_pos (by omega)]; exact hfL
  exact m_next T hte x2
end ASKT
