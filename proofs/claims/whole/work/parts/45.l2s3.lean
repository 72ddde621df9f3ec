/-! the search: spreads, and its state -/
def spN (B : Mem) (s : Nat) : Nat := fb_ct (fun t => decide (isSp B t)) s
theorem spN_succ (B : Mem) (s : Nat) : spN B (s + 1) = spN B s + if isSp B s then 1 else 0 := by
  unfold spN
  rw [fb_ct_succ]
  by_cases h : isSp B s
  · rw [if_pos h, if_pos (decide_eq_true h)]
  · rw [if_neg h, if_neg (by rw [decide_eq_false h]; decide)]
theorem spN_mono (B : Mem) {s t : Nat} (h : s ≤ t) : spN B s ≤ spN B t := fb_ct_mono _ h
theorem spN_lt (B : Mem) {s t : Nat} (h : s < t) (hs : isSp B s) : spN B s < spN B t := by
  have := spN_mono B (s := s + 1) (t := t) (by omega)
  rw [spN_succ, if_pos hs] at this
  omega
theorem spN_le (B : Mem) (s : Nat) : spN B s ≤ s := fb_ct_le _ s
theorem sp_sum (B : Mem) (g : Nat → Int) : ∀ S, fb_si g (spN B S) = fb_si (fun t => if isSp B t then g (spN B t) else 0) S
  | 0 => rfl
  | S + 1 => by
    rw [fb_si_succ, ← sp_sum B g S, spN_succ]
    by_cases h : isSp B S
    · rw [if_pos h, if_pos h, fb_si_succ]
    · rw [if_neg h, if_neg h, Nat.add_zero, Int.add_zero]
def spOK (B : Mem) (known : Int) (n : Nat) (mem : Nat → Nat) (M : Mem) (S : Nat) : Prop := ∀ t, t < S → isSp B t → M 42 (spN B t) = B 98 t ∧ ∀ i, i < n → M 43 (9 * spN B t + i) = wOf B known t (mem i)
section SPREADS
variable {B M : Mem} {known : Int} {n : Nat} {mem : Nat → Nat} {stay : Nat → Int}
theorem c_sp63 (H : JP B known M) (S : SU B n mem stay M) {t : Nat} (ht : t < nS B) (hsp : isSp B t) {J : Nat} (hJ : J < 16) (h9 : M 35 9 = (J : Int)) : Okk (f_X8_readSpreads_l63 t 0 M) (fun s => (∀ c i, ¬ (c = 43 ∧ 9 * J ≤ i ∧ i < 9 * J + 9) → s.2 c i = M c i) ∧ ∀ i, i < n → s.2 43 (9 * J + i) = wOf B known t (mem i)) := by
  have hn9 := S.1
  unfold f_X8_readSpreads_l63
  refine ok_whl n (fun k s => s.1 = (k : Int) ∧ (∀ c i, ¬ (c = 43 ∧ 9 * J ≤ i ∧ i < 9 * J + 9) → s.2 c i = M c i) ∧ ∀ i, i < k → s.2 43 (9 * J + i) = wOf B known t (mem i)) (FU_big (by omega)) ⟨rfl, fun _ _ _ => rfl, fun v h => absurd h (by omega)⟩ ?_
  rintro k ⟨j, M2⟩ hk ⟨h1, hF, hT⟩
  dsimp only at h1 hF hT ⊢
  subst h1
  have H2 : JP B known M2 := H.fr (fun c i q => hF c i (by unfold isC at q; omega))
  have S2 : SU B n mem stay M2 := S.fr (hF 35 2 (by omega)) (fun c i h1 h2 => hF c i (by omega))
  have e9 : M2 35 9 = (J : Int) := (hF 35 9 (by omega)).trans h9
  unfold f_X8_readSpreads_s63
  (try simp (disch := omega) only [wrap_of, toN, nA, n1, mr2, mr3, mr4, mr9, mr14, ml2, ml3, ml4, ml7, ml14, ml28, S2.2.2.2.1, e9])
  refine ok_ite (fun h => ?_) (fun h => ?_)
  · have e : k = n := by omega
    subst e; exact ok_some ⟨hF, hT⟩
  have hkn : k < n := by omega
  rw [S2.2.2.2.2.1 k hkn]
  refine ok_gd (by omega) (ok_e (c_weightOf H2 ht hsp (S.2.1 k hkn)) (ok_gd (by omega) (ok_lt (ok_lt (ok_some ⟨hkn, rfl, fun c i q => ?_, fun i hi => ?_⟩)))))
  · try dsimp only
    rw [mup_o _ _ (by omega)]
    exact hF c i q
  · try dsimp only
    by_cases e : i = k
    · subst e; exact mup_s _ _ _ _
    · rw [mup_o _ _ (by omega)]; exact hT i (by omega)
theorem c_readSpreads (H : JP B known M) (S : SU B n mem stay M) : Okk (f_X8_readSpreads M) (fun M' => (∀ c i, ¬ ((c = 35 ∧ i = 9) ∨ (42 ≤ c ∧ c ≤ 44)) → M' c i = M c i) ∧ (∀ i, i < 48 → M' 44 i = 0) ∧ M' 35 9 = (spN B (nS B) : Int) ∧ spOK B known n mem M' (nS B)) := by
  have h16 := H.c.1.s16
  unfold f_X8_readSpreads
  refine ok_lt ?_
  refine ok_obn (c_fill 44 (by decide +kernel) 0 _) (fun M1 hM1 => ?_)
  have ha : aln 44 = 48 := by decide +kernel
  rw [ha] at hM1
  have f1 : ∀ c i, ¬ ((c = 35 ∧ i = 9) ∨ c = 44) → M1 c i = M c i := fun c i q => by
    rw [hM1]; unfold mfill; rw [if_neg (by omega), mup_o _ _ (by omega)]
  have e44 : ∀ i, i < 48 → M1 44 i = 0 := fun i hi => by rw [hM1]; exact if_pos ⟨rfl, hi⟩
  have e9 : M1 35 9 = ((spN B 0 : Nat) : Int) := by rw [hM1]; unfold mfill; rw [if_neg (by omega), mup_s]; rfl
  clear hM1
  refine ok_obn (P := fun s => (∀ c i, ¬ ((c = 35 ∧ i = 9) ∨ (42 ≤ c ∧ c ≤ 43)) → s.2 c i = M1 c i) ∧ s.2 35 9 = (spN B (nS B) : Int) ∧ spOK B known n mem s.2 (nS B)) ?_ (fun s hs => ok_some ⟨fun c i q => by rw [hs.1 c i (by omega), f1 c i (by omega)], fun i hi => by rw [hs.1 44 i (by omega)]; exact e44 i hi, hs.2.1, hs.2.2⟩)
  unfold f_X8_readSpreads_l15
  refine ok_whl (nS B) (fun k s => s.1 = (k : Int) ∧ (∀ c i, ¬ ((c = 35 ∧ i = 9) ∨ (42 ≤ c ∧ c ≤ 43)) → s.2 c i = M1 c i) ∧ s.2 35 9 = (spN B k : Int) ∧ spOK B known n mem s.2 k) (FU_big (by omega)) ⟨rfl, fun _ _ _ => rfl, e9, fun v h => absurd h (by omega)⟩ ?_
  rintro k ⟨j, M2⟩ hk ⟨h1, hF, hJ, hT⟩
  dsimp only at h1 hF hJ hT ⊢
  subst h1
  have H2 : JP B known M2 := H.fr (fun c i q => by rw [hF c i (by unfold isC at q; omega), f1 c i (by unfold isC at q; omega)])
  have S2 : SU B n mem stay M2 := S.fr (by rw [hF 35 2 (by omega), f1 35 2 (by omega)]) (fun c i h1 h2 => by rw [hF c i (by omega), f1 c i (by omega)])
  unfold f_X8_readSpreads_s15
  (try simp (disch := omega) only [wrap_of, toN, nA, n1, mr2, mr3, mr4, mr9, mr14, ml2, ml3, ml4, ml7, ml14, ml28, H2.c.rc, H2.1.2.1, hJ])
  refine ok_gd H.c.ru (ok_ite (fun h => ?_) (fun h => ?_))
  · have e : k = nS B := by omega
    subst e; exact ok_some ⟨hF, hJ, hT⟩
  have hkn : k < nS B := by omega
  have hspk := spN_le B k
  refine ok_obn (c_isSpread H2 hkn) (fun r hr => ?_)
  refine ok_ite (fun h0 => ?_) (fun h0 => ?_)
  · have hns := hr.f h0
    refine ok_lt (ok_some ⟨hkn, rfl, hF, ?_, fun t ht hsp => ?_⟩)
    · rw [spN_succ, if_neg hns]; exact hJ
    · by_cases e : t = k
      · subst e; exact absurd hsp hns
      · exact hT t (by omega) hsp
  · have hsp := hr.t h0
    have hsp2 := hsp
    unfold isSp at hsp2
    rw [H2.c.nu hkn (by omega) (by omega)]
    refine ok_gd H.c.ru (ok_gd (by omega) (ok_gd (by omega) (ok_lt ?_)))
    have f3 : ∀ c i, ¬ (c = 42 ∧ i = spN B k) → mup M2 42 (spN B k) (B 98 k) c i = M2 c i := fun c i q => mup_o _ _ q
    have e3 : mup M2 42 (spN B k) (B 98 k) 42 (spN B k) = B 98 k := mup_s _ _ _ _
    generalize mup M2 42 (spN B k) (B 98 k) = M3 at f3 e3 ⊢
    have H3 : JP B known M3 := H2.fr (fun c i q => f3 c i (by unfold isC at q; omega))
    have S3 : SU B n mem stay M3 := S2.fr (f3 35 2 (by omega)) (fun c i h1 h2 => f3 c i (by omega))
    refine ok_obn (c_sp63 H3 S3 hkn hsp (J := spN B k) (by omega) ((f3 35 9 (by omega)).trans hJ)) (fun s4 hs4 => ?_)
    obtain ⟨j4, M4⟩ := s4
    obtain ⟨f4, e4⟩ := hs4
    dsimp only at f4 e4 ⊢
    unfold f_X8_readSpreads_j105k15
    have e9 : M4 35 9 = (spN B k : Int) := by rw [f4 35 9 (by omega), f3 35 9 (by omega)]; exact hJ
    (try simp (disch := omega) only [wrap_of, toN, nA, n1, mr2, mr3, mr4, mr9, mr14, ml2, ml3, ml4, ml7, ml14, ml28, e9])
    refine ok_lt (ok_lt (ok_some ⟨hkn, rfl, fun c i q => ?_, ?_, fun t ht hspt => ?_⟩))
    · try dsimp only
      rw [mup_o _ _ (by omega), f4 c i (by omega), f3 c i (by omega)]; exact hF c i q
    · try dsimp only
      rw [mup_s, spN_succ, if_pos hsp]
    · try dsimp only
      by_cases e : t = k
      · subst e
        refine ⟨?_, fun i hi => ?_⟩
        · rw [mup_o _ _ (by omega), f4 _ _ (by omega)]; exact e3
        · rw [mup_o _ _ (by omega)]; exact e4 i hi
      · have hlt := spN_lt B (s := t) (t := k) (by omega) hspt
        have := hT t (by omega) hspt
        have hn9 := S.1
        refine ⟨?_, fun i hi => ?_⟩
        · rw [mup_o _ _ (by omega), f4 _ _ (by omega), f3 _ _ (by omega)]; exact this.1
        · rw [mup_o _ _ (by omega), f4 _ _ (by omega), f3 _ _ (by omega)]; exact this.2 i hi
/-- what stays while the search goes -/
def ST (B : Mem) (known : Int) (n : Nat) (mem : Nat → Nat) (stay : Nat → Int) (M : Mem) : Prop :=
  JP B known M ∧ SU B n mem stay M ∧ (∀ v, v < 2 ^ n → tabOK B known n mem M v) ∧ (∀ i, i < n → mIs (M 38 i) (fun j => decide (j < i) && pb (twB B mem i j))) ∧ M 35 9 = (spN B (nS B) : Int) ∧ spOK B known n mem M (nS B)
/-- what the search may change -/
def Chg (c i : Nat) : Prop := (c = 35 ∧ 16 ≤ i) ∨ (44 ≤ c ∧ c ≤ 47)
theorem ST.fr {M' : Mem} (h : ST B known n mem stay M) (k : ∀ c i, ¬ Chg c i → M' c i = M c i) : ST B known n mem stay M' := by
  unfold Chg at k
  obtain ⟨h1, h2, h3, h4, h5, h6⟩ := h
  refine ⟨h1.fr (fun c i q => k c i (by unfold isC at q; omega)), h2.fr (k 35 2 (by omega)) (fun c i a b => k c i (by omega)), fun v hv => ?_, fun i hi => by rw [k 38 i (by omega)]; exact h4 i hi, by rw [k 35 9 (by omega)]; exact h5, fun t ht hsp => ?_⟩
  · have := h3 v hv
    unfold tabOK at this ⊢
    rw [k 39 v (by omega), k 40 v (by omega), k 41 v (by omega)]
    exact this
  · have := h6 t ht hsp
    rw [k 42 _ (by omega)]
    exact ⟨this.1, fun i hi => by rw [k 43 _ (by omega)]; exact this.2 i hi⟩
def smS (B : Mem) (known : Int) (mem : Nat → Nat) (t : Nat) (s : Nat → Nat) (k a : Nat) : Int := fb_si (fun i => if s i = k then wOf B known t (mem i) else 0) a
/-- the state of the search: a places are given, as s says -/
def DS (B : Mem) (known : Int) (mem : Nat → Nat) (stay : Nat → Int) (s : Nat → Nat) (a : Nat) (M : Mem) : Prop :=
  (∀ k, k < nC B → mIs (M 45 k) (grp s a k)) ∧ (∀ i, i < a → M 46 i = (s i : Int)) ∧ M 35 16 = mvW stay a s ∧ (∀ t, t < nS B → isSp B t → ∀ k, k < nC B → M 44 (3 * spN B t + k) = smS B known mem t s k a)
/-- what has been seen of it: the groups stand, twins that are joined are in one -/
def LG (B : Mem) (known : Int) (n : Nat) (mem : Nat → Nat) (s : Nat → Nat) (a : Nat) : Prop :=
  Vd (nC B) a s ∧ (∀ k, k < nC B → standG B known k (chG mem (grp s a k) n)) ∧ (∀ i, i < a → ∀ j, j < i → twB B mem i j → s i = s j)
def Best (B : Mem) (known : Int) (n : Nat) (mem : Nat → Nat) (stay : Nat → Int) (M : Mem) (N : Nat) : Prop :=
  BestLt (okW B known mem n) (mvW stay n) (hmW B known mem n) (nC B) n N (M 35 17) (M 35 18) (M 35 19) (fun i => M 47 i)
theorem Best.fr {M' : Mem} {N : Nat} (h : Best B known n mem stay M N) (k : ∀ i, 17 ≤ i → M' 35 i = M 35 i) (k2 : ∀ i, M' 47 i = M 47 i) : Best B known n mem stay M' N := by
  unfold Best at h ⊢
  rw [k 17 (by omega), k 18 (by omega), k 19 (by omega), show (fun i => M' 47 i) = fun i => M 47 i from funext k2]
  exact h
theorem smS_b (h : Fa B) (S : SU B n mem stay M) (t : Nat) (s : Nat → Nat) (k : Nat) {a : Nat} (ha : a ≤ n) : 0 ≤ smS B known mem t s k a ∧ smS B known mem t s k a ≤ 891 := by
  have h9 := S.1
  have q := si_nn (f := fun i => if s i = k then wOf B known t (mem i) else 0) (b := 99) (n := a) (fun i hi => by
    have := wOf_b h known t (S.2.1 i (by omega))
    split <;> omega)
  unfold smS
  omega
theorem c_isPerfect : Okk (f_X8_isPerfect M) (fun r => isB r (¬ M 35 17 = 0 ∧ M 35 18 = 0 ∧ M 35 19 = 0)) := by
  unfold f_X8_isPerfect
  refine ok_ite (fun h => ok_some (isB.zero (fun z => z.1 h))) (fun h => ok_ite (fun h1 => ok_ite (fun h2 => ok_some (isB.one ⟨h, h1, h2⟩)) (fun h2 => ok_some (isB.zero (fun z => h2 z.2.2)))) (fun h1 => ok_some (isB.zero (fun z => h1 z.2.1))))
theorem c_movesOf (S : SU B n mem stay M) {a k : Nat} (ha : a < n) {s : Nat → Nat} (hs : s a = k) : f_X8_movesOf a k M = some (mv1 stay s a) := by
  have h9 := S.1
  apply ok_to
  unfold f_X8_movesOf mv1
  rw [toN, S.2.2.2.2.2 a ha, hs]
  refine ok_gd (by omega) (ok_ite (fun h => ok_some (by rw [if_pos (Or.inl h)])) (fun h => ok_gd (by omega) (ok_ite (fun h2 => ok_some (by rw [if_pos (Or.inr h2)])) (fun h2 => ok_some ?_))))
  rw [if_neg (fun z => z.elim h h2)]
/-- one place more -/
def ext (s : Nat → Nat) (a k : Nat) : Nat → Nat := fun i => if i = a then k else s i
theorem ext_at (s : Nat → Nat) (a k : Nat) : ext s a k a = k := if_pos rfl
theorem ext_lt (s : Nat → Nat) {a k i : Nat} (h : i < a) : ext s a k i = s i := if_neg (by omega)
theorem grp_ext_s (s : Nat → Nat) (a k i : Nat) : grp (ext s a k) (a + 1) k i = (grp s a k i || decide (i = a)) := by
  unfold grp
  by_cases e : i = a
  · subst e
    rw [ext_at]; simp
  · unfold ext
    rw [if_neg e, decide_eq_false e, Bool.or_false]
    congr 1
    exact decide_eq_decide.mpr (by omega)
theorem grp_ext_o (s : Nat → Nat) {a k k2 : Nat} (h : k2 ≠ k) (i : Nat) : grp (ext s a k) (a + 1) k2 i = grp s a k2 i := by
  unfold grp
  by_cases e : i = a
  · subst e
    rw [ext_at, decide_eq_false (show ¬ k = k2 from fun z => h z.symm), decide_eq_false (show ¬ i < i by omega)]; simp
  · unfold ext
    rw [if_neg e]
    congr 1
    exact decide_eq_decide.mpr (by omega)
theorem mIs_low {v : Int} {G : Nat → Bool} (h : mIs v G) {n : Nat} (hn : n ≤ 14) (hG : ∀ i, n ≤ i → i < 14 → G i = false) : v.toNat < 2 ^ n := by
  refine Nat.lt_pow_two_of_testBit _ (fun i hi => ?_)
  by_cases h14 : i < 14
  · exact (h.2.2 i h14).trans (hG i hi h14)
  · exact gb_far h.2.1 (by omega)
theorem c_mayJoin (X : ST B known n mem stay M) {s : Nat → Nat} {a k : Nat} (D : DS B known mem stay s a M) (ha : a < n) (hk : k < nC B) (L : LG B known n mem s a) :
    Okk (f_X8_mayJoin a k M) (fun r => (r = 0 ∧ (¬ standG B known k (chG mem (grp (ext s a k) (a + 1) k) n) ∨ (∃ j, j < a ∧ twB B mem a j ∧ s j ≠ k) ∨ (¬ M 35 17 = 0 ∧ M 35 18 < mvW stay (a + 1) (ext s a k)))) ∨
      (r = 1 ∧ standG B known k (chG mem (grp (ext s a k) (a + 1) k) n) ∧ (∀ j, j < a → twB B mem a j → s j = k) ∧ (M 35 17 = 0 ∨ mvW stay (a + 1) (ext s a k) ≤ M 35 18))) := by
  obtain ⟨H, S, hT, hJ, -, -⟩ := X
  have h9 := S.1
  have h3 := H.c.1.k23
  have hg := mIs_or (D.1 k hk) (mIs_1 (j := a) (by omega))
  have hg2 : mIs (bor (M 45 k) (bshl 1 (a : Int))) (grp (ext s a k) (a + 1) k) := hg.congr (fun c _ => (grp_ext_s s a k c).symm)
  have hlow := mIs_low hg2 (n := n) (by omega) (fun i h1 h2 => by unfold grp; rw [decide_eq_false (by omega)]; rfl)
  have h512 := two9 h9
  have hnn := hg2.1
  unfold f_X8_mayJoin
  rw [toN]
  refine ok_gd (by omega) (ok_lt ?_)
  generalize bor (M 45 k) (bshl 1 (a : Int)) = g at hg2 hlow hnn ⊢
  have tab := hT g.toNat hlow
  have eX : chG mem (fun i => g.toNat.testBit i) n = chG mem (grp (ext s a k) (a + 1) k) n := funext (fun c => chG_congr (fun i hi => hg2.2.2 i (by omega)))
  unfold tabOK at tab
  rw [eX] at tab
  have hb := mIs_bit0 tab.1 (j := k) (by omega)
  refine ok_gd (by omega) (ok_ite (fun h => ok_some (Or.inl ⟨rfl, Or.inl ?_⟩)) (fun h => ?_))
  · have := hb.mp h
    rw [decide_eq_true hk, Bool.true_and, pb_f] at this
    exact this
  have hst : standG B known k (chG mem (grp (ext s a k) (a + 1) k) n) := by
    apply Classical.byContradiction
    intro hc
    exact h (hb.mpr (by rw [pb_f.mpr hc, Bool.and_false]))
  have hm := mIs_eq0 (mIs_andn (hJ a ha) hg2)
  rw [toN]
  refine ok_gd (by omega) (ok_ite (fun h2 => ?_) (fun h2 => ok_some (Or.inl ⟨rfl, Or.inr (Or.inl ?_)⟩)))
  · have htw : ∀ j, j < a → twB B mem a j → s j = k := by
      intro j hj htw
      have := hm.mp h2 j (by omega)
      rw [decide_eq_true hj, pb_iff.mpr htw, Bool.true_and, Bool.true_and, Bool.not_eq_false', grp_iff, ext_lt s hj] at this
      exact this.2
    refine ok_ite (fun h4 => ok_some (Or.inr ⟨rfl, hst, htw, Or.inl h4⟩)) (fun h4 => ?_)
    refine ok_e (c_movesOf S ha (ext_at s a k)) ?_
    have e : mvW stay (a + 1) (ext s a k) = M 35 16 + mv1 stay (ext s a k) a := by
      rw [D.2.2.1]
      show fb_si _ a + _ = _
      congr 1
      exact mvW_congr (fun i hi => ext_lt s hi)
    have b := mvW_b stay (ext s a k) (a + 1)
    rw [← e, wrap_of (by omega) (by omega)]
    exact ok_ite (fun h5 => ok_some (Or.inl ⟨rfl, Or.inr (Or.inr ⟨h4, h5⟩)⟩)) (fun h5 => ok_some (Or.inr ⟨rfl, hst, htw, Or.inr (by omega)⟩))
  · apply Classical.byContradiction
    intro hc
    apply h2
    rw [hm]
    intro j hj
    by_cases hja : j < a
    · by_cases htw : twB B mem a j
      · have hsj : s j = k := Classical.byContradiction (fun z => hc ⟨j, hja, htw, z⟩)
        have : grp (ext s a k) (a + 1) k j = true := grp_iff.mpr ⟨by omega, by rw [ext_lt s hja]; exact hsj⟩
        rw [this, Bool.not_true, Bool.and_false]
      · rw [pb_f.mpr htw, Bool.and_false]; rfl
    · rw [decide_eq_false hja, Bool.false_and]; rfl
end SPREADS
