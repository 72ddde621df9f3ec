/-! the search: its tables -/
noncomputable def pb (p : Prop) : Bool := @decide p (Classical.propDecidable p)
theorem pb_iff {p : Prop} : pb p = true ↔ p := by unfold pb; exact @decide_eq_true_iff p (Classical.propDecidable p)
theorem pb_f {p : Prop} : pb p = false ↔ ¬ p := by
  rw [← Bool.not_eq_true, pb_iff]
/-- the children of a set of places -/
def chG (mem : Nat → Nat) (G : Nat → Bool) (n c : Nat) : Bool := anyB (fun i => G i && decide (mem i = c)) n
def SU (B : Mem) (n : Nat) (mem : Nat → Nat) (stay : Nat → Int) (M : Mem) : Prop := n ≤ 9 ∧ (∀ i, i < n → mem i < nK B) ∧ (∀ i j, i < j → j < n → mem i < mem j) ∧ M 35 2 = (n : Int) ∧ (∀ i, i < n → M 36 i = (mem i : Int)) ∧ (∀ i, i < n → M 37 i = stay i)
theorem SU.fr {B M M' : Mem} {n : Nat} {mem : Nat → Nat} {stay : Nat → Int} (h : SU B n mem stay M) (k2 : M' 35 2 = M 35 2) (k : ∀ c i, 36 ≤ c → c ≤ 37 → M' c i = M c i) : SU B n mem stay M' :=
  ⟨h.1, h.2.1, h.2.2.1, k2.trans h.2.2.2.1, fun i hi => (k 36 i (by omega) (by omega)).trans (h.2.2.2.2.1 i hi), fun i hi => (k 37 i (by omega) (by omega)).trans (h.2.2.2.2.2 i hi)⟩
theorem chG_far {B M : Mem} {n : Nat} {mem : Nat → Nat} {stay : Nat → Int} (h : SU B n mem stay M) (G : Nat → Bool) {c : Nat} (hc : nK B ≤ c) : chG mem G n c = false := by
  unfold chG
  rw [anyB_f]
  intro k hk
  have := h.2.1 k hk
  rw [decide_eq_false (by omega), Bool.and_false]
theorem two9 {n : Nat} (h : n ≤ 9) : 2 ^ n ≤ 512 := by
  have : 2 ^ n ≤ 2 ^ 9 := Nat.pow_le_pow_right (by decide) h
  exact this
section TABLES
variable {B M : Mem} {known : Int} {n : Nat} {mem : Nat → Nat} {stay : Nat → Int}
theorem c_rs16 (H : JP B known M) (S : SU B n mem stay M) {v : Int} {G : Nat → Bool} (hv : mIs v G) : Okk (f_X8_readSets_l16 v M 0 0) (fun s => gIs B s.1 (chG mem G n)) := by
  have h14 := H.c.1.n14
  have h9 := S.1
  unfold f_X8_readSets_l16
  refine ok_whl n (fun k s => s.2 = (k : Int) ∧ mIs s.1 (chG mem G k)) (FU_big (by omega)) ⟨rfl, mIs_0⟩ ?_
  rintro k ⟨a, j⟩ hk ⟨h2, hm⟩
  dsimp only at h2 hm ⊢
  subst h2
  unfold f_X8_readSets_s16
  (try simp (disch := omega) only [wrap_of, toN, nA, n1, mr2, mr3, mr4, mr9, mr14, ml2, ml3, ml4, ml7, ml14, ml28, S.2.2.2.1])
  refine ok_ite (fun h => ?_) (fun h => ?_)
  · have e : k = n := by omega
    subst e; exact ok_some ⟨hm, fun c h1 h2 => chG_far S G h1⟩
  have hkn : k < n := by omega
  have hbit := mIs_bit0 hv (j := k) (by omega)
  have hmem := S.2.1 k hkn
  refine ok_ite (fun h0 => ok_lt (ok_some ⟨hkn, rfl, hm.congr (fun c hc => ?_)⟩)) (fun h0 => ok_gd (by omega) (ok_lt (ok_lt (ok_some ⟨hkn, rfl, ?_⟩))))
  · show chG mem G k c = (chG mem G k c || (G k && decide (mem k = c)))
    rw [hbit.mp h0, Bool.false_and, Bool.or_false]
  · have hG : G k = true := by
      cases e : G k with
      | false => exact absurd (hbit.mpr e) h0
      | true => rfl
    rw [S.2.2.2.2.1 k hkn]
    refine (mIs_or hm (mIs_1 (j := mem k) (by omega))).congr (fun c hc => ?_)
    show _ = (chG mem G k c || (G k && decide (mem k = c)))
    rw [hG, Bool.true_and]
    congr 1
    exact decide_eq_decide.mpr ⟨fun z => z.symm, fun z => z.symm⟩
/-- what the tables say of a set -/
def tabOK (B : Mem) (known : Int) (n : Nat) (mem : Nat → Nat) (M : Mem) (v : Nat) : Prop :=
  mIs (M 39 v) (fun k => decide (k < nC B) && pb (standG B known k (chG mem (fun i => v.testBit i) n))) ∧
  ((∃ k, k < nC B ∧ standG B known k (chG mem (fun i => v.testBit i) n)) → M 40 v = fb_si (addG B known (chG mem (fun i => v.testBit i) n)) (nS B) ∧ M 41 v = lackG B known (chG mem (fun i => v.testBit i) n))
theorem c_rs58 (H : JP B known M) {v : Nat} (hv : v < 512) {g : Int} {X : Nat → Bool} (hg : gIs B g X) (h0 : M 39 v = 0) : Okk (f_X8_readSets_l58 v g 0 M) (fun s => (∀ c i, ¬ (c = 39 ∧ i = v) → s.2 c i = M c i) ∧ mIs (s.2 39 v) (fun k => decide (k < nC B) && pb (standG B known k X))) := by
  have h3 := H.c.1.k23
  unfold f_X8_readSets_l58
  refine ok_whl (nC B) (fun k s => s.1 = (k : Int) ∧ (∀ c i, ¬ (c = 39 ∧ i = v) → s.2 c i = M c i) ∧ mIs (s.2 39 v) (fun j => decide (j < k) && pb (standG B known j X))) (FU_big (by omega)) ⟨rfl, fun _ _ _ => rfl, ?_⟩ ?_
  · show mIs (M 39 v) _
    rw [h0]
    exact mIs_0.congr (fun c _ => by rw [decide_eq_false (by omega), Bool.false_and])
  rintro k ⟨j, M2⟩ hk ⟨h1, hF, hm⟩
  dsimp only at h1 hF hm ⊢
  subst h1
  have H2 : JP B known M2 := H.fr (fun c i q => hF c i (by unfold isC at q; omega))
  unfold f_X8_readSets_s58
  (try simp (disch := omega) only [wrap_of, toN, nA, n1, mr2, mr3, mr4, mr9, mr14, ml2, ml3, ml4, ml7, ml14, ml28, H2.c.k])
  refine ok_ite (fun h => ?_) (fun h => ?_)
  · have e : k = nC B := by omega
    subst e; exact ok_some ⟨hF, hm⟩
  have hkn : k < nC B := by omega
  have hd : ∀ c, c ≠ k → decide (c < k + 1) = decide (c < k) := fun c hc => decide_eq_decide.mpr (by omega)
  refine ok_obn (c_mayStand H2 hg (k := k) (by omega)) (fun r hr => ?_)
  refine ok_ite (fun hr0 => ok_lt (ok_some ⟨hkn, rfl, hF, hm.congr (fun c hc => ?_)⟩)) (fun hr0 => ok_gd (by omega) (ok_gd (by omega) (ok_lt (ok_lt (ok_some ⟨hkn, rfl, fun c i q => ?_, ?_⟩)))))
  · by_cases e : c = k
    · subst e
      rw [pb_f.mpr (hr.f hr0), Bool.and_false, Bool.and_false]
    · rw [hd c e]
  · dsimp only
    rw [mup_o _ _ (by omega)]
    exact hF c i q
  · dsimp only
    rw [mup_s]
    refine (mIs_or hm (mIs_1 (j := k) (by omega))).congr (fun c hc => ?_)
    by_cases e : c = k
    · subst e
      simp [pb_iff.mpr (hr.t hr0)]
    · rw [hd c e, decide_eq_false e, Bool.or_false]
theorem c_rs138 (H : JP B known M) {v : Nat} (hv : v < 512) {g : Int} {X : Nat → Bool} (hg : gIs B g X) (h0 : M 40 v = 0) : Okk (f_X8_readSets_l138 v g 0 M) (fun s => (∀ c i, ¬ (c = 40 ∧ i = v) → s.2 c i = M c i) ∧ s.2 40 v = fb_si (addG B known X) (nS B)) := by
  have h16 := H.c.1.s16
  unfold f_X8_readSets_l138
  refine ok_whl (nS B) (fun k s => s.1 = (k : Int) ∧ (∀ c i, ¬ (c = 40 ∧ i = v) → s.2 c i = M c i) ∧ s.2 40 v = fb_si (addG B known X) k) (FU_big (by omega)) ⟨rfl, fun _ _ _ => rfl, h0⟩ ?_
  rintro k ⟨j, M2⟩ hk ⟨h1, hF, hm⟩
  dsimp only at h1 hF hm ⊢
  subst h1
  have H2 : JP B known M2 := H.fr (fun c i q => hF c i (by unfold isC at q; omega))
  unfold f_X8_readSets_s138
  (try simp (disch := omega) only [wrap_of, toN, nA, n1, mr2, mr3, mr4, mr9, mr14, ml2, ml3, ml4, ml7, ml14, ml28, H2.c.rc, H2.1.2.1])
  refine ok_gd H.c.ru (ok_ite (fun h => ?_) (fun h => ?_))
  · have e : k = nS B := by omega
    subst e; exact ok_some ⟨hF, hm⟩
  have hkn : k < nS B := by omega
  have b := addG_b H.c known X hkn
  have q := si_nn (f := addG B known X) (b := 1920996) (n := k) (fun s hs => addG_b H.c known X (by omega))
  have e1 : wrap (M2 40 v + addG B known X k) = fb_si (addG B known X) (k + 1) := by
    rw [hm, fb_si_succ, wrap_of (by omega) (by omega)]
  refine ok_gd (by omega) (ok_e (c_addedHarm H2 hg hkn) (ok_gd (by omega) (ok_lt (ok_lt (ok_some ⟨hkn, rfl, fun c i q => ?_, ?_⟩)))))
  · dsimp only
    rw [mup_o _ _ (by omega)]
    exact hF c i q
  · dsimp only
    rw [mup_s, e1]
theorem c_readSets (H : JP B known M) (S : SU B n mem stay M) : Okk (f_X8_readSets M) (fun M' => (∀ c i, ¬ (39 ≤ c ∧ c ≤ 41) → M' c i = M c i) ∧ ∀ v, v < 2 ^ n → tabOK B known n mem M' v) := by
  have h3 := H.c.1.k23
  have h9 := S.1
  have h512 := two9 h9
  unfold f_X8_readSets
  refine ok_obn (P := fun s => (∀ c i, ¬ (39 ≤ c ∧ c ≤ 41) → s.2 c i = M c i) ∧ ∀ v, v < 2 ^ n → tabOK B known n mem s.2 v) ?_ (fun s hs => ok_some hs)
  unfold f_X8_readSets_l2
  refine ok_whl (2 ^ n) (fun k s => s.1 = (k : Int) ∧ (∀ c i, ¬ (39 ≤ c ∧ c ≤ 41) → s.2 c i = M c i) ∧ ∀ v, v < k → tabOK B known n mem s.2 v) (FU_big (by omega)) ⟨rfl, fun _ _ _ => rfl, fun v h => absurd h (by omega)⟩ ?_
  rintro k ⟨j, M2⟩ hk ⟨h1, hF, hT⟩
  dsimp only at h1 hF hT ⊢
  subst h1
  have H2 : JP B known M2 := H.fr (fun c i q => hF c i (by unfold isC at q; omega))
  have S2 : SU B n mem stay M2 := S.fr (hF 35 2 (by omega)) (fun c i h1 h2 => hF c i (by omega))
  unfold f_X8_readSets_s2
  rw [S2.2.2.2.1, bshl1_n n (by omega)]
  refine ok_ite (fun h => ?_) (fun h => ?_)
  · have e : k = 2 ^ n := by omega
    subst e; exact ok_some ⟨hF, hT⟩
  have hkn : k < 2 ^ n := by omega
  have hkm : mIs (k : Int) (fun i => k.testBit i) := mIs.of (by omega) (fun c _ => rfl)
  refine ok_obn (c_rs16 H2 S2 hkm) (fun s hs => ?_)
  obtain ⟨g, j⟩ := s
  dsimp only at hs ⊢
  unfold f_X8_readSets_j49k2
  (try simp (disch := omega) only [wrap_of, toN, nA, n1, mr2, mr3, mr4, mr9, mr14, ml2, ml3, ml4, ml7, ml14, ml28])
  refine ok_gd (by omega) (ok_lt ?_)
  have f3 : ∀ c i, ¬ (c = 39 ∧ i = k) → mup M2 39 k 0 c i = M2 c i := fun c i q => mup_o _ _ q
  have e3 : mup M2 39 k 0 39 k = 0 := mup_s _ _ _ _
  generalize mup M2 39 k 0 = M3 at f3 e3 ⊢
  have H3 : JP B known M3 := H2.fr (fun c i q => f3 c i (by unfold isC at q; omega))
  refine ok_obn (c_rs58 H3 (v := k) (by omega) hs e3) (fun s4 hs4 => ?_)
  obtain ⟨j4, M4⟩ := s4
  obtain ⟨f4, m4⟩ := hs4
  dsimp only at f4 m4 ⊢
  unfold f_X8_readSets_j99k2
  (try simp (disch := omega) only [wrap_of, toN, nA, n1, mr2, mr3, mr4, mr9, mr14, ml2, ml3, ml4, ml7, ml14, ml28])
  refine ok_gd (by omega) (ok_lt (ok_gd (by omega) (ok_lt ?_)))
  have f5 : ∀ c i, ¬ ((c = 40 ∨ c = 41) ∧ i = k) → mup (mup M4 40 k 0) 41 k 0 c i = M4 c i := fun c i q => by rw [mup_o _ _ (by omega), mup_o _ _ (by omega)]
  have e5 : mup (mup M4 40 k 0) 41 k 0 40 k = 0 := by rw [mup_o _ _ (by omega), mup_s]
  generalize mup (mup M4 40 k 0) 41 k 0 = M5 at f5 e5 ⊢
  have m5 : mIs (M5 39 k) (fun j => decide (j < nC B) && pb (standG B known j (chG mem (fun i => k.testBit i) n))) := by rw [f5 39 k (by omega)]; exact m4
  have H5 : JP B known M5 := H3.fr (fun c i q => by rw [f5 c i (by unfold isC at q; omega), f4 c i (by unfold isC at q; omega)])
  refine ok_gd (by omega) (ok_ite (fun h0 => ?_) (fun h0 => ?_))
  · refine ok_lt (ok_some ⟨hkn, rfl, fun c i q => ?_, fun v hv => ?_⟩)
    · try dsimp only
      rw [f5 c i (by omega), f4 c i (by omega), f3 c i (by omega)]; exact hF c i q
    · by_cases e : v = k
      · subst e
        refine ⟨m5, fun z => ?_⟩
        obtain ⟨k2, hk2, hst⟩ := z
        have := (mIs_eq0 m5).mp h0 k2 (by omega)
        rw [decide_eq_true hk2, pb_iff.mpr hst] at this
        cases this
      · have := hT v (by omega)
        unfold tabOK at this ⊢
        try dsimp only
        rw [f5 39 v (by omega), f5 40 v (by omega), f5 41 v (by omega), f4 39 v (by omega), f4 40 v (by omega), f4 41 v (by omega), f3 39 v (by omega), f3 40 v (by omega), f3 41 v (by omega)]
        exact this
  · refine ok_e (c_lackIn H5 hs) (ok_gd (by omega) (ok_lt ?_))
    have f6 : ∀ c i, ¬ (c = 41 ∧ i = k) → mup M5 41 k (lackG B known (chG mem (fun i => k.testBit i) n)) c i = M5 c i := fun c i q => mup_o _ _ q
    have e6 : mup M5 41 k (lackG B known (chG mem (fun i => k.testBit i) n)) 41 k = lackG B known (chG mem (fun i => k.testBit i) n) := mup_s _ _ _ _
    generalize mup M5 41 k (lackG B known (chG mem (fun i => k.testBit i) n)) = M6 at f6 e6 ⊢
    have H6 : JP B known M6 := H5.fr (fun c i q => f6 c i (by unfold isC at q; omega))
    refine ok_obn (c_rs138 H6 (v := k) (by omega) hs ((f6 40 k (by omega)).trans e5)) (fun s7 hs7 => ?_)
    obtain ⟨j7, M7⟩ := s7
    obtain ⟨f7, e7⟩ := hs7
    dsimp only at f7 e7 ⊢
    unfold f_X8_readSets_j176k2
    (try simp (disch := omega) only [wrap_of, toN, nA, n1, mr2, mr3, mr4, mr9, mr14, ml2, ml3, ml4, ml7, ml14, ml28])
    refine ok_lt (ok_some ⟨hkn, rfl, fun c i q => ?_, fun v hv => ?_⟩)
    · try dsimp only
      rw [f7 c i (by omega), f6 c i (by omega), f5 c i (by omega), f4 c i (by omega), f3 c i (by omega)]; exact hF c i q
    · by_cases e : v = k
      · subst e
        refine ⟨?_, fun _ => ⟨e7, ?_⟩⟩
        · try dsimp only
          rw [f7 39 v (by omega), f6 39 v (by omega)]; exact m5
        · try dsimp only
          rw [f7 41 v (by omega)]; exact e6
      · have := hT v (by omega)
        unfold tabOK at this ⊢
        try dsimp only
        rw [f7 39 v (by omega), f7 40 v (by omega), f7 41 v (by omega), f6 39 v (by omega), f6 40 v (by omega), f6 41 v (by omega), f5 39 v (by omega), f5 40 v (by omega), f5 41 v (by omega), f4 39 v (by omega), f4 40 v (by omega), f4 41 v (by omega), f3 39 v (by omega), f3 40 v (by omega), f3 41 v (by omega)]
        exact this
def twB (B : Mem) (mem : Nat → Nat) (i j : Nat) : Prop := howS B (nS B) = 2 ∧ B 89 (14 * mem i + mem j) = 1
theorem c_rt19 (H : JP B known M) (S : SU B n mem stay M) {i : Nat} (hi : i < n) (h0 : M 38 i = 0) : Okk (f_X8_readTwins_l19 i 0 M) (fun s => (∀ c k, ¬ (c = 38 ∧ k = i) → s.2 c k = M c k) ∧ mIs (s.2 38 i) (fun j => decide (j < i) && pb (twB B mem i j))) := by
  have h9 := S.1
  unfold f_X8_readTwins_l19
  refine ok_whl i (fun k s => s.1 = (k : Int) ∧ (∀ c k, ¬ (c = 38 ∧ k = i) → s.2 c k = M c k) ∧ mIs (s.2 38 i) (fun j => decide (j < k) && pb (twB B mem i j))) (FU_big (by omega)) ⟨rfl, fun _ _ _ => rfl, ?_⟩ ?_
  · show mIs (M 38 i) _
    rw [h0]
    exact mIs_0.congr (fun c _ => by rw [decide_eq_false (by omega), Bool.false_and])
  rintro k ⟨j, M2⟩ hk ⟨h1, hF, hm⟩
  dsimp only at h1 hF hm ⊢
  subst h1
  have H2 : JP B known M2 := H.fr (fun c i q => hF c i (by unfold isC at q; omega))
  have S2 : SU B n mem stay M2 := S.fr (hF 35 2 (by omega)) (fun c i h1 h2 => hF c i (by omega))
  unfold f_X8_readTwins_s19
  (try simp (disch := omega) only [wrap_of, toN, nA, n1, mr2, mr3, mr4, mr9, mr14, ml2, ml3, ml4, ml7, ml14, ml28])
  refine ok_ite (fun h => ?_) (fun h => ?_)
  · have e : k = i := by omega
    subst e; exact ok_some ⟨hF, hm⟩
  have hkn : k < i := by omega
  have hd : ∀ c, c ≠ k → decide (c < k + 1) = decide (c < k) := fun c hc => decide_eq_decide.mpr (by omega)
  rw [S2.2.2.2.2.1 i hi, S2.2.2.2.2.1 k (by omega)]
  refine ok_gd (by omega) (ok_gd (by omega) (ok_obn (c_joins H2 (S.2.1 i hi) (S.2.1 k (by omega))) (fun r hr => ?_)))
  refine ok_ite (fun hr0 => ok_lt (ok_some ⟨hkn, rfl, hF, hm.congr (fun c hc => ?_)⟩)) (fun hr0 => ok_gd (by omega) (ok_gd (by omega) (ok_lt (ok_lt (ok_some ⟨hkn, rfl, fun c i q => ?_, ?_⟩)))))
  · by_cases e : c = k
    · subst e
      have : pb (twB B mem i c) = false := pb_f.mpr (hr.f hr0)
      rw [this, Bool.and_false, Bool.and_false]
    · rw [hd c e]
  · dsimp only
    rw [mup_o _ _ (by omega)]
    exact hF c i q
  · dsimp only
    rw [mup_s]
    refine (mIs_or hm (mIs_1 (j := k) (by omega))).congr (fun c hc => ?_)
    by_cases e : c = k
    · subst e
      have : pb (twB B mem i c) = true := pb_iff.mpr (hr.t hr0)
      simp [this]
    · rw [hd c e, decide_eq_false e, Bool.or_false]
theorem c_readTwins (H : JP B known M) (S : SU B n mem stay M) : Okk (f_X8_readTwins M) (fun M' => (∀ c i, c ≠ 38 → M' c i = M c i) ∧ ∀ i, i < n → mIs (M' 38 i) (fun j => decide (j < i) && pb (twB B mem i j))) := by
  have h9 := S.1
  unfold f_X8_readTwins
  refine ok_obn (P := fun s => (∀ c i, c ≠ 38 → s.2 c i = M c i) ∧ ∀ i, i < n → mIs (s.2 38 i) (fun j => decide (j < i) && pb (twB B mem i j))) ?_ (fun s hs => ok_some hs)
  unfold f_X8_readTwins_l2
  refine ok_whl n (fun k s => s.1 = (k : Int) ∧ (∀ c i, c ≠ 38 → s.2 c i = M c i) ∧ ∀ i, i < k → mIs (s.2 38 i) (fun j => decide (j < i) && pb (twB B mem i j))) (FU_big (by omega)) ⟨rfl, fun _ _ _ => rfl, fun v h => absurd h (by omega)⟩ ?_
  rintro k ⟨j, M2⟩ hk ⟨h1, hF, hT⟩
  dsimp only at h1 hF hT ⊢
  subst h1
  unfold f_X8_readTwins_s2
  have S2 : SU B n mem stay M2 := S.fr (hF 35 2 (by omega)) (fun c i h1 h2 => hF c i (by omega))
  (try simp (disch := omega) only [wrap_of, toN, nA, n1, mr2, mr3, mr4, mr9, mr14, ml2, ml3, ml4, ml7, ml14, ml28, S2.2.2.2.1])
  refine ok_ite (fun h => ?_) (fun h => ?_)
  · have e : k = n := by omega
    subst e; exact ok_some ⟨hF, hT⟩
  have hkn : k < n := by omega
  refine ok_gd (by omega) (ok_lt ?_)
  have f3 : ∀ c i, ¬ (c = 38 ∧ i = k) → mup M2 38 k 0 c i = M2 c i := fun c i q => mup_o _ _ q
  have e3 : mup M2 38 k 0 38 k = 0 := mup_s _ _ _ _
  generalize mup M2 38 k 0 = M3 at f3 e3 ⊢
  have H3 : JP B known M3 := H.fr (fun c i q => by rw [f3 c i (by unfold isC at q; omega)]; exact hF c i (by unfold isC at q; omega))
  have S3 : SU B n mem stay M3 := S2.fr (f3 35 2 (by omega)) (fun c i h1 h2 => f3 c i (by omega))
  refine ok_obn (c_rt19 H3 S3 hkn e3) (fun s4 hs4 => ?_)
  obtain ⟨j4, M4⟩ := s4
  obtain ⟨f4, m4⟩ := hs4
  dsimp only at f4 m4 ⊢
  unfold f_X8_readTwins_j64k2
  (try simp (disch := omega) only [wrap_of, toN, nA, n1, mr2, mr3, mr4, mr9, mr14, ml2, ml3, ml4, ml7, ml14, ml28])
  refine ok_lt (ok_some ⟨hkn, rfl, fun c i q => ?_, fun i hi => ?_⟩)
  · try dsimp only
    rw [f4 c i (by omega), f3 c i (by omega)]; exact hF c i q
  · by_cases e : i = k
    · subst e; exact m4
    · dsimp only
      rw [f4 38 i (by omega), f3 38 i (by omega)]; exact hT i (by omega)
end TABLES
