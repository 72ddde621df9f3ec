/-! the search: a place given and taken back -/
def pm (M : Mem) (a k : Nat) (sg : Int) (J : Nat) : Mem := fun c i => if c = 44 ∧ i % 3 = k ∧ i / 3 < J then M 44 i + sg * M 43 (9 * (i / 3) + a) else M c i
theorem pm_o (M : Mem) (a k : Nat) (sg : Int) (J : Nat) {c : Nat} (i : Nat) (h : c ≠ 44) : pm M a k sg J c i = M c i := if_neg (fun z => h z.1)
theorem pm_a (M : Mem) {a k : Nat} (sg : Int) {J j : Nat} (hk : k < 3) (hj : j < J) : pm M a k sg J 44 (3 * j + k) = M 44 (3 * j + k) + sg * M 43 (9 * j + a) := by
  unfold pm
  have e : (3 * j + k) / 3 = j := by omega
  rw [if_pos ⟨rfl, by omega, by omega⟩, e]
theorem pm_b (M : Mem) {a k : Nat} (sg : Int) {J i : Nat} (h : ¬ (i % 3 = k ∧ i / 3 < J)) : pm M a k sg J 44 i = M 44 i := if_neg (fun z => h z.2)
theorem pm_next (M : Mem) {a k : Nat} (sg : Int) (j : Nat) (hk : k < 3) : mup (pm M a k sg j) 44 (3 * j + k) (M 44 (3 * j + k) + sg * M 43 (9 * j + a)) = pm M a k sg (j + 1) := by
  funext c i
  by_cases hc : c = 44
  · subst hc
    by_cases hi : i = 3 * j + k
    · subst hi
      rw [mup_s, pm_a M sg hk (by omega)]
    · rw [mup_o _ _ (fun z => hi z.2)]
      by_cases h : i % 3 = k ∧ i / 3 < j
      · have e : 3 * (i / 3) + k = i := by omega
        rw [← e, pm_a M sg hk h.2, pm_a M sg hk (by omega)]
      · rw [pm_b M sg h, pm_b M sg (by omega)]
  · rw [mup_o _ _ (fun z => hc z.1), pm_o _ _ _ _ _ _ hc, pm_o _ _ _ _ _ _ hc]
theorem c_put39 {M : Mem} {a k J : Nat} {sg : Int} (hJ : M 35 9 = (J : Int)) (hJ16 : J ≤ 16) (ha : a < 9) (hk : k < 3) (hsg : sg = 1 ∨ sg = -1)
    (hw : ∀ j, j < J → 0 ≤ M 43 (9 * j + a) ∧ M 43 (9 * j + a) ≤ 99) (hs : ∀ j, j < J → 0 ≤ M 44 (3 * j + k) ∧ M 44 (3 * j + k) ≤ 891) :
    f_X8_put_l39 a k sg 0 M = some ((J : Int), pm M a k sg J) := by
  unfold f_X8_put_l39
  refine whl_n J (fun j => ((j : Int), pm M a k sg j)) (by omega) ?_ (fun j hj => ?_) ?_
  · show ((0 : Int), M) = ((0 : Int), pm M a k sg 0)
    congr 1
    funext c i
    unfold pm
    rw [if_neg (by omega)]
  · apply ok_to
    have w := hw j hj
    have u := hs j hj
    have e1 := pm_o M a k sg j (c := 35) 9 (by omega)
    have e2 := pm_o M a k sg j (c := 43) (9 * j + a) (by omega)
    have e3 := pm_b M (a := a) sg (J := j) (k := k) (i := 3 * j + k) (by omega)
    have nx := pm_next M (a := a) sg j hk
    unfold f_X8_put_s39
    try dsimp only
    (try simp (disch := omega) only [wrap_of, toN, nA, n1, mr2, mr3, mr4, mr9, mr14, ml2, ml3, ml4, ml7, ml14, ml28, e1, hJ, e2, e3])
    refine ok_ite_f (by omega) (ok_gd (by omega) (ok_gd (by omega) (ok_gd (by omega) (ok_lt (ok_lt (ok_some ?_))))))
    have e4 : wrap (M 44 (3 * j + k) + wrap (sg * M 43 (9 * j + a))) = M 44 (3 * j + k) + sg * M 43 (9 * j + a) := by
      rcases hsg with rfl | rfl
      · rw [wrap_of (x := 1 * M 43 (9 * j + a)) (by omega) (by omega), wrap_of (by omega) (by omega)]
      · rw [wrap_of (x := (-1) * M 43 (9 * j + a)) (by omega) (by omega), wrap_of (by omega) (by omega)]
    rw [e4, nx]
  · apply ok_to
    have e1 := pm_o M a k sg J (c := 35) 9 (by omega)
    unfold f_X8_put_s39
    try dsimp only
    (try simp (disch := omega) only [wrap_of, toN, nA, n1, mr2, mr3, mr4, mr9, mr14, ml2, ml3, ml4, ml7, ml14, ml28, e1, hJ])
    exact ok_ite_t (by omega) (ok_some rfl)
section PUT
variable {B M : Mem} {known : Int} {n : Nat} {mem : Nat → Nat} {stay : Nat → Int}
/-- what put may change -/
def ChP (c i : Nat) : Prop := (c = 35 ∧ i = 16) ∨ (44 ≤ c ∧ c ≤ 46)
theorem smS_ext (t : Nat) (s : Nat → Nat) (a k k2 : Nat) : smS B known mem t (ext s a k) k2 (a + 1) = smS B known mem t s k2 a + if k = k2 then wOf B known t (mem a) else 0 := by
  show fb_si _ a + (if ext s a k a = k2 then wOf B known t (mem a) else 0) = _
  rw [ext_at]
  congr 1
  exact fb_si_cong (fun i hi => by rw [ext_lt s hi])
theorem mvW_ext (s : Nat → Nat) (a k : Nat) : mvW stay (a + 1) (ext s a k) = mvW stay a s + mv1 stay (ext s a k) a := by
  show fb_si _ a + _ = _
  congr 1
  exact mvW_congr (fun i hi => ext_lt s hi)
theorem put_w (X : ST B known n mem stay M) {a : Nat} (ha : a < n) : ∀ j, j < spN B (nS B) → 0 ≤ M 43 (9 * j + a) ∧ M 43 (9 * j + a) ≤ 99 := by
  intro j hj
  obtain ⟨t, ht, hp, e⟩ := fb_ct_kth (p := fun t => decide (isSp B t)) (k := j) hj
  have hsp : isSp B t := of_decide_eq_true hp
  have := (X.2.2.2.2.2 t ht hsp).2 a ha
  have e2 : spN B t = j := e
  rw [e2] at this
  rw [this]
  exact wOf_b X.1.c.1 known t (X.2.1.2.1 a ha)
theorem put_s (X : ST B known n mem stay M) {s : Nat → Nat} {a k : Nat} (D : DS B known mem stay s a M) (ha : a ≤ n) (hk : k < nC B) : ∀ j, j < spN B (nS B) → 0 ≤ M 44 (3 * j + k) ∧ M 44 (3 * j + k) ≤ 891 := by
  intro j hj
  obtain ⟨t, ht, hp, e⟩ := fb_ct_kth (p := fun t => decide (isSp B t)) (k := j) hj
  have hsp : isSp B t := of_decide_eq_true hp
  have := D.2.2.2 t ht hsp k hk
  have e2 : spN B t = j := e
  rw [e2] at this
  rw [this]
  exact smS_b X.1.c.1 X.2.1 t s k ha
theorem c_put (X : ST B known n mem stay M) {s' : Nat → Nat} {a a' k : Nat} {sg : Int} (D : DS B known mem stay s' a' M) (ha : a < n) (ha' : a' ≤ n) (hk : k < nC B) (hsg : sg = 1 ∨ sg = -1) {s : Nat → Nat} (hs : s a = k) :
    Okk (f_X8_put a k sg M) (fun M' => (∀ c i, ¬ ChP c i → M' c i = M c i) ∧ M' 46 a = (k : Int) ∧ (∀ i, i ≠ a → M' 46 i = M 46 i) ∧ M' 45 k = bxor (M 45 k) (bshl 1 a) ∧ (∀ k2, k2 ≠ k → M' 45 k2 = M 45 k2) ∧
      M' 35 16 = M 35 16 + sg * mv1 stay s a ∧ (∀ j k2, j < spN B (nS B) → k2 < 3 → M' 44 (3 * j + k2) = M 44 (3 * j + k2) + if k2 = k then sg * M 43 (9 * j + a) else 0)) := by
  have h9 := X.2.1.1
  have h3 := X.1.c.1.k23
  have h16 := X.1.c.1.s16
  have hsp := spN_le B (nS B)
  have mb := mv1_b stay s a
  have mm := mvW_b stay s' a'
  unfold f_X8_put
  (try simp (disch := omega) only [wrap_of, toN, nA, n1, mr2, mr3, mr4, mr9, mr14, ml2, ml3, ml4, ml7, ml14, ml28])
  refine ok_gd (by omega) (ok_lt (ok_gd (by omega) (ok_gd (by omega) (ok_lt ?_))))
  rw [mup_o (c := 46) _ _ (by omega)]
  have f3 : ∀ c i, ¬ ((c = 46 ∧ i = a) ∨ (c = 45 ∧ i = k)) → mup (mup M 46 a (k : Int)) 45 k (bxor (M 45 k) (bshl 1 (a : Int))) c i = M c i := fun c i q => by rw [mup_o _ _ (by omega), mup_o _ _ (by omega)]
  have e46 : mup (mup M 46 a (k : Int)) 45 k (bxor (M 45 k) (bshl 1 (a : Int))) 46 a = (k : Int) := by rw [mup_o _ _ (by omega), mup_s]
  have e45 : mup (mup M 46 a (k : Int)) 45 k (bxor (M 45 k) (bshl 1 (a : Int))) 45 k = bxor (M 45 k) (bshl 1 (a : Int)) := mup_s _ _ _ _
  generalize mup (mup M 46 a (k : Int)) 45 k (bxor (M 45 k) (bshl 1 (a : Int))) = M3 at f3 e46 e45 ⊢
  have S3 : SU B n mem stay M3 := X.2.1.fr (f3 35 2 (by omega)) (fun c i h1 h2 => f3 c i (by omega))
  refine ok_e (c_movesOf S3 ha hs) (ok_lt ?_)
  have e16 : M3 35 16 = M 35 16 := f3 35 16 (by omega)
  have em : wrap (M3 35 16 + wrap (sg * mv1 stay s a)) = M 35 16 + sg * mv1 stay s a := by
    rw [e16, D.2.2.1]
    rcases hsg with rfl | rfl
    · rw [wrap_of (x := 1 * mv1 stay s a) (by omega) (by omega), wrap_of (by omega) (by omega)]
    · rw [wrap_of (x := (-1) * mv1 stay s a) (by omega) (by omega), wrap_of (by omega) (by omega)]
  rw [em]
  have f4 : ∀ c i, ¬ (c = 35 ∧ i = 16) → mup M3 35 16 (M 35 16 + sg * mv1 stay s a) c i = M3 c i := fun c i q => mup_o _ _ q
  have e4 : mup M3 35 16 (M 35 16 + sg * mv1 stay s a) 35 16 = M 35 16 + sg * mv1 stay s a := mup_s _ _ _ _
  generalize mup M3 35 16 (M 35 16 + sg * mv1 stay s a) = M4 at f4 e4 ⊢
  have f44 : ∀ c i, (42 ≤ c ∧ c ≤ 44) ∨ (c = 35 ∧ i ≠ 16) → M4 c i = M c i := fun c i q => by rw [f4 c i (by omega), f3 c i (by omega)]
  refine ok_e (c_put39 (J := spN B (nS B)) ((f44 35 9 (by omega)).trans X.2.2.2.2.1) (by omega) (by omega) (by omega) hsg (fun j hj => by rw [f44 43 _ (by omega)]; exact put_w X ha j hj) (fun j hj => by rw [f44 44 _ (by omega)]; exact put_s X D ha' hk j hj)) ?_
  unfold f_X8_put_j82
  try dsimp only
  refine ok_some ⟨fun c i q => ?_, ?_, fun i hi => ?_, ?_, fun k2 hk2 => ?_, ?_, fun j k2 hj hk2 => ?_⟩
  · unfold ChP at q
    rw [pm_o _ _ _ _ _ _ (by omega), f4 c i (by omega), f3 c i (by omega)]
  · rw [pm_o _ _ _ _ _ _ (by omega), f4 _ _ (by omega)]; exact e46
  · rw [pm_o _ _ _ _ _ _ (by omega), f4 _ _ (by omega), f3 _ _ (by omega)]
  · rw [pm_o _ _ _ _ _ _ (by omega), f4 _ _ (by omega)]; exact e45
  · rw [pm_o _ _ _ _ _ _ (by omega), f4 _ _ (by omega), f3 _ _ (by omega)]
  · rw [pm_o _ _ _ _ _ _ (by omega)]; exact e4
  · by_cases e : k2 = k
    · subst e
      rw [pm_a _ _ hk2 hj, if_pos rfl, f44 44 _ (by omega), f44 43 _ (by omega)]
    · rw [pm_b _ _ (by omega), if_neg e, f44 44 _ (by omega), Int.add_zero]
theorem c_put_in (X : ST B known n mem stay M) {s : Nat → Nat} {a k : Nat} (D : DS B known mem stay s a M) (ha : a < n) (hk : k < nC B) :
    Okk (f_X8_put a k 1 M) (fun M' => (∀ c i, ¬ ChP c i → M' c i = M c i) ∧ DS B known mem stay (ext s a k) (a + 1) M') := by
  have h9 := X.2.1.1
  have h3 := X.1.c.1.k23
  refine ok_mono (c_put X D ha (by omega) hk (Or.inl rfl) (ext_at s a k)) (fun M' hM => ?_)
  obtain ⟨p1, p2, p3, p4, p5, p6, p7⟩ := hM
  refine ⟨p1, fun k2 hk2 => ?_, fun i hi => ?_, ?_, fun t ht hsp k2 hk2 => ?_⟩
  · by_cases e : k2 = k
    · subst e
      rw [p4]
      refine (mIs_xor (D.1 k2 hk2) (mIs_1 (j := a) (by omega))).congr (fun c hc => ?_)
      rw [grp_ext_s]
      by_cases e : c = a
      · subst e
        have : grp s c k2 c = false := by unfold grp; rw [decide_eq_false (by omega)]; rfl
        rw [this, decide_eq_true rfl]; rfl
      · rw [decide_eq_false e, Bool.or_false, Bool.xor_false]
    · rw [p5 k2 e]
      exact (D.1 k2 hk2).congr (fun c hc => (grp_ext_o s e c).symm)
  · by_cases e : i = a
    · subst e; rw [p2, ext_at]
    · rw [p3 i e, ext_lt s (by omega)]
      exact D.2.1 i (by omega)
  · rw [p6, D.2.2.1, mvW_ext, Int.one_mul]
  · have hlt := spN_lt B ht hsp
    rw [p7 _ _ hlt (by omega), D.2.2.2 t ht hsp k2 hk2, smS_ext, (X.2.2.2.2.2 t ht hsp).2 a ha]
    by_cases e : k2 = k
    · rw [if_pos e, if_pos e.symm, Int.one_mul]
    · rw [if_neg e, if_neg (fun z => e z.symm)]
theorem c_put_out (X : ST B known n mem stay M) {s : Nat → Nat} {a k : Nat} (D : DS B known mem stay (ext s a k) (a + 1) M) (ha : a < n) (hk : k < nC B) :
    Okk (f_X8_put a k (-1) M) (fun M' => (∀ c i, ¬ ChP c i → M' c i = M c i) ∧ DS B known mem stay s a M') := by
  have h9 := X.2.1.1
  have h3 := X.1.c.1.k23
  refine ok_mono (c_put X D ha (by omega) hk (Or.inr rfl) (ext_at s a k)) (fun M' hM => ?_)
  obtain ⟨p1, p2, p3, p4, p5, p6, p7⟩ := hM
  refine ⟨p1, fun k2 hk2 => ?_, fun i hi => ?_, ?_, fun t ht hsp k2 hk2 => ?_⟩
  · by_cases e : k2 = k
    · subst e
      rw [p4]
      refine (mIs_xor (D.1 k2 hk2) (mIs_1 (j := a) (by omega))).congr (fun c hc => ?_)
      rw [grp_ext_s]
      by_cases e : c = a
      · subst e
        have : grp s c k2 c = false := by unfold grp; rw [decide_eq_false (by omega)]; rfl
        rw [this, decide_eq_true rfl]; rfl
      · rw [decide_eq_false e, Bool.or_false, Bool.xor_false]
    · rw [p5 k2 e]
      exact (D.1 k2 hk2).congr (fun c hc => (grp_ext_o s e c))
  · rw [p3 i (by omega), D.2.1 i (by omega), ext_lt s hi]
  · rw [p6, D.2.2.1, mvW_ext]; omega
  · have hlt := spN_lt B ht hsp
    rw [p7 _ _ hlt (by omega), D.2.2.2 t ht hsp k2 hk2, smS_ext, (X.2.2.2.2.2 t ht hsp).2 a ha]
    by_cases e : k2 = k
    · rw [if_pos e, if_pos e.symm]; omega
    · rw [if_neg e, if_neg (fun z => e z.symm)]; omega
/-- an empty class like an empty one ahead of it -/
def likeEmpty (B : Mem) (s : Nat → Nat) (a k b : Nat) : Prop := b < k ∧ (∀ i, i < a → s i ≠ k) ∧ (∀ i, i < a → s i ≠ b) ∧ B 91 b = B 91 k ∧ ∀ c, c < 14 → (B 90 (3 * c + b) = 1 ↔ B 90 (3 * c + k) = 1)
theorem c_isRepeat (X : ST B known n mem stay M) {s : Nat → Nat} {a k : Nat} (D : DS B known mem stay s a M) (ha : a < n) (hk : k < nC B) :
    Okk (f_X8_isRepeat k M) (fun r => r = 0 ∨ (r = 1 ∧ stay 0 = -1 ∧ ∃ b, likeEmpty B s a k b)) := by
  have h9 := X.2.1.1
  have h3 := X.1.c.1.k23
  have emp : ∀ k, k < nC B → (M 45 k = 0 ↔ ∀ i, i < a → s i ≠ k) := by
    intro k hk
    rw [mIs_eq0 (D.1 k hk)]
    constructor
    · intro h i hi e
      have := h i (by omega)
      rw [grp_iff.mpr ⟨hi, e⟩] at this
      cases this
    · intro h i _
      cases e : grp s a k i with
      | false => rfl
      | true => exact absurd (grp_iff.mp e).2 (h i (grp_iff.mp e).1)
  unfold f_X8_isRepeat
  rw [toN, X.2.1.2.2.2.2.2 0 (by omega)]
  refine ok_gd (by omega) (ok_ite (fun h1 => ok_ite (fun h2 => ?_) (fun _ => ok_some (Or.inl rfl))) (fun _ => ok_some (Or.inl rfl)))
  refine ok_lpr (P := fun _ => True) (P2 := fun r => r = 1 ∧ stay 0 = -1 ∧ ∃ b, likeEmpty B s a k b) ?_ (fun v _ => ok_some (Or.inl rfl)) (fun r hr => ok_some (Or.inr hr))
  unfold f_X8_isRepeat_l23
  refine ok_whl k (fun j s => s = (j : Int)) (FU_big (by omega)) rfl ?_
  rintro j v hj rfl
  unfold f_X8_isRepeat_s23
  (try simp (disch := omega) only [wrap_of, toN, nA, n1, mr2, mr3, mr4, mr9, mr14, ml2, ml3, ml4, ml7, ml14, ml28, X.1.c.w16])
  refine ok_ite (fun _ => ok_some trivial) (fun h => ?_)
  have hjk : j < k := by omega
  refine ok_gd (by omega) (ok_ite (fun h3' => ok_gd (by omega) (ok_gd (by omega) (ok_ite (fun h4 => ok_gd (by omega) (ok_gd (by omega) (ok_ite (fun h5 => ok_some ⟨rfl, h2, j, hjk, (emp k hk).mp h1, (emp j (by omega)).mp h3', h4, fun c hc => ?_⟩) (fun _ => ok_lt (ok_some ⟨hjk, rfl⟩))))) (fun _ => ok_lt (ok_some ⟨hjk, rfl⟩))))) (fun _ => ok_lt (ok_some ⟨hjk, rfl⟩)))
  have := (mIs_eq (X.1.c.nots (k := j) (by omega)) (X.1.c.nots (k := k) (by omega))).mp h5 c hc
  exact decide_eq_decide.mp this
end PUT
