/-! the class: its RULE, and what the judge reads of it -/
def howC (h : Int) : Int := if h = 1 then 13 else if h = 2 then 17 else 18
theorem c_twinsHow {B M : Mem} (H : CF B M) : f_X7_twinsHow (B 0 11) M = some (howC (howS B (nS B))) := by
  have h16 := H.1.s16
  unfold f_X7_twinsHow f_X7_twinsHow_l5
  refine (obn_e _ (whl_n (r := (howC (howS B (nS B)), (nS B : Int))) (nS B) (fun k => (howC (howS B k), (k : Int))) (by omega) rfl (fun k hk => ?_) (ok_to ?_))).trans rfl
  · apply ok_to
    unfold f_X7_twinsHow_s5
    have hkd := H.kd hk
    try dsimp only
    (try simp (disch := omega) only [wrap_of, toN, nA, n1, mr2, mr3, mr4, mr9, mr14, ml2, ml3, ml4, ml7, ml14, ml28, H.rc])
    rw [hkd]
    refine ok_ite_f (by omega) (ok_gd (by omega) ?_)
    have hS : howS B (k + 1) = if B 97 k = 8 then B 98 k else howS B k := rfl
    rw [hS]
    refine ok_ite (fun h => ?_) (fun h => ?_)
    · have h8 : B 97 k = 8 := by omega
      have hw := H.hw hk h8
      rw [if_pos h8]
      refine ok_gd (by omega) (ok_lt (ok_lt (ok_some ?_)))
      rcases hw with ⟨e1, e2⟩ | ⟨e1, e2⟩ | ⟨e1, e2⟩ <;> rw [e1, e2] <;> rfl
    · rw [if_neg (by omega)]
      exact ok_lt (ok_some rfl)
  · unfold f_X7_twinsHow_s5
    (try simp (disch := omega) only [wrap_of, toN, nA, n1, mr2, mr3, mr4, mr9, mr14, ml2, ml3, ml4, ml7, ml14, ml28, H.rc])
    exact ok_ite_t (by omega) (ok_some rfl)
def useAt (B : Mem) (s w : Nat) : Prop := (B 97 s = 1 ∧ B 99 s = (w : Int)) ∨ ∃ w2 t : Nat, w2 < 2 ∧ t < 4 ∧ (t : Int) < B 100 (2 * s + w2) ∧ B 102 (4 * (2 * s + w2) + t) = (w : Int)
theorem c_termsUse {B M : Mem} (H : CF B M) {s w2 : Nat} (hs : s < nS B) (hw : w2 < 2) (w : Nat) : Okk (f_X7_termsUse (B 0 11) ((2 * s + w2 : Nat) : Int) (w : Int) M) (fun r => r = 0 → ∀ t : Nat, t < 4 → (t : Int) < B 100 (2 * s + w2) → B 102 (4 * (2 * s + w2) + t) ≠ (w : Int)) := by
  have h16 := H.1.s16
  have htb := H.tb hs hw
  have hcn : M ((B 0 11).toNat + 4) (2 * s + w2) = ((B 100 (2 * s + w2)).toNat : Int) := by
    by_cases ht : hasT B s w2
    · have := H.tn hs hw ht; omega
    · have := H.tx hs hw ht; omega
  unfold f_X7_termsUse
  refine ok_lpr (P := fun _ => ∀ t : Nat, t < (B 100 (2 * s + w2)).toNat → ¬ B 102 (4 * (2 * s + w2) + t) = (w : Int)) (P2 := fun r => r ≠ 0) ?_ (fun v hv => ok_some (fun _ t h4 ht => hv t (by omega))) (fun r hr => ok_some (fun z => absurd z hr))
  unfold f_X7_termsUse_l2
  refine ok_first (n := (B 100 (2 * s + w2)).toNat) (by omega) (fun t => B 102 (4 * (2 * s + w2) + t) = (w : Int)) _ (fun k hk hj => ?_) (fun hj => ?_)
  · have T := H.tm hs hw (t := k) (by omega) (by omega)
    unfold f_X7_termsUse_s2
    (try simp (disch := omega) only [wrap_of, toN, nA, n1, mr2, mr3, mr4, mr9, mr14, ml2, ml3, ml4, ml7, ml14, ml28])
    rw [hcn, T.2.2.2.1]
    refine ok_gd (by omega) (ok_ite_f (by omega) (ok_gd (by omega) ?_))
    refine ok_ite (fun h => ok_some (Or.inr ⟨h, _, rfl, ?_⟩)) (fun h => ok_lt (ok_some (Or.inl ⟨h, rfl⟩)))
    exact (by decide : (1 : Int) ≠ 0)
  · unfold f_X7_termsUse_s2
    (try simp (disch := omega) only [wrap_of, toN, nA, n1, mr2, mr3, mr4, mr9, mr14, ml2, ml3, ml4, ml7, ml14, ml28])
    rw [hcn]
    refine ok_gd (by omega) (ok_ite_t (by omega) (ok_some ⟨_, rfl, hj⟩))
theorem c_uses {B M : Mem} (H : CF B M) (w : Nat) : Okk (f_X7_uses (B 0 11) (w : Int) M) (fun r => r = 0 → ∀ s, s < nS B → ¬ useAt B s w) := by
  have h16 := H.1.s16
  unfold f_X7_uses
  refine ok_lpr (P := fun _ => ∀ s, s < nS B → ¬ useAt B s w) (P2 := fun r => r ≠ 0) ?_ (fun v hv => ok_some (fun _ => hv)) (fun r hr => ok_some (fun z => absurd z hr))
  unfold f_X7_uses_l2
  refine ok_whl (nS B) (fun k s => s = (k : Int) ∧ ∀ s, s < k → ¬ useAt B s w) (FU_big (by omega)) ⟨rfl, fun s h => absurd h (by omega)⟩ ?_
  rintro k v hk ⟨rfl, hB⟩
  unfold f_X7_uses_s2
  (try simp (disch := omega) only [wrap_of, toN, nA, n1, mr2, mr3, mr4, mr9, mr14, ml2, ml3, ml4, ml7, ml14, ml28, H.rc])
  refine ok_ite (fun h => ?_) (fun h => ?_)
  · have e : k = nS B := by omega
    subst e; exact ok_some hB
  have hkn : k < nS B := by omega
  have e0 : ((2 * k : Nat) : Int) = ((2 * k + 0 : Nat) : Int) := rfl
  rw [H.kd hkn]
  have tail : (B 97 k = 1 → B 99 k ≠ (w : Int)) → Okk (obn (f_X7_termsUse (B 0 11) ((2 * k : Nat) : Int) (w : Int) M) fun r =>
      if r = 0 then
        obn (f_X7_termsUse (B 0 11) ((2 * k + 1 : Nat) : Int) (w : Int) M) fun r_2 =>
        if r_2 = 0 then
          lt (((k + 1 : Nat) : Int)) fun v2_2 =>
          (some (.inl v2_2) : Option (Int ⊕ (Int ⊕ Int)))
        else
          some (.inr (.inr 1))
      else
        some (.inr (.inr 1))) (inS (fun s' => k < nS B ∧ s' = ((k + 1 : Nat) : Int) ∧ ∀ s, s < k + 1 → ¬ useAt B s w) (inS (fun _ => ∀ s, s < nS B → ¬ useAt B s w) (fun r => r ≠ 0))) := by
    intro h1
    rw [e0]
    refine ok_obn (c_termsUse H hkn (by omega) w) (fun r hr => ?_)
    refine ok_ite (fun z => ?_) (fun z => ok_some (by decide : (1 : Int) ≠ 0))
    refine ok_obn (c_termsUse H hkn (by omega) w) (fun r2 hr2 => ?_)
    refine ok_ite (fun z2 => ?_) (fun z2 => ok_some (by decide : (1 : Int) ≠ 0))
    refine ok_lt (ok_some ⟨hkn, rfl, fun s hs => ?_⟩)
    by_cases e : s = k
    · subst e
      rintro (⟨u1, u2⟩ | ⟨w2, t, hw2, ht4, ht, hu⟩)
      · exact h1 u1 u2
      · by_cases ew : w2 = 0
        · subst ew; exact hr z t ht4 ht hu
        · have : w2 = 1 := by omega
          subst this; exact hr2 z2 t ht4 ht hu
    · exact hB s (by omega)
  refine ok_gd (by omega) ?_
  refine ok_ite (fun h9 => ?_) (fun h9 => ?_)
  · have q := H.wd hkn (by omega)
    rw [q.1]
    refine ok_gd (by omega) ?_
    refine ok_ite (fun hw => ok_some (by decide : (1 : Int) ≠ 0)) (fun hw => ?_)
    exact tail (fun _ => hw)
  · exact tail (fun z => absurd z (by omega))
/-- what the judge has read: of the RULE, and which words are told -/
def JT (B : Mem) (known : Int) (M : Mem) : Prop := CF B M ∧ M 30 2 = B 0 11 ∧ M 30 3 = howC (howS B (nS B)) ∧
  (∀ s w c : Nat, s < nS B → useAt B s w → w < 7 → c < nK B → M 31 (14 * w + c) = toldS B known c w)
def JP (B : Mem) (known : Int) (M : Mem) : Prop := JT B known M ∧ (∀ c, c < nK B → mIs (M 32 c) (wishB B c)) ∧
  (∀ s, s < nS B → hasT B s 0 → mIs (M 33 s) (fun c => decide (c < nK B) && holdB B known (2 * s) c)) ∧
  (∀ s, s < nS B → hasT B s 1 → mIs (M 34 s) (fun c => decide (c < nK B) && holdB B known (2 * s + 1) c))
theorem JT.fr {B M M' : Mem} {known : Int} (h : JT B known M) (k : ∀ c i, isC c i ∨ (30 ≤ c ∧ c ≤ 31) → M' c i = M c i) : JT B known M' :=
  ⟨h.1.fr (fun c i q => k c i (Or.inl q)), (k 30 2 (by omega)).trans h.2.1, (k 30 3 (by omega)).trans h.2.2.1, fun s w c h1 h2 h3 h4 => (k 31 _ (by omega)).trans (h.2.2.2 s w c h1 h2 h3 h4)⟩
theorem JP.fr {B M M' : Mem} {known : Int} (h : JP B known M) (k : ∀ c i, isC c i ∨ (30 ≤ c ∧ c ≤ 34) → M' c i = M c i) : JP B known M' :=
  ⟨h.1.fr (fun c i q => k c i (q.imp_right (fun z => by omega))), fun c hc => by rw [k 32 c (by omega)]; exact h.2.1 c hc, fun s h1 h2 => by rw [k 33 s (by omega)]; exact h.2.2.1 s h1 h2, fun s h1 h2 => by rw [k 34 s (by omega)]; exact h.2.2.2 s h1 h2⟩
theorem JP.c {B M : Mem} {known : Int} (h : JP B known M) : CF B M := h.1.1
theorem c_meetsTerm {B M : Mem} {known : Int} (H : JT B known M) {s w t c : Nat} (hs : s < nS B) (hw : w < 2) (ht4 : t < 4) (ht : (t : Int) < B 100 (2 * s + w)) (hc : c < nK B) : f_X4_meetsTerm ((4 * (2 * s + w) + t : Nat) : Int) c M = some (termZ B known (4 * (2 * s + w) + t) c) := by
  have h16 := H.1.1.s16
  have h14 := H.1.1.n14
  have hn := H.1.1.n
  have T := H.1.tm hs hw ht4 ht
  have hu : ∀ w2 : Nat, B 102 (4 * (2 * s + w) + t) = (w2 : Int) → useAt B s w2 := fun w2 e => Or.inr ⟨w, t, hw, ht4, ht, e⟩
  have hq : 4 * (2 * s + w) + t < 128 := by omega
  generalize 4 * (2 * s + w) + t = q at T hu hq ⊢
  obtain ⟨t1, t2, t3, t4, t5, t6, t7, t8⟩ := T
  apply ok_to
  unfold f_X4_meetsTerm
  rw [H.2.1, toN, t4, t8, H.1.w6]
  refine ok_gd H.1.ru (ok_gd (by omega) (ok_lt (ok_gd H.1.ru (ok_gd (by omega) (ok_lt ?_)))))
  unfold termZ
  refine ok_ite (fun h7 => ?_) (fun h7 => ?_)
  · rw [if_pos h7]
    refine ok_gd (by omega) ?_
    obtain ⟨a, ha⟩ : ∃ a : Nat, B 83 c = (a : Int) := ⟨(B 83 c).toNat, by have := (H.1.1.c1 c (by omega)).2.2.1; omega⟩
    obtain ⟨k, hk⟩ : ∃ k : Nat, B 104 q = (k : Int) := ⟨(B 104 q).toNat, by omega⟩
    have hb : (a : Int) ≤ 255 := by rw [← ha]; exact (H.1.1.c1 c (by omega)).2.2.1.2
    have hk7 := t7 h7
    rw [toN, ha, hk, bit_n (by omega) (by omega)]
    cases a.testBit k
    · exact ok_ite_t (by decide) (ok_some (by decide))
    · exact ok_ite_f (by decide) (ok_some (by decide))
  · rw [if_neg h7]
    obtain ⟨w2, hw2⟩ : ∃ w2 : Nat, B 102 q = (w2 : Int) := ⟨(B 102 q).toNat, by omega⟩
    obtain ⟨s1, s2, s3⟩ := t5 h7
    have e31 := H.2.2.2 s w2 c hs (hu w2 hw2) (by omega) hc
    rw [hw2]
    (try simp (disch := omega) only [wrap_of, toN, nA, n1, mr2, mr3, mr4, mr9, mr14, ml2, ml3, ml4, ml7, ml14, ml28, s3])
    rw [e31]
    refine ok_gd (by omega) (ok_lt (ok_gd H.1.ru (ok_gd (by omega) (ok_lt ?_))))
    refine ok_ite (fun h => ?_) (fun h => ?_)
    · rw [if_pos (show B 103 q = 0 by omega)]
      refine ok_ite (fun h2 => ?_) (fun h2 => ?_)
      · rw [if_pos h2]; exact ok_some rfl
      · rw [if_neg h2]; exact ok_some rfl
    rw [if_neg (show ¬ B 103 q = 0 by omega)]
    refine ok_ite (fun h2 => ?_) (fun h2 => ?_)
    · rw [if_neg (show ¬ B 103 q = 1 by omega)]
      refine ok_ite (fun h3 => ?_) (fun h3 => ?_)
      · rw [if_pos h3]; exact ok_some rfl
      · rw [if_neg h3]; exact ok_some rfl
    · rw [if_pos (show B 103 q = 1 by omega)]
      refine ok_ite (fun h3 => ?_) (fun h3 => ?_)
      · rw [if_pos h3]; exact ok_some rfl
      · rw [if_neg h3]; exact ok_some rfl
theorem termZ_z (B : Mem) (known : Int) (t c : Nat) : isZ (termZ B known t c) := by
  unfold termZ isZ
  repeat' split
  all_goals omega
theorem c_meets {B M : Mem} {known : Int} (H : JT B known M) {s w c : Nat} (hs : s < nS B) (hw : w < 2) (hT : hasT B s w) (hc : c < nK B) : f_X4_meets ((2 * s + w : Nat) : Int) c M = some (if holdB B known (2 * s + w) c = true then 1 else 0) := by
  have h16 := H.1.1.s16
  have hn := H.1.tn hs hw hT
  apply ok_to
  unfold f_X4_meets
  have hh : holdB B known (2 * s + w) c = termsB B known (2 * s + w) c (B 100 (2 * s + w)).toNat := by
    unfold holdB; rw [decide_eq_true (by omega), Bool.true_and]
  rw [hh]
  refine ok_lpr (P := fun _ => termsB B known (2 * s + w) c (B 100 (2 * s + w)).toNat = true) (P2 := fun r => r = 0 ∧ termsB B known (2 * s + w) c (B 100 (2 * s + w)).toNat = false) ?_ (fun v hv => ok_some (by rw [hv]; rfl)) (fun r hr => ok_some (by rw [hr.1, hr.2]; rfl))
  unfold f_X4_meets_l2
  let f : Nat → Bool := fun k => decide (termZ B known (4 * (2 * s + w) + k) c ≠ B 101 (4 * (2 * s + w) + k))
  refine ok_first (n := (B 100 (2 * s + w)).toNat) (by omega) (fun t => f t = false) _ (fun k hk hj => ?_) (fun hj => ?_)
  · have T := H.1.tm hs hw (t := k) (by omega) (by omega)
    unfold f_X4_meets_s2
    (try simp (disch := omega) only [wrap_of, toN, nA, n1, mr2, mr3, mr4, mr9, mr14, ml2, ml3, ml4, ml7, ml14, ml28, H.2.1, hn.1])
    refine ok_gd H.1.ru (ok_gd (by omega) (ok_ite_f (by omega) (ok_lt ?_)))
    refine ok_e (c_meetsTerm H hs hw (by omega) (by omega) hc) (ok_gd H.1.ru (ok_gd (by omega) ?_))
    rw [toN, T.2.1]
    refine ok_ite (fun h => ok_some (Or.inr ⟨?_, _, rfl, ?_⟩)) (fun h => ok_lt (ok_some (Or.inl ⟨?_, rfl⟩)))
    · exact decide_eq_false (fun z => z h)
    · exact ⟨rfl, allB_stop hk (decide_eq_false (fun z => z h))⟩
    · show ¬ decide _ = false
      rw [decide_eq_true h]; decide
  · unfold f_X4_meets_s2
    (try simp (disch := omega) only [wrap_of, toN, nA, n1, mr2, mr3, mr4, mr9, mr14, ml2, ml3, ml4, ml7, ml14, ml28, H.2.1, hn.1])
    refine ok_gd H.1.ru (ok_gd (by omega) (ok_ite_t (by omega) (ok_some ⟨_, rfl, ?_⟩)))
    refine (allB_iff _ _).mpr (fun k hk => ?_)
    have := hj k hk
    cases e : f k with
    | false => exact absurd e this
    | true => exact e
theorem c_meets_no {B M : Mem} {known : Int} (H : JT B known M) {s w : Nat} (hs : s < nS B) (hw : w < 2) (hT : ¬ hasT B s w) (c : Int) : f_X4_meets ((2 * s + w : Nat) : Int) c M = some 1 := by
  have h16 := H.1.1.s16
  have hn := H.1.tx hs hw hT
  apply ok_to
  unfold f_X4_meets
  refine ok_lpr (P := fun _ => True) (P2 := fun r => False) ?_ (fun v hv => ok_some rfl) (fun r hr => hr.elim)
  unfold f_X4_meets_l2
  refine ok_first (n := 0) (by omega) (fun t => True) _ (fun k hk hj => absurd hk (by omega)) (fun hj => ?_)
  unfold f_X4_meets_s2
  (try simp (disch := omega) only [wrap_of, toN, nA, n1, mr2, mr3, mr4, mr9, mr14, ml2, ml3, ml4, ml7, ml14, ml28, H.2.1, hn.1])
  exact ok_gd H.1.ru (ok_gd (by omega) (ok_ite_t (by omega) (ok_some ⟨_, rfl, trivial⟩)))
theorem c_holders {B M : Mem} {known : Int} (H : JT B known M) {s w : Nat} (hs : s < nS B) (hw : w < 2) : Okk (f_X4_holders ((2 * s + w : Nat) : Int) M) (fun r => hasT B s w → mIs r (fun c => decide (c < nK B) && holdB B known (2 * s + w) c)) := by
  have h14 := H.1.1.n14
  unfold f_X4_holders
  refine ok_obn (P := fun v => hasT B s w → mIs v.1 (fun c => decide (c < nK B) && holdB B known (2 * s + w) c)) ?_ (fun v hv => ok_some hv)
  unfold f_X4_holders_l4
  refine ok_whl (nK B) (fun k v => v.2 = (k : Int) ∧ (hasT B s w → mIs v.1 (fun c => decide (c < k) && holdB B known (2 * s + w) c))) (FU_big (by omega)) ⟨rfl, fun _ => mIs_0.congr (fun c _ => by rw [decide_eq_false (by omega)]; rfl)⟩ ?_
  rintro k ⟨v, j⟩ hk ⟨h2, hm⟩
  dsimp only at h2 hm ⊢
  subst h2
  unfold f_X4_holders_s4
  (try simp (disch := omega) only [wrap_of, toN, nA, n1, mr2, mr3, mr4, mr9, mr14, ml2, ml3, ml4, ml7, ml14, ml28, H.1.n])
  refine ok_ite (fun h => ?_) (fun h => ?_)
  · have e : k = nK B := by omega
    subst e; exact ok_some hm
  have hkn : k < nK B := by omega
  have hd : ∀ c, c ≠ k → decide (c < k + 1) = decide (c < k) := fun c hc => decide_eq_decide.mpr (by omega)
  by_cases hT : hasT B s w
  · refine ok_e (c_meets H hs hw hT hkn) ?_
    by_cases hB : holdB B known (2 * s + w) k = true
    · rw [if_pos hB]
      refine ok_ite_f (by decide) (ok_lt (ok_lt (ok_some ⟨hkn, rfl, fun _ => ?_⟩)))
      refine (mIs_or (hm hT) (mIs_1 (j := k) (by omega))).congr (fun c hc => ?_)
      by_cases e : c = k
      · subst e; simp [hB]
      · rw [hd c e, decide_eq_false e, Bool.or_false]
    · rw [if_neg hB]
      refine ok_ite_t rfl (ok_lt (ok_some ⟨hkn, rfl, fun _ => ?_⟩))
      refine (hm hT).congr (fun c hc => ?_)
      by_cases e : c = k
      · subst e
        have : holdB B known (2 * s + w) c = false := by simpa using hB
        rw [this, Bool.and_false, Bool.and_false]
      · rw [hd c e]
  · refine ok_e (c_meets_no H hs hw hT k) ?_
    exact ok_ite_f (by decide) (ok_lt (ok_lt (ok_some ⟨hkn, rfl, fun z => absurd z hT⟩)))
