/-! the model: the best of all plans -/
theorem cod_lt {C n : Nat} {s : Nat → Nat} (h : Vd C n s) : cod C s n < C ^ n := by
  have := (cod_block (C := C) (s := s) 0 n (by rw [Nat.zero_add]; exact h)).2
  rw [Nat.zero_add, show cod C s 0 = 0 from rfl, Nat.zero_add, Nat.one_mul] at this
  exact this
theorem pow_c9 {C n : Nat} (hC : C = 2 ∨ C = 3) (hn : n ≤ 9) : C ^ n ≤ 19683 := by
  have h1 : C ^ n ≤ 3 ^ n := Nat.pow_le_pow_left (by omega) n
  have h2 : 3 ^ n ≤ 3 ^ 9 := Nat.pow_le_pow_right (by decide) hn
  have h3 : (3 : Nat) ^ 9 = 19683 := by decide
  omega
section MB
variable {B M : Mem} {known : Int} {n : Nat} {mem : Nat → Nat} {stay : Nat → Int}
def MBx (B : Mem) (known : Int) (n : Nat) (mem : Nat → Nat) (stay : Nat → Int) (N : Nat) (bm : Int) (f : Int) (M : Mem) : Prop :=
  BestLt (okW B known mem n) (mvW stay n) (hmW B known mem n) (nC B) n N f bm (M 80 45) (fun i => M 109 (mem i)) ∧ (f = 0 → M 80 45 = 1000000000) ∧ (f = 1 → M 80 45 < 1000000000 ∧ ∀ c, c < nK B → (∀ i, i < n → mem i ≠ c) → M 109 c = -1)
theorem MBx.fr {M' : Mem} {N : Nat} {bm f : Int} (h : MBx B known n mem stay N bm f M) (k1 : M' 80 45 = M 80 45) (k2 : ∀ i, M' 109 i = M 109 i) : MBx B known n mem stay N bm f M' := by
  unfold MBx at h ⊢
  rw [k1, show (fun i => M' 109 (mem i)) = fun i => M 109 (mem i) from funext (fun i => k2 _)]
  exact ⟨h.1, h.2.1, fun z => ⟨(h.2.2 z).1, fun c hc hno => by rw [k2]; exact (h.2.2 z).2 c hc hno⟩⟩
theorem MBx.skip {s : Nat → Nat} {w : Nat} {bm f : Int} (h : MBx B known n mem stay w bm f M) (hv : Vd (nC B) n s) (hw : cod (nC B) s n = w) (hs : okW B known mem n s → f = 1 ∧ (bm < mvW stay n s ∨ (bm = mvW stay n s ∧ M 80 45 ≤ hmW B known mem n s))) : MBx B known n mem stay (w + 1) bm f M := by
  refine ⟨h.1.skip (by omega) (fun t ht h1 h2 ho => ?_), h.2⟩
  have e := cod_inj hv ht (by omega)
  have ct := mvhm_congr (B := B) (known := known) (mem := mem) (stay := stay) s t e
  have := hs (by unfold okW at ho ⊢; rw [gsF_congr e]; exact ho)
  rw [ct.1, ct.2] at this
  exact this
theorem MBx.new {M' : Mem} {s : Nat → Nat} {w : Nat} {bm f : Int} (hB : CF B B) (S : MS B n mem) (h : MBx B known n mem stay w bm f M) (hv : Vd (nC B) n s) (hw : cod (nC B) s n = w) (ho : okW B known mem n s) (hW : WP B n mem s (planOf M))
    (hb : f = 0 ∨ mvW stay n s < bm ∨ (mvW stay n s = bm ∧ hmW B known mem n s < M 80 45)) (e45 : M' 80 45 = hmW B known mem n s) (e109 : ∀ c, c < nK B → M' 109 c = M 108 c) : MBx B known n mem stay (w + 1) (mvW stay n s) 1 M' := by
  have b := hmW_nn (B := B) (known := known) (n := n) (mem := mem) hB s
  refine ⟨?_, fun z => absurd z (by decide), fun _ => ⟨by omega, fun c hc hno => by rw [e109 c hc]; exact hW.2 c hc hno⟩⟩
  rw [e45]
  exact h.1.new hv hw ho (fun s t h => mvhm_congr s t h) hb (fun i hi => by rw [e109 _ (S.2.1 i hi)]; exact hW.1 i hi)
/-- what a round leaves to the counting -/
theorem m_tail {M0 : Mem} (H : MF B M) (S : MS B n mem) {s : Nat → Nat} (hv : Vd (nC B) n s) (hW : WP B n mem s (planOf M)) (K : Nat → Mem → Prop) (hK : ∀ M', (∀ c i, c ≠ 108 → M' c i = M c i) → K (cod (nC B) s n + 1) M') :
    Okk (bnd (f_X11_counts M) fun r M_2 => if r = 0 then (some (.inr M_2) : Option (Mem ⊕ Mem)) else some (.inl M_2)) (inS (fun M' => cod (nC B) s n < nC B ^ n ∧ ∃ s', Vd (nC B) n s' ∧ cod (nC B) s' n = cod (nC B) s n + 1 ∧ WP B n mem s' (planOf M') ∧ K (cod (nC B) s n + 1) M') (fun M' => K (nC B ^ n) M')) := by
  refine ok_bnd (m_counts H S hv hW) (fun r M2 hM2 => ?_)
  obtain ⟨f, q⟩ := hM2
  dsimp only at f q
  rcases q with ⟨h1, s', hv', hW', hc⟩ | ⟨h0, hc⟩
  · exact ok_ite_f (by omega) (ok_some ⟨cod_lt hv, s', hv', hc, hW', hK M2 f⟩)
  · refine ok_ite_t h0 (ok_some ?_)
    show K _ _
    rw [← hc]
    exact hK M2 f
theorem m_copy (H : MF B M) (v1 : Int) : Okk (f_X11_bests_l159 v1 0 M) (fun q => (∀ c i, c ≠ 109 → q.2 c i = M c i) ∧ ∀ c, c < nK B → q.2 109 c = M 108 c) := by
  have h14 := H.1.n14
  unfold f_X11_bests_l159
  refine ok_whl (nK B) (fun k q => q.1 = (k : Int) ∧ (∀ c i, c ≠ 109 → q.2 c i = M c i) ∧ ∀ c, c < k → q.2 109 c = M 108 c) (FU_big (by omega)) ⟨rfl, fun _ _ _ => rfl, fun c h => absurd h (by omega)⟩ ?_
  rintro k ⟨v, M1⟩ hk ⟨h1, hF, hT⟩
  dsimp only at h1 hF hT ⊢
  subst h1
  have H1 : MF B M1 := H.fr (fun c i q => hF c i (by unfold isFa at q; omega))
  unfold f_X11_bests_s159
  (try simp (disch := omega) only [wrap_of, toN, nA, n1, mr2, mr3, mr4, mr9, mr14, ml2, ml3, ml4, ml7, ml14, ml28, H1.n])
  refine ok_ite (fun h => ?_) (fun h => ?_)
  · have e : k = nK B := by omega
    subst e; exact ok_some ⟨hF, hT⟩
  have hkn : k < nK B := by omega
  refine ok_gd (by omega) (ok_gd (by omega) (ok_lt (ok_lt (ok_some ⟨hkn, rfl, fun c i q => ?_, fun c hc => ?_⟩))))
  · try dsimp only
    rw [mup_o _ _ (by omega)]; exact hF c i q
  · try dsimp only
    by_cases e : c = k
    · subst e; rw [mup_s]; exact hF 108 c (by omega)
    · rw [mup_o _ _ (by omega)]; exact hT c (by omega)
theorem m_copy2 (H : MF B M) : Okk (f_X11_change_l188 0 M) (fun q => (∀ c i, c ≠ 109 → q.2 c i = M c i) ∧ ∀ c, c < nK B → q.2 109 c = M 108 c) := by
  have h14 := H.1.n14
  unfold f_X11_change_l188
  refine ok_whl (nK B) (fun k q => q.1 = (k : Int) ∧ (∀ c i, c ≠ 109 → q.2 c i = M c i) ∧ ∀ c, c < k → q.2 109 c = M 108 c) (FU_big (by omega)) ⟨rfl, fun _ _ _ => rfl, fun c h => absurd h (by omega)⟩ ?_
  rintro k ⟨v, M1⟩ hk ⟨h1, hF, hT⟩
  dsimp only at h1 hF hT ⊢
  subst h1
  have H1 : MF B M1 := H.fr (fun c i q => hF c i (by unfold isFa at q; omega))
  unfold f_X11_change_s188
  (try simp (disch := omega) only [wrap_of, toN, nA, n1, mr2, mr3, mr4, mr9, mr14, ml2, ml3, ml4, ml7, ml14, ml28, H1.n])
  refine ok_ite (fun h => ?_) (fun h => ?_)
  · have e : k = nK B := by omega
    subst e; exact ok_some ⟨hF, hT⟩
  have hkn : k < nK B := by omega
  refine ok_gd (by omega) (ok_gd (by omega) (ok_lt (ok_lt (ok_some ⟨hkn, rfl, fun c i q => ?_, fun c hc => ?_⟩))))
  · try dsimp only
    rw [mup_o _ _ (by omega)]; exact hF c i q
  · try dsimp only
    by_cases e : c = k
    · subst e; rw [mup_s]; exact hF 108 c (by omega)
    · rw [mup_o _ _ (by omega)]; exact hT c (by omega)
theorem mv_none (n : Nat) (s : Nat → Nat) : mvW (fun _ => -1) n s = 0 := by
  unfold mvW
  rw [fb_si_cong (g := fun _ => 0) (fun i hi => by unfold mv1; rw [if_pos (Or.inl rfl)]), si_zero]
/-- the loop of bests -/
theorem m_bloop (H : LR B known M) (S : MS B n mem) {s0 : Nat → Nat} (hv0 : Vd (nC B) n s0) (h0 : cod (nC B) s0 n = 0) (hW0 : WP B n mem s0 (planOf M)) (h45 : M 80 45 = 1000000000) (v1 : Int) :
    Okk (f_X11_bests_l119 v1 M) (fun M' => (∀ c i, ¬ ((c = 80 ∧ i = 45) ∨ c = 108 ∨ c = 109) → M' c i = M c i) ∧ ∃ f, MBx B known n mem (fun _ => -1) (nC B ^ n) 0 f M') := by
  have h3 := H.1.1.k23
  have hp := pow_c9 h3 S.1
  unfold f_X11_bests_l119
  let K : Nat → Mem → Prop := fun w M' => (∀ c i, ¬ ((c = 80 ∧ i = 45) ∨ c = 108 ∨ c = 109) → M' c i = M c i) ∧ ∃ f, MBx B known n mem (fun _ => -1) w 0 f M'
  refine ok_whl (nC B ^ n) (fun w M' => ∃ s, Vd (nC B) n s ∧ cod (nC B) s n = w ∧ WP B n mem s (planOf M') ∧ K w M') (FU_big (by omega)) ⟨s0, hv0, h0, hW0, fun _ _ _ => rfl, 0, BestLt.init _ _ _, fun _ => h45, fun z => absurd z (by decide)⟩ ?_
  rintro w M1 hw ⟨s, hv, hc, hW, hF, f, hB⟩
  have H1 : LR B known M1 := H.fr (fun c i q => hF c i (by unfold isFa at q; omega))
  have hP := hW.pb hv
  have tl : ∀ (M2 : Mem) (f2 : Int), MF B M2 → WP B n mem s (planOf M2) → (∀ c i, ¬ ((c = 80 ∧ i = 45) ∨ c = 108 ∨ c = 109) → M2 c i = M c i) → MBx B known n mem (fun _ => -1) (w + 1) 0 f2 M2 →
      Okk (bnd (f_X11_counts M2) fun r M_2 => if r = 0 then (some (.inr M_2) : Option (Mem ⊕ Mem)) else some (.inl M_2)) (inS (fun M' => w < nC B ^ n ∧ ∃ s, Vd (nC B) n s ∧ cod (nC B) s n = w + 1 ∧ WP B n mem s (planOf M') ∧ K (w + 1) M') (K (nC B ^ n))) := by
    intro M2 f2 HM hW2 hF2 hB2
    have := m_tail (M0 := M) HM S hv hW2 K (fun M' hM' => ⟨fun c i q => by rw [hM' c i (by omega)]; exact hF2 c i q, f2, by rw [hc]; exact hB2.fr (hM' 80 45 (by omega)) (fun i => hM' 109 i (by omega))⟩)
    rw [hc] at this
    exact this
  unfold f_X11_bests_s119
  refine ok_obn (m_isSound H1 hP) (fun r hr => ?_)
  have hok := hW.ok (known := known) H1.1.1 S hv
  refine ok_ite (fun h => tl M1 f H1.1 hW hF (hB.skip hv hc (fun ho => absurd (hok.mp ho).1 (hr.f h)))) (fun h => ?_)
  refine ok_e (m_lack H1) ?_
  have lb := lackGG_b H1.1.1.cf known (GP B (planOf M1))
  rw [← lack_pg] at lb
  refine ok_ite (fun h2 => ?_) (fun h2 => tl M1 f H1.1 hW hF (hB.skip hv hc (fun ho => absurd (hok.mp ho).2 (by omega))))
  have ho : okW B known mem n s := hok.mpr ⟨hr.t h, by omega⟩
  have hh := hW.hm (known := known) H1.1.1 S hv
  have hb := hmW_nn (B := B) (known := known) (n := n) (mem := mem) H1.1.1.cf s
  refine ok_e (m_allHarm H1 hP) ?_
  rw [← hh]
  refine ok_ite (fun h4 => ?_) (fun h4 => ?_)
  · refine ok_lt ?_
    obtain ⟨M2, e2, f2, v2⟩ := mup_gen M1 80 45 (hmW B known mem n s)
    rw [e2]; clear e2
    have H2 : MF B M2 := H1.1.fr (fun c i q => f2 c i (by unfold isFa at q; omega))
    refine ok_obn (m_copy H2 v1) (fun q hq => ?_)
    obtain ⟨v, M3⟩ := q
    obtain ⟨f3, e3⟩ := hq
    dsimp only at f3 e3 ⊢
    unfold f_X11_bests_j185k119
    have p3 : planOf M3 = planOf M1 := funext (fun c => by show M3 108 c = M1 108 c; rw [f3 108 c (by omega), f2 108 c (by omega)])
    refine tl M3 1 (H2.fr (fun c i q => f3 c i (by unfold isFa at q; omega))) (by rw [p3]; exact hW) (fun c i q => by rw [f3 c i (by omega), f2 c i (by omega)]; exact hF c i q) ?_
    have nw := MBx.new (M' := M3) H1.1.1.cf S hB hv hc ho hW (by
      rw [mv_none]
      rcases hB.1 with q | q
      · exact Or.inl q.1
      · exact Or.inr (Or.inr ⟨rfl, h4⟩)) (by rw [f3 80 45 (by omega)]; exact v2) (fun c hc => by rw [e3 c hc, f2 108 c (by omega)])
    rw [mv_none] at nw
    exact nw
  · refine tl M1 f H1.1 hW hF (hB.skip hv hc (fun _ => ?_))
    have hf : f = 1 := by
      rcases hB.1 with q | q
      · have := hB.2.1 q.1; omega
      · exact q.1
    exact ⟨hf, Or.inr ⟨(mv_none n s).symm, by omega⟩⟩
/-- moves, counted over all children -/
theorem m_moves (H : MF B M) (S : MS B n mem) {s : Nat → Nat} (hW : WP B n mem s (planOf M)) (hst : ∀ i, i < n → stay i = M 110 (mem i) ∧ stay i ≠ -1) (hno : ∀ c, c < nK B → (∀ i, i < n → mem i ≠ c) → M 110 c = -1) : f_X11_change_l90 M 0 0 = some (mvW stay n s, (nK B : Int)) := by
  have h14 := H.1.n14
  have e : cnt (fun c => planOf M c ≠ M 110 c) (nK B) = mvW stay n s := by
    have q : ∀ m, m ≤ n → fb_si (fun c => if anyB (fun i => decide (mem i = c)) m = true then (if planOf M c ≠ M 110 c then (1 : Int) else 0) else 0) (nK B) = fb_si (mv1 stay s) m := by
      intro m
      induction m with
      | zero => intro _; exact si_zero (nK B)
      | succ m ih =>
        intro hm
        rw [fb_si_succ, ← ih (by omega)]
        have e1 : fb_si (fun c => if ((mem m : Nat) : Int) = (c : Int) then mv1 stay s m else 0) (nK B) = mv1 stay s m := by
          rw [si_one ((mem m : Nat) : Int) (fun _ => mv1 stay s m), if_pos (by have := S.2.1 m (by omega); omega)]
        rw [← e1, ← fb_si_add]
        refine fb_si_cong (fun c hc => ?_)
        show (if (anyB (fun i => decide (mem i = c)) m || decide (mem m = c)) = true then _ else _) = _
        by_cases hmc : mem m = c
        · subst hmc
          have no : anyB (fun i => decide (mem i = mem m)) m = false := anyB_f.mpr (fun i hi => decide_eq_false (fun z => by have := S.2.2 i m hi (by omega); omega))
          have w := hW.1 m (by omega)
          have st := hst m (by omega)
          rw [no, decide_eq_true rfl, Bool.false_or, if_pos rfl, if_neg (show ¬ false = true by decide), if_pos rfl, Int.zero_add]
          unfold mv1
          by_cases z : stay m = (s m : Int)
          · rw [if_pos (Or.inr z), if_neg (fun y => y (by rw [w, ← st.1, z]))]
          · rw [if_pos (show planOf M (mem m) ≠ M 110 (mem m) by rw [w, ← st.1]; exact fun y => z y.symm), if_neg (show ¬ (stay m = -1 ∨ stay m = (s m : Int)) from fun y => y.elim st.2 z)]
        · rw [decide_eq_false hmc, Bool.or_false, if_neg (show ¬ ((mem m : Nat) : Int) = (c : Int) by omega), Int.add_zero]
    have q2 := q n (Nat.le_refl n)
    unfold mvW
    rw [← q2]
    refine fb_si_cong (fun c hc => ?_)
    cases z : anyB (fun i => decide (mem i = c)) n with
    | true => rfl
    | false =>
      have no : ∀ i, i < n → mem i ≠ c := fun i hi => of_decide_eq_false (anyB_f.mp z i hi)
      have e1 := hW.2 c hc no
      have e2 := hno c hc no
      rw [if_neg (fun y => y (by rw [e1, e2])), if_neg (by decide)]
  rw [← e]
  unfold f_X11_change_l90
  refine whl_cnt (n := nK B) (by omega) (fun c => planOf M c ≠ M 110 c) (fun c hc v h0 h1 => ?_) (fun v => ?_)
  · unfold f_X11_change_s90
    (try simp (disch := omega) only [wrap_of, toN, nA, n1, mr2, mr3, mr4, mr9, mr14, ml2, ml3, ml4, ml7, ml14, ml28, H.n])
    refine ok_ite_f (by omega) (ok_gd (by omega) (ok_gd (by omega) ?_))
    refine ok_ite (fun h => ?_) (fun h => ?_)
    · rw [if_neg (fun z => z h)]
      (repeat' (first | (with_reducible refine ok_ltw ?_ ?_; (· omega)) | (with_reducible refine ok_lt ?_) | (with_reducible refine ok_gd ?_ ?_; (· omega)) | (with_reducible refine ok_ite_t ?_ ?_; (· omega)) | (with_reducible refine ok_ite_f ?_ ?_; (· omega)) | (with_reducible refine ok_ite (fun _ => ?_) (fun _ => ?_)) | (with_reducible refine ok_some ?_)))
      all_goals rfl
    · rw [if_pos (show planOf M c ≠ M 110 c from h)]
      (repeat' (first | (with_reducible refine ok_ltw ?_ ?_; (· omega)) | (with_reducible refine ok_lt ?_) | (with_reducible refine ok_gd ?_ ?_; (· omega)) | (with_reducible refine ok_ite_t ?_ ?_; (· omega)) | (with_reducible refine ok_ite_f ?_ ?_; (· omega)) | (with_reducible refine ok_ite (fun _ => ?_) (fun _ => ?_)) | (with_reducible refine ok_some ?_)))
      all_goals rfl
  · unfold f_X11_change_s90
    (try simp (disch := omega) only [wrap_of, toN, nA, n1, mr2, mr3, mr4, mr9, mr14, ml2, ml3, ml4, ml7, ml14, ml28, H.n])
    exact ok_ite_t (by omega) (ok_some rfl)
/-- the loop of change -/
theorem m_cloop (H : LR B known M) (S : MS B n mem) {s0 : Nat → Nat} (hv0 : Vd (nC B) n s0) (h0 : cod (nC B) s0 n = 0) (hW0 : WP B n mem s0 (planOf M)) (h45 : M 80 45 = 1000000000) (h46 : M 80 46 = 1000000000) (hst : ∀ i, i < n → stay i = M 110 (mem i) ∧ stay i ≠ -1) (hno : ∀ c, c < nK B → (∀ i, i < n → mem i ≠ c) → M 110 c = -1) :
    Okk (f_X11_change_l86 M) (fun M' => (∀ c i, ¬ ((c = 80 ∧ 45 ≤ i ∧ i ≤ 46) ∨ c = 108 ∨ c = 109) → M' c i = M c i) ∧ ∃ f, MBx B known n mem stay (nC B ^ n) (M' 80 46) f M' ∧ (f = 0 → M' 80 46 = 1000000000) ∧ (f = 1 → M' 80 46 < 1000000000)) := by
  have h3 := H.1.1.k23
  have h9 := S.1
  have hp := pow_c9 h3 S.1
  unfold f_X11_change_l86
  let K : Nat → Mem → Prop := fun w M' => (∀ c i, ¬ ((c = 80 ∧ 45 ≤ i ∧ i ≤ 46) ∨ c = 108 ∨ c = 109) → M' c i = M c i) ∧ ∃ f, MBx B known n mem stay w (M' 80 46) f M' ∧ (f = 0 → M' 80 46 = 1000000000) ∧ (f = 1 → M' 80 46 < 1000000000)
  refine ok_whl (nC B ^ n) (fun w M' => ∃ s, Vd (nC B) n s ∧ cod (nC B) s n = w ∧ WP B n mem s (planOf M') ∧ K w M') (FU_big (by omega)) ⟨s0, hv0, h0, hW0, fun _ _ _ => rfl, 0, ⟨BestLt.init _ _ _, fun _ => h45, fun z => absurd z (by decide)⟩, fun _ => h46, fun z => absurd z (by decide)⟩ ?_
  rintro w M1 hw ⟨s, hv, hc, hW, hF, f, hB, hf0, hf1⟩
  have H1 : LR B known M1 := H.fr (fun c i q => hF c i (by unfold isFa at q; omega))
  have hP := hW.pb hv
  have tl : ∀ (M2 : Mem) (f2 : Int), MF B M2 → WP B n mem s (planOf M2) → (∀ c i, ¬ ((c = 80 ∧ 45 ≤ i ∧ i ≤ 46) ∨ c = 108 ∨ c = 109) → M2 c i = M c i) → MBx B known n mem stay (w + 1) (M2 80 46) f2 M2 → (f2 = 0 → M2 80 46 = 1000000000) → (f2 = 1 → M2 80 46 < 1000000000) →
      Okk (bnd (f_X11_counts M2) fun r M_2 => if r = 0 then (some (.inr M_2) : Option (Mem ⊕ Mem)) else some (.inl M_2)) (inS (fun M' => w < nC B ^ n ∧ ∃ s, Vd (nC B) n s ∧ cod (nC B) s n = w + 1 ∧ WP B n mem s (planOf M') ∧ K (w + 1) M') (K (nC B ^ n))) := by
    intro M2 f2 HM hW2 hF2 hB2 g0 g1
    have := m_tail (M0 := M) HM S hv hW2 K (fun M' hM' => ⟨fun c i q => by rw [hM' c i (by omega)]; exact hF2 c i q, f2, by rw [hc, hM' 80 46 (by omega)]; exact hB2.fr (hM' 80 45 (by omega)) (fun i => hM' 109 i (by omega)), by rw [hM' 80 46 (by omega)]; exact g0, by rw [hM' 80 46 (by omega)]; exact g1⟩)
    rw [hc] at this
    exact this
  have keep : (okW B known mem n s → f = 1 ∧ (M1 80 46 < mvW stay n s ∨ (M1 80 46 = mvW stay n s ∧ M1 80 45 ≤ hmW B known mem n s))) → Okk (bnd (f_X11_counts M1) fun r M_2 => if r = 0 then (some (.inr M_2) : Option (Mem ⊕ Mem)) else some (.inl M_2)) (inS (fun M' => w < nC B ^ n ∧ ∃ s, Vd (nC B) n s ∧ cod (nC B) s n = w + 1 ∧ WP B n mem s (planOf M') ∧ K (w + 1) M') (K (nC B ^ n))) :=
    fun h => tl M1 f H1.1 hW hF (hB.skip hv hc h) hf0 hf1
  have mb := mvW_b stay s n
  have f01 : f = 0 ∨ f = 1 := by
    rcases hB.1 with q | q
    · exact Or.inl q.1
    · exact Or.inr q.1
  have hst1 : ∀ i, i < n → stay i = M1 110 (mem i) ∧ stay i ≠ -1 := fun i hi => by rw [hF 110 _ (by omega)]; exact hst i hi
  have hno1 : ∀ c, c < nK B → (∀ i, i < n → mem i ≠ c) → M1 110 c = -1 := fun c hc h => by rw [hF 110 _ (by omega)]; exact hno c hc h
  unfold f_X11_change_s86
  refine ok_e (m_moves H1.1 S hW hst1 hno1) ?_
  unfold f_X11_change_j127k86
  try dsimp only
  refine ok_ite (fun h => keep (fun _ => ⟨by rcases f01 with z | z; have := hf0 z; omega; exact z, Or.inl h⟩)) (fun h => ?_)
  refine ok_obn (m_isSound H1 hP) (fun r hr => ?_)
  have hok := hW.ok (known := known) H1.1.1 S hv
  refine ok_ite (fun h => keep (fun ho => absurd (hok.mp ho).1 (hr.f h))) (fun h5 => ?_)
  refine ok_e (m_lack H1) ?_
  have lb := lackGG_b H1.1.1.cf known (GP B (planOf M1))
  rw [← lack_pg] at lb
  refine ok_ite (fun h2 => ?_) (fun h2 => keep (fun ho => absurd (hok.mp ho).2 (by omega)))
  have ho : okW B known mem n s := hok.mpr ⟨hr.t h5, by omega⟩
  have hh := hW.hm (known := known) H1.1.1 S hv
  have hb := hmW_nn (B := B) (known := known) (n := n) (mem := mem) H1.1.1.cf s
  refine ok_e (m_allHarm H1 hP) ?_
  rw [← hh]
  have upd : (f = 0 ∨ mvW stay n s < M1 80 46 ∨ (mvW stay n s = M1 80 46 ∧ hmW B known mem n s < M1 80 45)) → Okk (lt (mup M1 80 46 (mvW stay n s)) fun M_6 => lt (mup M_6 80 45 (hmW B known mem n s)) fun M_7 => obn (f_X11_change_l188 0 M_7) fun s => f_X11_change_j214k86 s.2)
      (inS (fun M' => w < nC B ^ n ∧ ∃ s, Vd (nC B) n s ∧ cod (nC B) s n = w + 1 ∧ WP B n mem s (planOf M') ∧ K (w + 1) M') (K (nC B ^ n))) := by
    intro hbt
    refine ok_lt (ok_lt ?_)
    obtain ⟨M2, e2, f2, v2⟩ := mup_gen M1 80 46 (mvW stay n s)
    rw [e2]; clear e2
    obtain ⟨M3, e3, f3, v3⟩ := mup_gen M2 80 45 (hmW B known mem n s)
    rw [e3]; clear e3
    have H3 : MF B M3 := H1.1.fr (fun c i q => by rw [f3 c i (by unfold isFa at q; omega), f2 c i (by unfold isFa at q; omega)])
    refine ok_obn (m_copy2 H3) (fun q hq => ?_)
    obtain ⟨v, M4⟩ := q
    obtain ⟨f4, e4⟩ := hq
    dsimp only at f4 e4 ⊢
    unfold f_X11_change_j214k86
    have p4 : planOf M4 = planOf M1 := funext (fun c => by show M4 108 c = M1 108 c; rw [f4 108 c (by omega), f3 108 c (by omega), f2 108 c (by omega)])
    have e46 : M4 80 46 = mvW stay n s := by rw [f4 80 46 (by omega), f3 80 46 (by omega)]; exact v2
    refine tl M4 1 (H3.fr (fun c i q => f4 c i (by unfold isFa at q; omega))) (by rw [p4]; exact hW) (fun c i q => by rw [f4 c i (by omega), f3 c i (by omega), f2 c i (by omega)]; exact hF c i q) ?_ (fun z => absurd z (by decide)) (fun _ => by rw [e46]; omega)
    rw [e46]
    exact MBx.new (M' := M4) H1.1.1.cf S hB hv hc ho hW hbt (by rw [f4 80 45 (by omega)]; exact v3) (fun c hc => by rw [e4 c hc, f3 108 c (by omega), f2 108 c (by omega)])
  refine ok_ite (fun h6 => ?_) (fun h6 => upd (by rcases f01 with z | z; exact Or.inl z; exact Or.inr (Or.inl (by omega))))
  refine ok_ite (fun h7 => upd (Or.inr (Or.inr ⟨h6, h7⟩))) (fun h7 => keep (fun _ => ⟨?_, Or.inr ⟨h6.symm, by omega⟩⟩))
  rcases f01 with z | z
  · have := hf0 z; omega
  · exact z
end MB
