/-! the model: facts that hold still, what it has learnt -/
def MF (B M : Mem) : Prop := Fa B ∧ ∀ c i, isFa c i → M c i = B c i
theorem MF.rf {B : Mem} (h : Fa B) : MF B B := ⟨h, fun _ _ _ => rfl⟩
theorem MF.fr {B M M' : Mem} (h : MF B M) (k : ∀ c i, isFa c i → M' c i = M c i) : MF B M' := ⟨h.1, fun c i q => (k c i q).trans (h.2 c i q)⟩
theorem MF.fa {B M : Mem} (h : MF B M) : Fa M := h.1.congr h.2
theorem MF.fe {B M : Mem} (h : MF B M) : FE B M := fun c i q => h.2 c i (by unfold isF at q; unfold isFa; omega)
theorem MF.n {B M : Mem} (h : MF B M) : M 80 1 = (nK B : Int) := by rw [h.2 80 1 (by unfold isFa; omega), h.1.n]
theorem MF.k {B M : Mem} (h : MF B M) : M 80 12 = (nC B : Int) := by rw [h.2 80 12 (by unfold isFa; omega), h.1.k]
theorem MF.s {B M : Mem} (h : MF B M) : M 80 21 = (nS B : Int) := by rw [h.2 80 21 (by unfold isFa; omega), h.1.s]
theorem MF.td {B M : Mem} (h : MF B M) : M 80 14 = B 80 14 := h.2 80 14 (by unfold isFa; omega)
theorem MF.w {B M : Mem} (h : MF B M) (c i : Nat) (hc : 81 ≤ c ∧ c ≤ 104) : M c i = B c i := h.2 c i (by unfold isFa; omega)
theorem Fa.cf {B : Mem} (h : Fa B) : CF B B := CF.rf h
def LR (B : Mem) (known : Int) (M : Mem) : Prop := MF B M ∧ (∀ c j, c < nK B → j < 7 → M 106 (7 * c + j) = toldS B known c j) ∧ (∀ row c, row < 2 * nS B → c < nK B → M 107 (14 * row + c) = if holdB B known row c = true then 1 else 0)
theorem LR.fr {B M M' : Mem} {known : Int} (h : LR B known M) (k : ∀ c i, isFa c i ∨ (106 ≤ c ∧ c ≤ 107) → M' c i = M c i) : LR B known M' :=
  ⟨h.1.fr (fun c i q => k c i (Or.inl q)), fun c j hc hj => (k 106 _ (by omega)).trans (h.2.1 c j hc hj), fun row c hr hc => (k 107 _ (by omega)).trans (h.2.2 row c hr hc)⟩
theorem Fa.row4 {B : Mem} (h : Fa B) {row : Nat} (hr : row < 2 * nS B) : -1 ≤ B 100 row ∧ B 100 row ≤ 4 := by
  have e : row = 2 * (row / 2) + row % 2 := by omega
  have := h.cf.tb (s := row / 2) (w := row % 2) (by omega) (by omega)
  rw [← e] at this
  exact this
theorem MF.hold {B M : Mem} (h : MF B M) (known : Int) {row : Nat} (hr : row < 2 * nS B) (c : Nat) : holdB M known row c = holdB B known row c := by
  have := h.1.s16
  exact fe_hold h.fe known (by omega) (h.1.row4 hr).2 c
theorem MF.hdN {B M : Mem} (h : MF B M) (known : Int) {row : Nat} (hr : row < 2 * nS B) (P : Nat → Int) (k : Int) : holdN M known row P k = holdN B known row P k := by
  unfold holdN
  rw [fe_nK h.fe]
  exact cnt_congr (fun c hc => by rw [h.hold known hr c])
theorem LR.held {B M : Mem} {known : Int} (h : LR B known M) : HeldRow M known := by
  intro row c hr hc
  have e1 : nS M = nS B := by unfold nS; rw [h.1.s]; rw [h.1.1.s]
  rw [e1] at hr
  rw [fe_nK h.1.fe] at hc
  rw [h.2.2 row c hr hc, h.1.hold known hr c]
theorem MF.eS {B M : Mem} (h : MF B M) : nS M = nS B := by unfold nS; rw [h.2 80 21 (by unfold isFa; omega)]
theorem MF.eC {B M : Mem} (h : MF B M) : nC M = nC B := by unfold nC; rw [h.2 80 12 (by unfold isFa; omega)]
theorem MF.eK {B M : Mem} (h : MF B M) : nK M = nK B := fe_nK h.fe
theorem MF.met {B M : Mem} (h : MF B M) (known : Int) (P : Nat → Int) {s : Nat} (hs : s < nS B) : metS M known P s ↔ metS B known P s := by
  unfold metS
  rw [h.w 97 s (by omega), h.w 98 s (by omega), h.eC, h.eK]
  have e1 : ∀ k : Nat, holdN M known (2 * s) P k = holdN B known (2 * s) P k := fun k => h.hdN known (by omega) P k
  have e2 : ∀ a, holdB M known (2 * s) a = holdB B known (2 * s) a := fun a => h.hold known (by omega) a
  have e3 : ∀ a, holdB M known (2 * s + 1) a = holdB B known (2 * s + 1) a := fun a => h.hold known (by omega) a
  simp only [e1, e2, e3]
section MODEL
variable {B M : Mem} {known : Int}
theorem m2_inClass (H : LR B known M) (k : Int) : f_X11_inClass k M = some (inCl B (planOf M) k) := by
  have := ok_to (m_inClass H.1.fa.a1 k)
  rw [this]
  unfold inCl
  rw [H.1.eK]
theorem m2_holdIn (H : LR B known M) {row : Nat} (hr : row < 2 * nS B) (k : Int) : f_X11_holdIn row k M = some (holdN B known row (planOf M) k) := by
  have h16 := H.1.1.s16
  have := ok_to (m_holdIn H.1.fa.a1 H.held (row := row) (by rw [H.1.eS]; exact hr) (by omega) k)
  rw [this, H.1.hdN known hr]
theorem m2_isMet (H : LR B known M) {s : Nat} (hs : s < nS B) : Okk (f_X11_isMet s M) (fun r => isB r (metS B known (planOf M) s)) := by
  have h16 := H.1.1.s16
  refine ok_mono (m_isMet H.1.fa.a1 H.1.fa.a2 H.held (s := s) (by rw [H.1.eS]; exact hs) (by omega)) (fun r hr => ?_)
  rw [H.1.met known (planOf M) hs] at hr
  exact hr
/-- two of a plan -/
def badB (B : Mem) (P : Nat → Int) (a b : Nat) : Prop := ¬ pairOk B P a b
theorem m_pair (H : LR B known M) {a b : Nat} (ha : a < nK B) (hb : b < a) (hPb : planOf M b ≠ -1) (s0 : Int) (hs0 : isB s0 (planOf M a = planOf M b)) :
    Okk (f_X11_isSound_j155k117 (howS B (nS B)) a b s0 M) (fun o => (pairOk B (planOf M) a b ∧ o = .inl ((b + 1 : Nat) : Int)) ∨ (¬ pairOk B (planOf M) a b ∧ o = .inr (.inr 0))) := by
  have h14 := H.1.1.n14
  have d4 := (H.1.1.d4 a b (by omega) (by omega)).1
  have d5 := (H.1.1.d5 a b (by omega) (by omega)).1
  unfold isZ at d4 d5
  have go : ∀ o : Int ⊕ (Int ⊕ Int), o = .inl ((b + 1 : Nat) : Int) → (¬ (planOf M a = planOf M b ∧ B 88 (14 * a + b) = 1)) → (¬ (B 89 (14 * a + b) = 1 ∧ ((howS B (nS B) = 1 ∧ planOf M a = planOf M b) ∨ (howS B (nS B) = 2 ∧ planOf M a ≠ planOf M b)))) → (pairOk B (planOf M) a b ∧ o = .inl ((b + 1 : Nat) : Int)) ∨ (¬ pairOk B (planOf M) a b ∧ o = .inr (.inr 0)) :=
    fun o ho h1 h2 => Or.inl ⟨fun _ => ⟨h1, h2⟩, ho⟩
  have no : ∀ o : Int ⊕ (Int ⊕ Int), o = .inr (.inr 0) → ((planOf M a = planOf M b ∧ B 88 (14 * a + b) = 1) ∨ (B 89 (14 * a + b) = 1 ∧ ((howS B (nS B) = 1 ∧ planOf M a = planOf M b) ∨ (howS B (nS B) = 2 ∧ planOf M a ≠ planOf M b)))) → (pairOk B (planOf M) a b ∧ o = .inl ((b + 1 : Nat) : Int)) ∨ (¬ pairOk B (planOf M) a b ∧ o = .inr (.inr 0)) :=
    fun o ho h1 => Or.inr ⟨fun z => by have := z hPb; rcases h1 with h | h; exact this.1 h; exact this.2 h, ho⟩
  unfold f_X11_isSound_j155k117
  (try simp (disch := omega) only [wrap_of, toN, nA, n1, mr2, mr3, mr4, mr9, mr14, ml2, ml3, ml4, ml7, ml14, ml28, H.1.w])
  refine ok_ite (fun h0 => ?_) (fun h0 => ?_)
  · have hne := hs0.f h0
    subst h0
    (repeat' (first | (with_reducible refine ok_ltw ?_ ?_; (· omega)) | (with_reducible refine ok_lt ?_) | (with_reducible refine ok_gd ?_ ?_; (· omega)) | (with_reducible refine ok_ite_t ?_ ?_; (· omega)) | (with_reducible refine ok_ite_f ?_ ?_; (· omega)) | (with_reducible refine ok_ite (fun _ => ?_) (fun _ => ?_)) | (with_reducible refine ok_some ?_)))
    all_goals first | (refine go _ rfl ?_ ?_ <;> omega) | (refine no _ rfl ?_; omega)
  · have heq := hs0.t h0
    (repeat' (first | (with_reducible refine ok_ltw ?_ ?_; (· omega)) | (with_reducible refine ok_lt ?_) | (with_reducible refine ok_gd ?_ ?_; (· omega)) | (with_reducible refine ok_ite_t ?_ ?_; (· omega)) | (with_reducible refine ok_ite_f ?_ ?_; (· omega)) | (with_reducible refine ok_ite (fun _ => ?_) (fun _ => ?_)) | (with_reducible refine ok_some ?_)))
    all_goals first | (refine go _ rfl ?_ ?_ <;> omega) | (refine no _ rfl ?_; omega)
theorem m_isSound (H : LR B known M) (hP : PB B (planOf M)) : Okk (f_X11_isSound M) (fun r => isB r (soundS B known (planOf M))) := by
  have h14 := H.1.1.n14
  have h16 := H.1.1.s16
  have h3 := H.1.1.k23
  unfold f_X11_isSound
  have hl : f_X11_isSound_l4 M 0 0 = some (howS B (nS B), (nS B : Int)) := by
    unfold f_X11_isSound_l4
    refine whl_n (nS B) (fun k => (howS B k, (k : Int))) (by omega) rfl (fun k hk => ok_to ?_) (ok_to ?_)
    · unfold f_X11_isSound_s4
      try dsimp only
      (try simp (disch := omega) only [wrap_of, toN, nA, n1, mr2, mr3, mr4, mr9, mr14, ml2, ml3, ml4, ml7, ml14, ml28, H.1.s, H.1.w])
      have hS : howS B (k + 1) = if B 97 k = 8 then B 98 k else howS B k := rfl
      rw [hS]
      refine ok_ite_f (by omega) (ok_gd (by omega) ?_)
      refine ok_ite (fun h => ok_gd (by omega) (ok_lt (ok_lt (ok_some (by rw [if_pos h]))))) (fun h => ok_lt (ok_some (by rw [if_neg h])))
    · unfold f_X11_isSound_s4
      try dsimp only
      (try simp (disch := omega) only [wrap_of, toN, nA, n1, mr2, mr3, mr4, mr9, mr14, ml2, ml3, ml4, ml7, ml14, ml28, H.1.s])
      exact ok_ite_t (by omega) (ok_some rfl)
  refine ok_e hl ?_
  unfold f_X11_isSound_j40
  try dsimp only
  refine ok_lpr (P := fun _ => ∀ k : Nat, k < nC B → inCl B (planOf M) k ≤ B 91 k) (P2 := fun r => r = 0 ∧ ¬ ∀ k : Nat, k < nC B → inCl B (planOf M) k ≤ B 91 k) ?_ (fun v h1 => ?_) (fun r hr => ok_some (by rw [hr.1]; exact isB.zero (fun z => hr.2 z.1)))
  · unfold f_X11_isSound_l42
    refine ok_all2 (by omega) (fun k => inCl B (planOf M) k ≤ B 91 k) (fun k hk => ?_) ?_
    · unfold f_X11_isSound_s42
      (try simp (disch := omega) only [wrap_of, toN, nA, n1, mr2, mr3, mr4, mr9, mr14, ml2, ml3, ml4, ml7, ml14, ml28, H.1.k, H.1.w])
      refine ok_ite_f (by omega) (ok_e (m2_inClass H k) (ok_gd (by omega) ?_))
      exact ok_ite (fun h => ok_lt (ok_some (Or.inl ⟨h, rfl⟩))) (fun h => ok_some (Or.inr ⟨h, rfl⟩))
    · unfold f_X11_isSound_s42
      (try simp (disch := omega) only [wrap_of, toN, nA, n1, mr2, mr3, mr4, mr9, mr14, ml2, ml3, ml4, ml7, ml14, ml28, H.1.k])
      exact ok_ite_t (by omega) (ok_some ⟨_, rfl⟩)
  unfold f_X11_isSound_j72
  let p : Nat → Prop := fun a => planOf M a ≠ -1 → B 90 (3 * a + (planOf M a).toNat) = 0 ∧ ∀ b : Nat, b < a → pairOk B (planOf M) a b
  refine ok_lpr (P := fun _ => ∀ a, a < nK B → p a) (P2 := fun r => r = 0 ∧ ¬ ∀ a, a < nK B → p a) ?_ (fun v h2 => ?_) (fun r hr => ok_some (by rw [hr.1]; exact isB.zero (fun z => hr.2 z.2.1)))
  · unfold f_X11_isSound_l74
    refine ok_all2 (by omega) p (fun a ha => ?_) ?_
    · have q := hP a ha
      unfold f_X11_isSound_s74
      (try simp (disch := omega) only [wrap_of, toN, nA, n1, mr2, mr3, mr4, mr9, mr14, ml2, ml3, ml4, ml7, ml14, ml28, H.1.n])
      refine ok_ite_f (by omega) (ok_gd (by omega) ?_)
      refine ok_ite (fun h => ok_lt (ok_some (Or.inl ⟨fun z => absurd h z, rfl⟩))) (fun h => ?_)
      have hne : planOf M a ≠ -1 := h
      obtain ⟨k, hk⟩ : ∃ k : Nat, M 108 a = (k : Int) := ⟨(M 108 a).toNat, by show planOf M a = ((planOf M a).toNat : Int); omega⟩
      have hk2 : planOf M a = (k : Int) := hk
      rw [hk2] at q
      rw [hk]
      (try simp (disch := omega) only [wrap_of, toN, nA, n1, mr2, mr3, mr4, mr9, mr14, ml2, ml3, ml4, ml7, ml14, ml28, H.1.w])
      have hpa : p a = (planOf M a ≠ -1 → B 90 (3 * a + (planOf M a).toNat) = 0 ∧ ∀ b : Nat, b < a → pairOk B (planOf M) a b) := rfl
      rw [hk2, toN] at hpa
      refine ok_gd (by omega) (ok_gd (by omega) ?_)
      refine ok_ite (fun h0 => ?_) (fun h0 => ok_some (Or.inr ⟨fun z => h0 (by rw [hpa] at z; exact (z (by omega)).1), rfl⟩))
      refine ok_lpr (P := fun _ => ∀ b, b < a → pairOk B (planOf M) a b) (P2 := fun r => r = 0 ∧ ¬ ∀ b, b < a → pairOk B (planOf M) a b) ?_ (fun v hv => ?_) (fun r hr => ok_some (Or.inr ⟨fun z => hr.2 (by rw [hpa] at z; exact (z (by omega)).2), by rw [hr.1]⟩))
      · unfold f_X11_isSound_l117
        refine ok_all2 (by omega) (pairOk B (planOf M) a) (fun b hb => ?_) ?_
        · unfold f_X11_isSound_s117
          (try simp (disch := omega) only [wrap_of, toN, nA, n1, mr2, mr3, mr4, mr9, mr14, ml2, ml3, ml4, ml7, ml14, ml28])
          refine ok_ite_f (by omega) (ok_gd (by omega) ?_)
          refine ok_ite (fun h5 => ok_lt (ok_some (Or.inl ⟨fun z => absurd h5 z, rfl⟩))) (fun h5 => ok_gd (by omega) (ok_gd (by omega) ?_))
          refine ok_ite (fun h6 => m_pair H ha hb h5 1 (isB.one h6)) (fun h6 => m_pair H ha hb h5 0 (isB.zero h6))
        · unfold f_X11_isSound_s117
          exact ok_ite_t (by omega) (ok_some ⟨_, rfl⟩)
      · unfold f_X11_isSound_j218k74
        (try simp (disch := omega) only [wrap_of, toN, nA, n1, mr2, mr3, mr4, mr9, mr14, ml2, ml3, ml4, ml7, ml14, ml28])
        exact ok_lt (ok_some (Or.inl ⟨by rw [hpa]; exact fun _ => ⟨h0, hv⟩, rfl⟩))
    · unfold f_X11_isSound_s74
      (try simp (disch := omega) only [wrap_of, toN, nA, n1, mr2, mr3, mr4, mr9, mr14, ml2, ml3, ml4, ml7, ml14, ml28, H.1.n])
      exact ok_ite_t (by omega) (ok_some ⟨_, rfl⟩)
  unfold f_X11_isSound_j224
  refine ok_lpr (P := fun _ => ∀ s, s < nS B → metS B known (planOf M) s) (P2 := fun r => r = 0 ∧ ¬ ∀ s, s < nS B → metS B known (planOf M) s) ?_ (fun v h4 => ?_) (fun r hr => ok_some (by rw [hr.1]; exact isB.zero (fun z => hr.2 z.2.2)))
  · unfold f_X11_isSound_l226
    refine ok_all2 (by omega) (metS B known (planOf M)) (fun s hs => ?_) ?_
    · unfold f_X11_isSound_s226
      (try simp (disch := omega) only [wrap_of, toN, nA, n1, mr2, mr3, mr4, mr9, mr14, ml2, ml3, ml4, ml7, ml14, ml28, H.1.s])
      refine ok_ite_f (by omega) (ok_obn (m2_isMet H hs) (fun r hr => ?_))
      exact ok_ite (fun h => ok_some (Or.inr ⟨hr.f h, rfl⟩)) (fun h => ok_lt (ok_some (Or.inl ⟨hr.t h, rfl⟩)))
    · unfold f_X11_isSound_s226
      (try simp (disch := omega) only [wrap_of, toN, nA, n1, mr2, mr3, mr4, mr9, mr14, ml2, ml3, ml4, ml7, ml14, ml28, H.1.s])
      exact ok_ite_t (by omega) (ok_some ⟨_, rfl⟩)
  unfold f_X11_isSound_j250
  exact ok_some (isB.one ⟨h1, h2, h4⟩)
theorem hn_b (row : Nat) (P : Nat → Int) (k : Int) : 0 ≤ holdN B known row P k ∧ holdN B known row P k ≤ nK B := cnt_b _ _
theorem m_lack (H : LR B known M) : f_X11_lack M = some (lackS B known (planOf M)) := by
  have h14 := H.1.1.n14
  have h16 := H.1.1.s16
  have h3 := H.1.1.k23
  have pb : ∀ s, s < nS B → B 97 s = 7 → ∀ k : Nat, 0 ≤ pos0 (B 98 s - holdN B known (2 * s) (planOf M) k) ∧ pos0 (B 98 s - holdN B known (2 * s) (planOf M) k) ≤ 99 := by
    intro s hs h7 k
    have nb := H.1.1.cf.nb hs (by omega) (by omega)
    have := hn_b (B := B) (known := known) (2 * s) (planOf M) k
    unfold pos0
    split <;> omega
  unfold f_X11_lack f_X11_lack_l4
  refine (obn_e _ (whl_sum (n := nS B) (by omega) (fun s => if B 97 s = 7 then fb_si (fun k => pos0 (B 98 s - holdN B known (2 * s) (planOf M) k)) (nC B) else 0) 297 5000 (by omega) (by omega) (fun s hs => ?_) (fun s hs v h0 h1 h2 h3' => ?_) (fun v => ?_))).trans rfl
  · by_cases h7 : B 97 s = 7
    · rw [if_pos h7]
      have q := si_nn (f := fun k : Nat => pos0 (B 98 s - holdN B known (2 * s) (planOf M) k)) (b := 99) (n := nC B) (fun k _ => pb s hs h7 k)
      omega
    · rw [if_neg h7]; omega
  · unfold f_X11_lack_s4
    (try simp (disch := omega) only [wrap_of, toN, nA, n1, mr2, mr3, mr4, mr9, mr14, ml2, ml3, ml4, ml7, ml14, ml28, H.1.s])
    refine ok_ite_f (by omega) ?_
    by_cases h7 : B 97 s = 7
    · rw [if_pos h7] at h2 h3' ⊢
      have hl : f_X11_lack_l14 s M v 0 = some (v + fb_si (fun k => pos0 (B 98 s - holdN B known (2 * s) (planOf M) k)) (nC B), (nC B : Int)) := by
        unfold f_X11_lack_l14
        refine whl_from (by omega) v (fun k => pos0 (B 98 s - holdN B known (2 * s) (planOf M) k)) (fun k hk => ?_) (fun w => ?_)
        · have nb := H.1.1.cf.nb hs (by omega) (by omega)
          have hb := hn_b (B := B) (known := known) (2 * s) (planOf M) k
          have q := si_nn (f := fun k : Nat => pos0 (B 98 s - holdN B known (2 * s) (planOf M) k)) (b := 99) (n := k) (fun k _ => pb s hs h7 k)
          unfold f_X11_lack_s14
          (try simp (disch := omega) only [wrap_of, toN, nA, n1, mr2, mr3, mr4, mr9, mr14, ml2, ml3, ml4, ml7, ml14, ml28, H.1.k, H.1.w])
          refine ok_ite_f (by omega) (ok_gd (by omega) (ok_ite_t h7 (ok_gd (by omega) (ok_e (m2_holdIn H (row := 2 * s) (by omega) k) ?_))))
          generalize fb_si (fun k : Nat => pos0 (B 98 s - holdN B known (2 * s) (planOf M) k)) k = u at q ⊢
          refine ok_ltw (by omega) ?_
          refine ok_ite (fun h => ?_) (fun h => ?_)
          · refine ok_lt (ok_lt (ok_some ?_))
            unfold pos0
            rw [if_neg (by omega)]
          · refine ok_ltw (by omega) (ok_lt (ok_some ?_))
            unfold pos0
            rw [if_pos (by omega)]
        · unfold f_X11_lack_s14
          (try simp (disch := omega) only [wrap_of, toN, nA, n1, mr2, mr3, mr4, mr9, mr14, ml2, ml3, ml4, ml7, ml14, ml28, H.1.k])
          exact ok_ite_t (by omega) (ok_some rfl)
      refine ok_e hl ?_
      unfold f_X11_lack_j70k4
      (try simp (disch := omega) only [wrap_of, toN, nA, n1, mr2, mr3, mr4, mr9, mr14, ml2, ml3, ml4, ml7, ml14, ml28])
      exact ok_lt (ok_some rfl)
    · rw [if_neg h7, Int.add_zero]
      have hl : f_X11_lack_l14 s M v 0 = some (v, 0) := by
        unfold f_X11_lack_l14
        refine whl_n 0 (fun k => (v, (k : Int))) (by omega) rfl (fun k hk => absurd hk (by omega)) (ok_to ?_)
        unfold f_X11_lack_s14
        try dsimp only
        (try simp (disch := omega) only [wrap_of, toN, nA, n1, mr2, mr3, mr4, mr9, mr14, ml2, ml3, ml4, ml7, ml14, ml28, H.1.k, H.1.w])
        exact ok_ite_f (by omega) (ok_gd (by omega) (ok_ite_f h7 (ok_some rfl)))
      refine ok_e hl ?_
      unfold f_X11_lack_j70k4
      (try simp (disch := omega) only [wrap_of, toN, nA, n1, mr2, mr3, mr4, mr9, mr14, ml2, ml3, ml4, ml7, ml14, ml28])
      exact ok_lt (ok_some rfl)
  · unfold f_X11_lack_s4
    (try simp (disch := omega) only [wrap_of, toN, nA, n1, mr2, mr3, mr4, mr9, mr14, ml2, ml3, ml4, ml7, ml14, ml28, H.1.s])
    exact ok_ite_t (by omega) (ok_some rfl)
theorem m_servedIn (H : MF B M) {c : Nat} (hc : c < nK B) : f_X11_servedIn c M = some (servedS B (planOf M) c : Int) := by
  have h14 := H.1.n14
  have hn := H.1.n
  let q : Nat → Prop := fun k => B 86 (3 * c + k) ≠ -1 ∧ planOf M (B 86 (3 * c + k)).toNat = planOf M c
  apply ok_to
  unfold f_X11_servedIn
  have fin : ∀ k : Nat, k < 3 → q k → (∀ j, j < k → ¬ q j) → servedS B (planOf M) c = k := by
    intro k hk h hj
    unfold servedS
    by_cases k0 : k = 0
    · subst k0; exact if_pos h
    refine (if_neg (hj 0 (by omega))).trans ?_
    by_cases k1 : k = 1
    · subst k1; rw [if_pos h]
    rw [if_neg (hj 1 (by omega))]
    have k2 : k = 2 := by omega
    subst k2; rw [if_pos h]
  refine ok_lpr (P := fun _ => servedS B (planOf M) c = 3) (P2 := fun r => r = (servedS B (planOf M) c : Int)) ?_ (fun s hs => ok_some (by rw [hs]; rfl)) (fun t ht => ok_some ht)
  unfold f_X11_servedIn_l2
  refine ok_first (n := 3) (by omega) q _ (fun k hk hj => ?_) (fun hj => ?_)
  · unfold f_X11_servedIn_s2
    have w := H.1.c3 (3 * c + k) (by omega)
    (try simp (disch := omega) only [wrap_of, toN, nA, n1, mr2, mr3, mr4, mr9, mr14, ml2, ml3, ml4, ml7, ml14, ml28, H.w])
    refine ok_ite_f (by omega) (ok_gd (by omega) (ok_lt ?_))
    refine ok_ite (fun h5 => ok_lt (ok_some (Or.inl ⟨fun z => z.1 h5, rfl⟩))) (fun h5 => ?_)
    obtain ⟨j, hj2⟩ : ∃ j : Nat, B 86 (3 * c + k) = (j : Int) := ⟨(B 86 (3 * c + k)).toNat, by omega⟩
    have hq : q k = (B 86 (3 * c + k) ≠ -1 ∧ planOf M (B 86 (3 * c + k)).toNat = planOf M c) := rfl
    rw [hj2] at w
    rw [hj2, toN] at hq ⊢
    refine ok_gd (by omega) (ok_gd (by omega) ?_)
    refine ok_ite (fun h6 => ?_) (fun h6 => ok_lt (ok_some (Or.inl ⟨fun z => h6 (by rw [hq] at z; exact z.2), rfl⟩)))
    have hqk : q k := by rw [hq]; exact ⟨by omega, h6⟩
    refine ok_some (Or.inr ⟨hqk, _, rfl, ?_⟩)
    show (k : Int) = _
    rw [fin k hk hqk hj]
  · unfold f_X11_servedIn_s2
    refine ok_ite_t (by omega) (ok_some ⟨_, rfl, ?_⟩)
    show servedS B (planOf M) c = 3
    unfold servedS
    refine (if_neg (hj 0 (by omega))).trans ?_
    rw [if_neg (hj 1 (by omega)), if_neg (hj 2 (by omega))]
end MODEL
