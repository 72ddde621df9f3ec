/-! the class: its facts -/
theorem c_toldWishes {B M : Mem} (H : CF B M) {c : Nat} (hc : c < 14) : f_X1_toldWishes c M = some (wishesS B c) := by
  unfold f_X1_toldWishes f_X1_toldWishes_l4
  refine (obn_e _ (whl_cnt (n := 3) (by omega) (fun p => B 86 (3 * c + p) ≠ -1) (fun k hk v h0 h1 => ?_) (fun v => ?_))).trans rfl
  · unfold f_X1_toldWishes_s4
    (try simp (disch := omega) only [wrap_of, toN, nA, n1, mr2, mr3, mr4, mr9, mr14, ml2, ml3, ml4, ml7, ml14, ml28, H.w9])
    (repeat' (first | (with_reducible refine ok_ltw ?_ ?_; (· omega)) | (with_reducible refine ok_lt ?_) | (with_reducible refine ok_gd ?_ ?_; (· omega)) | (with_reducible refine ok_ite_t ?_ ?_; (· omega)) | (with_reducible refine ok_ite_f ?_ ?_; (· omega)) | (with_reducible refine ok_ite (fun _ => ?_) (fun _ => ?_)) | (with_reducible refine ok_some ?_)))
    all_goals (first | rfl | (rw [if_pos (by omega)]) | (rw [if_neg (by omega)]; done) | (rw [if_neg (by omega), Int.add_zero]) | (simp_all; done))
  · unfold f_X1_toldWishes_s4
    (repeat' (first | (with_reducible refine ok_ltw ?_ ?_; (· omega)) | (with_reducible refine ok_lt ?_) | (with_reducible refine ok_gd ?_ ?_; (· omega)) | (with_reducible refine ok_ite_t ?_ ?_; (· omega)) | (with_reducible refine ok_ite_f ?_ ?_; (· omega)) | (with_reducible refine ok_ite (fun _ => ?_) (fun _ => ?_)) | (with_reducible refine ok_some ?_)))
    all_goals (first | rfl | (rw [if_pos (by omega)]) | (rw [if_neg (by omega)]; done) | (rw [if_neg (by omega), Int.add_zero]) | (simp_all; done))
theorem c_naming {B M : Mem} (H : CF B M) (c : Nat) : f_X1_naming c M = some (namedS B c) := by
  have h14 := H.1.n14
  unfold f_X1_naming f_X1_naming_l4
  refine (obn_e _ (whl_cnt (n := 3 * nK B) (by omega) (fun k => B 86 k = (c : Int)) (fun k hk v h0 h1 => ?_) (fun v => ?_))).trans rfl
  · unfold f_X1_naming_s4
    (try simp (disch := omega) only [wrap_of, toN, nA, n1, mr2, mr3, mr4, mr9, mr14, ml2, ml3, ml4, ml7, ml14, ml28, H.w9, H.n])
    (repeat' (first | (with_reducible refine ok_ltw ?_ ?_; (· omega)) | (with_reducible refine ok_lt ?_) | (with_reducible refine ok_gd ?_ ?_; (· omega)) | (with_reducible refine ok_ite_t ?_ ?_; (· omega)) | (with_reducible refine ok_ite_f ?_ ?_; (· omega)) | (with_reducible refine ok_ite (fun _ => ?_) (fun _ => ?_)) | (with_reducible refine ok_some ?_)))
    all_goals (first | rfl | (rw [if_pos (by omega)]) | (rw [if_neg (by omega)]; done) | (rw [if_neg (by omega), Int.add_zero]) | (simp_all; done))
  · unfold f_X1_naming_s4
    (try simp (disch := omega) only [wrap_of, toN, nA, n1, mr2, mr3, mr4, mr9, mr14, ml2, ml3, ml4, ml7, ml14, ml28, H.n])
    (repeat' (first | (with_reducible refine ok_ltw ?_ ?_; (· omega)) | (with_reducible refine ok_lt ?_) | (with_reducible refine ok_gd ?_ ?_; (· omega)) | (with_reducible refine ok_ite_t ?_ ?_; (· omega)) | (with_reducible refine ok_ite_f ?_ ?_; (· omega)) | (with_reducible refine ok_ite (fun _ => ?_) (fun _ => ?_)) | (with_reducible refine ok_some ?_)))
    all_goals (first | rfl | (rw [if_pos (by omega)]) | (rw [if_neg (by omega)]; done) | (rw [if_neg (by omega), Int.add_zero]) | (simp_all; done))
theorem c_cameBy {B M : Mem} (H : CF B M) (known : Int) : f_X1_cameBy known M = some (cnt (fun c => B 84 c ≤ known) (nK B)) := by
  have h14 := H.1.n14
  unfold f_X1_cameBy f_X1_cameBy_l4
  refine (obn_e _ (whl_cnt (n := nK B) (by omega) (fun c => B 84 c ≤ known) (fun k hk v h0 h1 => ?_) (fun v => ?_))).trans rfl
  · unfold f_X1_cameBy_s4
    (try simp (disch := omega) only [wrap_of, toN, nA, n1, mr2, mr3, mr4, mr9, mr14, ml2, ml3, ml4, ml7, ml14, ml28, H.w7, H.n])
    (repeat' (first | (with_reducible refine ok_ltw ?_ ?_; (· omega)) | (with_reducible refine ok_lt ?_) | (with_reducible refine ok_gd ?_ ?_; (· omega)) | (with_reducible refine ok_ite_t ?_ ?_; (· omega)) | (with_reducible refine ok_ite_f ?_ ?_; (· omega)) | (with_reducible refine ok_ite (fun _ => ?_) (fun _ => ?_)) | (with_reducible refine ok_some ?_)))
    all_goals (first | rfl | (rw [if_pos (by omega)]) | (rw [if_neg (by omega)]; done) | (rw [if_neg (by omega), Int.add_zero]) | (simp_all; done))
  · unfold f_X1_cameBy_s4
    (try simp (disch := omega) only [wrap_of, toN, nA, n1, mr2, mr3, mr4, mr9, mr14, ml2, ml3, ml4, ml7, ml14, ml28, H.n])
    (repeat' (first | (with_reducible refine ok_ltw ?_ ?_; (· omega)) | (with_reducible refine ok_lt ?_) | (with_reducible refine ok_gd ?_ ?_; (· omega)) | (with_reducible refine ok_ite_t ?_ ?_; (· omega)) | (with_reducible refine ok_ite_f ?_ ?_; (· omega)) | (with_reducible refine ok_ite (fun _ => ?_) (fun _ => ?_)) | (with_reducible refine ok_some ?_)))
    all_goals (first | rfl | (rw [if_pos (by omega)]) | (rw [if_neg (by omega)]; done) | (rw [if_neg (by omega), Int.add_zero]) | (simp_all; done))
theorem c_wishedOnes {B M : Mem} (H : CF B M) {c : Nat} (hc : c < nK B) : Okk (f_X1_wishedOnes c M) (fun r => mIs r (wishB B c)) := by
  have h14 := H.1.n14
  have hn := H.1.n
  unfold f_X1_wishedOnes
  refine ok_obn (P := fun s => mIs s.1 (wishB B c)) ?_ (fun s hs => ok_some hs)
  unfold f_X1_wishedOnes_l4
  refine ok_whl 3 (fun k s => s.2 = (k : Int) ∧ mIs s.1 (fun o => anyB (fun p => decide (B 86 (3 * c + p) = (o : Int))) k)) (FU_big (by omega)) ⟨rfl, mIs_0⟩ ?_
  rintro k ⟨v, w⟩ hk ⟨h2, hm⟩
  dsimp only at h2 hm ⊢
  subst h2
  unfold f_X1_wishedOnes_s4
  refine ok_ite (fun h => ?_) (fun h => ?_)
  · have e : k = 3 := by omega
    subst e; exact ok_some hm
  have hk3 : k < 3 := by omega
  have q := H.1.c3 (3 * c + k) (by omega)
  (try simp (disch := omega) only [wrap_of, toN, nA, n1, mr2, mr3, mr4, mr9, mr14, ml2, ml3, ml4, ml7, ml14, ml28, H.w9])
  refine ok_gd (by omega) (ok_lt ?_)
  refine ok_ite (fun h5 => ?_) (fun h5 => ?_)
  · refine ok_lt (ok_some ⟨hk3, rfl, hm.congr (fun o ho => ?_)⟩)
    show _ = (anyB _ k || decide _)
    rw [decide_eq_false (by omega), Bool.or_false]
  · obtain ⟨j, hj⟩ : ∃ j : Nat, B 86 (3 * c + k) = (j : Int) := ⟨(B 86 (3 * c + k)).toNat, by omega⟩
    rw [hj] at q
    have m := mIs_or hm (mIs_1 (j := j) (by omega))
    refine ok_lt (ok_lt (ok_some ⟨hk3, rfl, ?_⟩))
    rw [hj]
    refine m.congr (fun o ho => ?_)
    show _ = (anyB _ k || decide _)
    rw [hj]
    congr 1
    exact decide_eq_decide.mpr ⟨fun z => by omega, fun z => by omega⟩
/-- the first that says yes -/
theorem ok_first {R : Type} {step : Int → Option (Int ⊕ R)} {n : Nat} (hn : n < 100000) (p : Nat → Prop) (P : R → Prop)
    (hs : ∀ k : Nat, k < n → (∀ j, j < k → ¬ p j) → Okk (step (k : Int)) (fun o => (¬ p k ∧ o = .inl ((k + 1 : Nat) : Int)) ∨ (p k ∧ ∃ r, o = .inr r ∧ P r)))
    (he : (∀ j, j < n → ¬ p j) → Okk (step (n : Int)) (fun o => ∃ r, o = .inr r ∧ P r)) : Okk (whl step FU 0) P := by
  refine ok_whl n (fun k s => s = (k : Int) ∧ ∀ j, j < k → ¬ p j) (FU_big (by omega)) ⟨rfl, fun j h => absurd h (by omega)⟩ ?_
  rintro k v hk ⟨rfl, hB⟩
  by_cases hkn : k < n
  · refine ok_mono (hs k hkn hB) (fun o ho => ?_)
    rcases ho with ⟨hp, rfl⟩ | ⟨hp, r, rfl, hr⟩
    · refine ⟨hkn, rfl, fun j hj => ?_⟩
      by_cases e : j = k
      · subst e; exact hp
      · exact hB j (by omega)
    · exact hr
  · have e : k = n := by omega
    subst e
    refine ok_mono (he hB) (fun o ho => ?_)
    obtain ⟨r, rfl, hr⟩ := ho
    exact hr
theorem servedG_of {B : Mem} {G : Nat → Bool} {c k : Nat} (hk : k < 3) (h : B 86 (3 * c + k) ≠ -1 ∧ G (B 86 (3 * c + k)).toNat = true) (hj : ∀ j, j < k → ¬ (B 86 (3 * c + j) ≠ -1 ∧ G (B 86 (3 * c + j)).toNat = true)) : servedG B G c = k := by
  unfold servedG
  by_cases k0 : k = 0
  · subst k0; exact if_pos h
  refine (if_neg (hj 0 (by omega))).trans ?_
  by_cases k1 : k = 1
  · subst k1; rw [if_pos h]
  rw [if_neg (hj 1 (by omega))]
  have k2 : k = 2 := by omega
  subst k2; rw [if_pos h]
theorem servedG_no {B : Mem} {G : Nat → Bool} {c : Nat} (hj : ∀ j, j < 3 → ¬ (B 86 (3 * c + j) ≠ -1 ∧ G (B 86 (3 * c + j)).toNat = true)) : servedG B G c = 3 := by
  unfold servedG
  refine (if_neg (hj 0 (by omega))).trans ?_
  rw [if_neg (hj 1 (by omega)), if_neg (hj 2 (by omega))]
theorem c_bestWish {B M : Mem} (H : CF B M) {c : Nat} (hc : c < nK B) {g : Int} {G : Nat → Bool} (hg : mIs g G) : f_X1_bestWish c g M = some (servedG B G c : Int) := by
  have h14 := H.1.n14
  have hn := H.1.n
  apply ok_to
  unfold f_X1_bestWish
  refine ok_lpr (P := fun _ => servedG B G c = 3) (P2 := fun r => r = (servedG B G c : Int)) ?_ (fun s hs => ok_some (by rw [hs]; rfl)) (fun t ht => ok_some ht)
  unfold f_X1_bestWish_l2
  refine ok_first (n := 3) (by omega) (fun k => B 86 (3 * c + k) ≠ -1 ∧ G (B 86 (3 * c + k)).toNat = true) _ (fun k hk hj => ?_) (fun hj => ?_)
  · unfold f_X1_bestWish_s2
    have q := H.1.c3 (3 * c + k) (by omega)
    (try simp (disch := omega) only [wrap_of, toN, nA, n1, mr2, mr3, mr4, mr9, mr14, ml2, ml3, ml4, ml7, ml14, ml28, H.w9])
    refine ok_ite_f (by omega) (ok_gd (by omega) (ok_lt ?_))
    refine ok_ite (fun h5 => ?_) (fun h5 => ?_)
    · exact ok_lt (ok_some (Or.inl ⟨fun z => z.1 h5, rfl⟩))
    · obtain ⟨j, hj2⟩ : ∃ j : Nat, B 86 (3 * c + k) = (j : Int) := ⟨(B 86 (3 * c + k)).toNat, by omega⟩
      rw [hj2] at q
      have hb := mIs_bit0 hg (j := j) (by omega)
      rw [hj2, toN]
      refine ok_ite (fun h6 => ?_) (fun h6 => ?_)
      · refine ok_lt (ok_some (Or.inl ⟨fun z => ?_, rfl⟩))
        rw [hb.mp h6] at z; cases z.2
      · refine ok_some (Or.inr ⟨⟨by omega, by simpa using fun z => h6 (hb.mpr z)⟩, _, rfl, ?_⟩)
        show (k : Int) = _
        have h7 : G j = true := by simpa using fun z => h6 (hb.mpr z)
        rw [servedG_of hk ⟨by omega, by rw [hj2, toN]; exact h7⟩ hj]
  · unfold f_X1_bestWish_s2
    exact ok_ite_t (by omega) (ok_some ⟨_, rfl, servedG_no hj⟩)
