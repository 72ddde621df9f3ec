/-! the model: HARM -/
section MHARM
variable {B M : Mem} {known : Int}
theorem told_w (H : LR B known M) {s c : Nat} (hs : s < nS B) (h1 : B 97 s = 1) (hc : c < nK B) : ∃ w : Nat, B 99 s = (w : Int) ∧ w < 7 ∧ M 106 (7 * c + w) = toldS B known c w := by
  have hw := H.1.1.cf.wd hs h1
  exact ⟨(B 99 s).toNat, by omega, by omega, H.2.1 c _ hc (by omega)⟩
theorem m_h87 (H : LR B known M) {s : Nat} (hs : s < nS B) (v2 v3 : Int) (k : Nat) (v : Int) (hv : 0 ≤ v ∧ v ≤ 14) :
    Okk (f_X11_harmOf_l87 s v2 v3 k M v 0) (fun r => r.1 = v + if B 97 s = 1 then sumIn B known (B 99 s).toNat (planOf M) k else 0) := by
  have h14 := H.1.1.n14
  have h16 := H.1.1.s16
  by_cases h1 : B 97 s = 1
  · rw [if_pos h1]
    have e : f_X11_harmOf_l87 s v2 v3 k M v 0 = some (v + sumIn B known (B 99 s).toNat (planOf M) k, (nK B : Int)) := by
      unfold f_X11_harmOf_l87 sumIn
      refine whl_from (by omega) v (fun c => if planOf M c = (k : Int) then toldS B known c (B 99 s).toNat else 0) (fun c hc => ?_) (fun w => ?_)
      · have q := si_nn (f := fun c => if planOf M c = (k : Int) then toldS B known c (B 99 s).toNat else 0) (b := 99) (n := c) (fun c2 hc2 => by
          have := told_b H.1.1 known (c := c2) (by omega) (B 99 s).toNat
          split <;> omega)
        have tb := told_b H.1.1 known hc (B 99 s).toNat
        obtain ⟨w, hw1, hw2, hw3⟩ := told_w H hs h1 hc
        rw [hw1, toN] at q tb ⊢
        generalize fb_si (fun c => if planOf M c = (k : Int) then toldS B known c w else 0) c = u at q ⊢
        unfold f_X11_harmOf_s87
        (try simp (disch := omega) only [wrap_of, toN, nA, n1, mr2, mr3, mr4, mr9, mr14, ml2, ml3, ml4, ml7, ml14, ml28, H.1.n, H.1.w])
        rw [hw1]
        (try simp (disch := omega) only [wrap_of, toN, nA, n1, mr2, mr3, mr4, mr9, mr14, ml2, ml3, ml4, ml7, ml14, ml28])
        rw [hw3]
        refine ok_ite_f (by omega) (ok_gd (by omega) (ok_ite_t h1 (ok_gd (by omega) ?_)))
        refine ok_ite (fun h => ?_) (fun h => ?_)
        · rw [if_pos (show planOf M c = (k : Int) from h)]
          refine ok_gd (by omega) (ok_gd (by omega) ?_)
          (repeat' (first | (with_reducible refine ok_ltw ?_ ?_; (· omega)) | (with_reducible refine ok_lt ?_) | (with_reducible refine ok_gd ?_ ?_; (· omega)) | (with_reducible refine ok_ite_t ?_ ?_; (· omega)) | (with_reducible refine ok_ite_f ?_ ?_; (· omega)) | (with_reducible refine ok_ite (fun _ => ?_) (fun _ => ?_)) | (with_reducible refine ok_some ?_)))
          all_goals rfl
        · rw [if_neg (show ¬ planOf M c = (k : Int) from h)]
          (repeat' (first | (with_reducible refine ok_ltw ?_ ?_; (· omega)) | (with_reducible refine ok_lt ?_) | (with_reducible refine ok_gd ?_ ?_; (· omega)) | (with_reducible refine ok_ite_t ?_ ?_; (· omega)) | (with_reducible refine ok_ite_f ?_ ?_; (· omega)) | (with_reducible refine ok_ite (fun _ => ?_) (fun _ => ?_)) | (with_reducible refine ok_some ?_)))
          all_goals rfl
      · unfold f_X11_harmOf_s87
        (try simp (disch := omega) only [wrap_of, toN, nA, n1, mr2, mr3, mr4, mr9, mr14, ml2, ml3, ml4, ml7, ml14, ml28, H.1.n])
        exact ok_ite_t (by omega) (ok_some rfl)
    rw [e]
    exact ok_some rfl
  · rw [if_neg h1, Int.add_zero]
    have e : f_X11_harmOf_l87 s v2 v3 k M v 0 = some (v, 0) := by
      unfold f_X11_harmOf_l87
      refine whl_n 0 (fun j => (v, (j : Int))) (by omega) rfl (fun j hj => absurd hj (by omega)) (ok_to ?_)
      unfold f_X11_harmOf_s87
      try dsimp only
      (try simp (disch := omega) only [wrap_of, toN, nA, n1, mr2, mr3, mr4, mr9, mr14, ml2, ml3, ml4, ml7, ml14, ml28, H.1.n, H.1.w])
      by_cases hn : (nK B : Int) ≤ 0
      · exact ok_ite_t (by omega) (ok_some rfl)
      · exact ok_ite_f (by omega) (ok_gd (by omega) (ok_ite_f h1 (ok_some rfl)))
    rw [e]
    exact ok_some rfl
theorem sumIn_b (h : Fa B) (j : Nat) (P : Nat → Int) (k : Int) : 0 ≤ sumIn B known j P k ∧ sumIn B known j P k ≤ 1386 := by
  have h14 := h.n14
  have q := si_nn (f := fun c => if P c = k then toldS B known c j else 0) (b := 99) (n := nK B) (fun c hc => by
    have := told_b h known hc j
    split <;> omega)
  unfold sumIn
  omega
theorem wtS_b (h : Fa B) (s : Nat) (P : Nat → Int) (k : Nat) : 0 ≤ wtS B known s P k ∧ wtS B known s P k ≤ 1386 := by
  have h14 := h.n14
  unfold wtS
  split
  · have := hn_b (B := B) (known := known) (2 * s) P k
    omega
  · exact sumIn_b h _ P k
theorem m_h51 (H : LR B known M) {s : Nat} (hs : s < nS B) (hsp : isSp B s) : f_X11_harmOf_l51 s M 1000000000 0 0 = some (minS (wtS B known s (planOf M)) (nC B), maxS (wtS B known s (planOf M)) (nC B), (nC B : Int)) := by
  have h14 := H.1.1.n14
  have h16 := H.1.1.s16
  have h3 := H.1.1.k23
  have hsp2 := hsp
  unfold isSp at hsp2
  unfold f_X11_harmOf_l51
  refine whl_n (nC B) (fun k => (minS (wtS B known s (planOf M)) k, maxS (wtS B known s (planOf M)) k, (k : Int))) (by omega) rfl (fun k hk => ok_to ?_) (ok_to ?_)
  · have wb := wtS_b (known := known) H.1.1 s (planOf M) k
    have hb := hn_b (B := B) (known := known) (2 * s) (planOf M) k
    have sb := sumIn_b (known := known) H.1.1 (B 99 s).toNat (planOf M) k
    -- behind the sum
    have tail : ∀ v : Int, v = wtS B known s (planOf M) k → Okk (f_X11_harmOf_j150k51 s (minS (wtS B known s (planOf M)) k) (maxS (wtS B known s (planOf M)) k) k v M) (fun o => o = .inl (minS (wtS B known s (planOf M)) (k + 1), maxS (wtS B known s (planOf M)) (k + 1), ((k + 1 : Nat) : Int))) := by
      intro v hv
      have e1 : minS (wtS B known s (planOf M)) (k + 1) = if wtS B known s (planOf M) k < minS (wtS B known s (planOf M)) k then wtS B known s (planOf M) k else minS (wtS B known s (planOf M)) k := rfl
      have e2 : maxS (wtS B known s (planOf M)) (k + 1) = if maxS (wtS B known s (planOf M)) k < wtS B known s (planOf M) k then wtS B known s (planOf M) k else maxS (wtS B known s (planOf M)) k := rfl
      rw [e1, e2, ← hv]
      clear e1 e2
      unfold f_X11_harmOf_j150k51 f_X11_harmOf_j162k51
      (try simp (disch := omega) only [wrap_of, toN, nA, n1, mr2, mr3, mr4, mr9, mr14, ml2, ml3, ml4, ml7, ml14, ml28])
      refine ok_ite (fun h => ?_) (fun h => ?_)
      · rw [if_neg (show ¬ v < minS (wtS B known s (planOf M)) k by omega)]
        refine ok_ite (fun h2 => ?_) (fun h2 => ?_)
        · rw [if_neg (show ¬ maxS (wtS B known s (planOf M)) k < v by omega)]; exact ok_lt (ok_some rfl)
        · rw [if_pos (show maxS (wtS B known s (planOf M)) k < v by omega)]; exact ok_lt (ok_some rfl)
      · rw [if_pos (show v < minS (wtS B known s (planOf M)) k by omega)]
        refine ok_ite (fun h2 => ?_) (fun h2 => ?_)
        · rw [if_neg (show ¬ maxS (wtS B known s (planOf M)) k < v by omega)]; exact ok_lt (ok_some rfl)
        · rw [if_pos (show maxS (wtS B known s (planOf M)) k < v by omega)]; exact ok_lt (ok_some rfl)
    unfold f_X11_harmOf_s51
    try dsimp only
    (try simp (disch := omega) only [wrap_of, toN, nA, n1, mr2, mr3, mr4, mr9, mr14, ml2, ml3, ml4, ml7, ml14, ml28, H.1.k, H.1.w])
    refine ok_ite_f (by omega) (ok_gd (by omega) ?_)
    refine ok_ite (fun h0 => ?_) (fun h0 => ?_)
    · refine ok_e (m2_holdIn H (row := 2 * s) (by omega) k) ?_
      unfold f_X11_harmOf_j82k51
      refine ok_obn (m_h87 H hs _ _ k _ (by omega)) (fun r hr => ?_)
      refine tail r.1 ?_
      rw [hr, if_neg (show ¬ B 97 s = 1 by omega), Int.add_zero]
      unfold wtS
      rw [if_pos h0]
    · unfold f_X11_harmOf_j82k51
      refine ok_obn (m_h87 H hs _ _ k 0 (by omega)) (fun r hr => ?_)
      refine tail r.1 ?_
      rw [hr, if_pos (show B 97 s = 1 by omega), Int.zero_add]
      unfold wtS
      rw [if_neg h0]
  · unfold f_X11_harmOf_s51
    try dsimp only
    (try simp (disch := omega) only [wrap_of, toN, nA, n1, mr2, mr3, mr4, mr9, mr14, ml2, ml3, ml4, ml7, ml14, ml28, H.1.k])
    exact ok_ite_t (by omega) (ok_some rfl)
theorem m_harmOf (H : LR B known M) (hP : PB B (planOf M)) {s : Nat} (hs : s < nS B) : f_X11_harmOf s M = some (harmOfS B known (planOf M) s) := by
  have h14 := H.1.1.n14
  have h16 := H.1.1.s16
  have h3 := H.1.1.k23
  have hkb := H.1.1.cf.kb hs
  have eM : M 97 s = B 97 s := H.1.w 97 s (by omega)
  have eM2 : M 98 s = B 98 s := H.1.w 98 s (by omega)
  apply ok_to
  unfold f_X11_harmOf
  rw [toN, eM]
  refine ok_gd (by omega) ?_
  unfold harmOfS
  have spread : isSp B s → Okk (obn (f_X11_harmOf_l51 s M 1000000000 0 0) fun v => f_X11_harmOf_j182 s v.1 v.2.1 M) (fun r => r = B 98 s * (maxS (wtS B known s (planOf M)) (nC B) - minS (wtS B known s (planOf M)) (nC B))) := by
    intro hsp
    have nb := H.1.1.cf.nb hs (by unfold isSp at hsp; omega) (by unfold isSp at hsp; omega)
    obtain ⟨m, hm, hm2⟩ := nC1 H.1.1
    have q := spr_b (f := wtS B known s (planOf M)) (b := 1386) (by omega) (by omega) (fun k => wtS_b H.1.1 s (planOf M) k) m
    rw [← hm] at q
    have mb := mul_b nb.1 nb.2 q.1 q.2
    refine ok_e (m_h51 H hs hsp) ?_
    unfold f_X11_harmOf_j182
    try dsimp only
    rw [toN, eM2, wrap_of (x := maxS (wtS B known s (planOf M)) (nC B) - minS (wtS B known s (planOf M)) (nC B)) (by omega) (by omega), wrap_of (by omega) (by omega)]
    exact ok_gd (by omega) (ok_some rfl)
  refine ok_ite (fun h => ?_) (fun h => ?_)
  · rw [if_neg (show ¬ (B 97 s = 0 ∨ B 97 s = 1) by omega), if_neg (show ¬ B 97 s = 2 by omega), if_neg (show ¬ B 97 s = 3 by omega), if_neg (show ¬ B 97 s = 4 by omega)]
    exact ok_some rfl
  refine ok_ite (fun h0 => ?_) (fun h0 => ?_)
  · rw [if_pos (show B 97 s = 0 ∨ B 97 s = 1 by omega)]
    exact spread (Or.inl h0)
  refine ok_ite (fun h1 => ?_) (fun h1 => ?_)
  · rw [if_pos (show B 97 s = 0 ∨ B 97 s = 1 by omega)]
    exact spread (Or.inr h1)
  rw [if_neg (show ¬ (B 97 s = 0 ∨ B 97 s = 1) by omega)]
  have nb : B 97 s = 2 ∨ B 97 s = 3 ∨ B 97 s = 4 → 0 ≤ B 98 s ∧ B 98 s ≤ 99 := fun z => H.1.1.cf.nb hs (by omega) (by omega)
  refine ok_ite (fun h2 => ?_) (fun h2 => ?_)
  · rw [if_pos h2]
    have nb := nb (by omega)
    have fb : ∀ c, c < nK B → 0 ≤ (if planOf M c ≠ -1 ∧ servedS B (planOf M) c = 3 then 1 + B 85 c else 0) ∧ (if planOf M c ≠ -1 ∧ servedS B (planOf M) c = 3 then 1 + B 85 c else 0) ≤ 100 := by
      intro c hc
      have := (H.1.1.c2 c (by omega)).1
      split <;> omega
    have q := si_nn (f := fun c => if planOf M c ≠ -1 ∧ servedS B (planOf M) c = 3 then 1 + B 85 c else 0) (b := 100) (n := nK B) fb
    have e : f_X11_harmOf_l196 s M 0 0 = some (fb_si (fun c => if planOf M c ≠ -1 ∧ servedS B (planOf M) c = 3 then 1 + B 85 c else 0) (nK B), (nK B : Int)) := by
      unfold f_X11_harmOf_l196
      refine whl_sum (by omega) (fun c => if planOf M c ≠ -1 ∧ servedS B (planOf M) c = 3 then 1 + B 85 c else 0) 100 1400 (by omega) (by omega) (fun c hc => by have := fb c hc; omega) (fun c hc v v0 v1 v2 v3 => ?_) (fun v => ?_)
      · unfold f_X11_harmOf_s196
        have ow := (H.1.1.c2 c (by omega)).1
        (try simp (disch := omega) only [wrap_of, toN, nA, n1, mr2, mr3, mr4, mr9, mr14, ml2, ml3, ml4, ml7, ml14, ml28, H.1.n, H.1.w])
        refine ok_ite_f (by omega) (ok_gd (by omega) ?_)
        refine ok_ite (fun h => ?_) (fun h => ?_)
        · rw [if_neg (fun z => z.1 h)]
          (repeat' (first | (with_reducible refine ok_ltw ?_ ?_; (· omega)) | (with_reducible refine ok_lt ?_) | (with_reducible refine ok_gd ?_ ?_; (· omega)) | (with_reducible refine ok_ite_t ?_ ?_; (· omega)) | (with_reducible refine ok_ite_f ?_ ?_; (· omega)) | (with_reducible refine ok_ite (fun _ => ?_) (fun _ => ?_)) | (with_reducible refine ok_some ?_)))
          all_goals rfl
        · refine ok_e (m_servedIn H.1 hc) ?_
          refine ok_ite (fun h5 => ok_gd (by omega) ?_) (fun h5 => ?_)
          · have z : planOf M c ≠ -1 ∧ servedS B (planOf M) c = 3 := ⟨h, by omega⟩
            rw [if_pos z] at v2 v3 ⊢
            (try simp (disch := omega) only [wrap_of, toN, nA, n1, mr2, mr3, mr4, mr9, mr14, ml2, ml3, ml4, ml7, ml14, ml28])
            (repeat' (first | (with_reducible refine ok_ltw ?_ ?_; (· omega)) | (with_reducible refine ok_lt ?_) | (with_reducible refine ok_gd ?_ ?_; (· omega)) | (with_reducible refine ok_ite_t ?_ ?_; (· omega)) | (with_reducible refine ok_ite_f ?_ ?_; (· omega)) | (with_reducible refine ok_ite (fun _ => ?_) (fun _ => ?_)) | (with_reducible refine ok_some ?_)))
            all_goals rfl
          · rw [if_neg (fun z => h5 (by rw [z.2]; rfl))]
            (repeat' (first | (with_reducible refine ok_ltw ?_ ?_; (· omega)) | (with_reducible refine ok_lt ?_) | (with_reducible refine ok_gd ?_ ?_; (· omega)) | (with_reducible refine ok_ite_t ?_ ?_; (· omega)) | (with_reducible refine ok_ite_f ?_ ?_; (· omega)) | (with_reducible refine ok_ite (fun _ => ?_) (fun _ => ?_)) | (with_reducible refine ok_some ?_)))
            all_goals rfl
      · unfold f_X11_harmOf_s196
        (try simp (disch := omega) only [wrap_of, toN, nA, n1, mr2, mr3, mr4, mr9, mr14, ml2, ml3, ml4, ml7, ml14, ml28, H.1.n])
        exact ok_ite_t (by omega) (ok_some rfl)
    refine ok_e e ?_
    unfold f_X11_harmOf_j250
    try dsimp only
    have mb := mul_b nb.1 nb.2 q.1 q.2
    rw [toN, eM2, wrap_of (by omega) (by omega)]
    exact ok_gd (by omega) (ok_some rfl)
  rw [if_neg h2]
  refine ok_ite (fun h3' => ?_) (fun h3' => ?_)
  · rw [if_pos h3']
    have nb := nb (by omega)
    have q := cnt_b (fun c => planOf M c ≠ -1 ∧ holdB B known (2 * s) c = true ∧ holdN B known (2 * s) (planOf M) (planOf M c) = 1) (nK B)
    have e : f_X11_harmOf_l263 s M 0 0 = some (cnt (fun c => planOf M c ≠ -1 ∧ holdB B known (2 * s) c = true ∧ holdN B known (2 * s) (planOf M) (planOf M c) = 1) (nK B), (nK B : Int)) := by
      unfold f_X11_harmOf_l263
      refine whl_cnt (by omega) (fun c => planOf M c ≠ -1 ∧ holdB B known (2 * s) c = true ∧ holdN B known (2 * s) (planOf M) (planOf M c) = 1) (fun c hc v v0 v1 => ?_) (fun v => ?_)
      · have hh := H.2.2 (2 * s) c (by omega) hc
        unfold f_X11_harmOf_s263
        (try simp (disch := omega) only [wrap_of, toN, nA, n1, mr2, mr3, mr4, mr9, mr14, ml2, ml3, ml4, ml7, ml14, ml28, H.1.n])
        rw [show 28 * s + c = 14 * (2 * s) + c by omega, hh]
        refine ok_ite_f (by omega) (ok_gd (by omega) ?_)
        refine ok_ite (fun h => ?_) (fun h => ok_gd (by omega) ?_)
        · rw [if_neg (fun z => z.1 h)]
          (repeat' (first | (with_reducible refine ok_ltw ?_ ?_; (· omega)) | (with_reducible refine ok_lt ?_) | (with_reducible refine ok_gd ?_ ?_; (· omega)) | (with_reducible refine ok_ite_t ?_ ?_; (· omega)) | (with_reducible refine ok_ite_f ?_ ?_; (· omega)) | (with_reducible refine ok_ite (fun _ => ?_) (fun _ => ?_)) | (with_reducible refine ok_some ?_)))
          all_goals rfl
        by_cases hB : holdB B known (2 * s) c = true
        · rw [if_pos hB]
          refine ok_ite_f (by decide) (ok_gd (by omega) (ok_e (m2_holdIn H (row := 2 * s) (by omega) _) ?_))
          refine ok_ite (fun h5 => ?_) (fun h5 => ?_)
          · rw [if_pos ⟨h, hB, h5⟩]
            (repeat' (first | (with_reducible refine ok_ltw ?_ ?_; (· omega)) | (with_reducible refine ok_lt ?_) | (with_reducible refine ok_gd ?_ ?_; (· omega)) | (with_reducible refine ok_ite_t ?_ ?_; (· omega)) | (with_reducible refine ok_ite_f ?_ ?_; (· omega)) | (with_reducible refine ok_ite (fun _ => ?_) (fun _ => ?_)) | (with_reducible refine ok_some ?_)))
            all_goals rfl
          · rw [if_neg (fun z => h5 z.2.2)]
            (repeat' (first | (with_reducible refine ok_ltw ?_ ?_; (· omega)) | (with_reducible refine ok_lt ?_) | (with_reducible refine ok_gd ?_ ?_; (· omega)) | (with_reducible refine ok_ite_t ?_ ?_; (· omega)) | (with_reducible refine ok_ite_f ?_ ?_; (· omega)) | (with_reducible refine ok_ite (fun _ => ?_) (fun _ => ?_)) | (with_reducible refine ok_some ?_)))
            all_goals rfl
        · rw [if_neg hB]
          refine ok_ite_t rfl ?_
          rw [if_neg (show ¬ (planOf M c ≠ -1 ∧ holdB B known (2 * s) c = true ∧ holdN B known (2 * s) (planOf M) (planOf M c) = 1) from fun z => hB z.2.1)]
          (repeat' (first | (with_reducible refine ok_ltw ?_ ?_; (· omega)) | (with_reducible refine ok_lt ?_) | (with_reducible refine ok_gd ?_ ?_; (· omega)) | (with_reducible refine ok_ite_t ?_ ?_; (· omega)) | (with_reducible refine ok_ite_f ?_ ?_; (· omega)) | (with_reducible refine ok_ite (fun _ => ?_) (fun _ => ?_)) | (with_reducible refine ok_some ?_)))
          all_goals rfl
      · unfold f_X11_harmOf_s263
        (try simp (disch := omega) only [wrap_of, toN, nA, n1, mr2, mr3, mr4, mr9, mr14, ml2, ml3, ml4, ml7, ml14, ml28, H.1.n])
        exact ok_ite_t (by omega) (ok_some rfl)
    refine ok_e e ?_
    unfold f_X11_harmOf_j332
    try dsimp only
    have mb := mul_b nb.1 nb.2 q.1 (show _ ≤ (14 : Int) by omega)
    rw [toN, eM2, wrap_of (by omega) (by omega)]
    exact ok_gd (by omega) (ok_some rfl)
  rw [if_neg h3']
  refine ok_ite (fun h4 => ?_) (fun h4 => absurd h4 (by omega))
  rw [if_pos h4]
  have nb := nb (by omega)
  have ib : ∀ a, a < nK B → ∀ m, m ≤ a → 0 ≤ fb_si (fun b => if planOf M a ≠ -1 ∧ planOf M a = planOf M b then B 87 (14 * a + b) else 0) m ∧ fb_si (fun b => if planOf M a ≠ -1 ∧ planOf M a = planOf M b then B 87 (14 * a + b) else 0) m ≤ m * 99 := by
    intro a ha m hm
    refine si_nn (fun b hb => ?_)
    have := (H.1.1.c4 a b (by omega) (by omega)).1
    split <;> omega
  have fb : ∀ a, a < nK B → 0 ≤ fb_si (fun b => if planOf M a ≠ -1 ∧ planOf M a = planOf M b then B 87 (14 * a + b) else 0) a ∧ fb_si (fun b => if planOf M a ≠ -1 ∧ planOf M a = planOf M b then B 87 (14 * a + b) else 0) a ≤ 1386 := by
    intro a ha
    have := ib a ha a (Nat.le_refl a)
    omega
  have q := si_nn (f := fun a => fb_si (fun b => if planOf M a ≠ -1 ∧ planOf M a = planOf M b then B 87 (14 * a + b) else 0) a) (b := 1386) (n := nK B) fb
  have e : f_X11_harmOf_l345 s M 0 0 = some (fb_si (fun a => fb_si (fun b => if planOf M a ≠ -1 ∧ planOf M a = planOf M b then B 87 (14 * a + b) else 0) a) (nK B), (nK B : Int)) := by
    unfold f_X11_harmOf_l345
    refine whl_sum (by omega) (fun a => fb_si (fun b => if planOf M a ≠ -1 ∧ planOf M a = planOf M b then B 87 (14 * a + b) else 0) a) 1386 20000 (by omega) (by omega) (fun c hc => by have := fb c hc; omega) (fun a ha v v0 v1 v2 v3 => ?_) (fun v => ?_)
    · have hl : f_X11_harmOf_l357 s a M v 0 = some (v + fb_si (fun b => if planOf M a ≠ -1 ∧ planOf M a = planOf M b then B 87 (14 * a + b) else 0) a, (a : Int)) := by
        unfold f_X11_harmOf_l357
        refine whl_from (by omega) v (fun b => if planOf M a ≠ -1 ∧ planOf M a = planOf M b then B 87 (14 * a + b) else 0) (fun b hb => ?_) (fun w => ?_)
        · have r := (H.1.1.c4 a b (by omega) (by omega)).1
          have i := ib a ha b (by omega)
          generalize fb_si (fun b => if planOf M a ≠ -1 ∧ planOf M a = planOf M b then B 87 (14 * a + b) else 0) b = u at i ⊢
          unfold f_X11_harmOf_s357
          (try simp (disch := omega) only [wrap_of, toN, nA, n1, mr2, mr3, mr4, mr9, mr14, ml2, ml3, ml4, ml7, ml14, ml28, H.1.w])
          refine ok_ite_f (by omega) (ok_gd (by omega) ?_)
          refine ok_ite (fun h => ?_) (fun h => ok_gd (by omega) (ok_gd (by omega) ?_))
          · rw [if_neg (fun z => z.1 h)]
            (repeat' (first | (with_reducible refine ok_ltw ?_ ?_; (· omega)) | (with_reducible refine ok_lt ?_) | (with_reducible refine ok_gd ?_ ?_; (· omega)) | (with_reducible refine ok_ite_t ?_ ?_; (· omega)) | (with_reducible refine ok_ite_f ?_ ?_; (· omega)) | (with_reducible refine ok_ite (fun _ => ?_) (fun _ => ?_)) | (with_reducible refine ok_some ?_)))
            all_goals rfl
          refine ok_ite (fun h5 => ok_gd (by omega) ?_) (fun h5 => ?_)
          · rw [if_pos ⟨h, h5⟩]
            (repeat' (first | (with_reducible refine ok_ltw ?_ ?_; (· omega)) | (with_reducible refine ok_lt ?_) | (with_reducible refine ok_gd ?_ ?_; (· omega)) | (with_reducible refine ok_ite_t ?_ ?_; (· omega)) | (with_reducible refine ok_ite_f ?_ ?_; (· omega)) | (with_reducible refine ok_ite (fun _ => ?_) (fun _ => ?_)) | (with_reducible refine ok_some ?_)))
            all_goals rfl
          · rw [if_neg (fun z => h5 z.2)]
            (repeat' (first | (with_reducible refine ok_ltw ?_ ?_; (· omega)) | (with_reducible refine ok_lt ?_) | (with_reducible refine ok_gd ?_ ?_; (· omega)) | (with_reducible refine ok_ite_t ?_ ?_; (· omega)) | (with_reducible refine ok_ite_f ?_ ?_; (· omega)) | (with_reducible refine ok_ite (fun _ => ?_) (fun _ => ?_)) | (with_reducible refine ok_some ?_)))
            all_goals rfl
        · unfold f_X11_harmOf_s357
          exact ok_ite_t (by omega) (ok_some rfl)
      unfold f_X11_harmOf_s345
      (try simp (disch := omega) only [wrap_of, toN, nA, n1, mr2, mr3, mr4, mr9, mr14, ml2, ml3, ml4, ml7, ml14, ml28, H.1.n])
      refine ok_ite_f (by omega) (ok_e hl ?_)
      unfold f_X11_harmOf_j420k345
      (try simp (disch := omega) only [wrap_of, toN, nA, n1, mr2, mr3, mr4, mr9, mr14, ml2, ml3, ml4, ml7, ml14, ml28])
      exact ok_lt (ok_some rfl)
    · unfold f_X11_harmOf_s345
      (try simp (disch := omega) only [wrap_of, toN, nA, n1, mr2, mr3, mr4, mr9, mr14, ml2, ml3, ml4, ml7, ml14, ml28, H.1.n])
      exact ok_ite_t (by omega) (ok_some rfl)
  refine ok_e e ?_
  unfold f_X11_harmOf_j426
  try dsimp only
  have mb := mul_b nb.1 nb.2 q.1 (show _ ≤ (19404 : Int) by omega)
  rw [toN, eM2, wrap_of (by omega) (by omega)]
  exact ok_gd (by omega) (ok_some rfl)
theorem harmOfS_b (h : Fa B) {P : Nat → Int} (hP : PB B P) {s : Nat} (hs : s < nS B) : 0 ≤ harmOfS B known P s ∧ harmOfS B known P s ≤ 5762988 := by
  rw [harmBy_pg h hP]
  exact harmBG_b h.cf known _ hs
theorem m_allHarm (H : LR B known M) (hP : PB B (planOf M)) : f_X11_allHarm M = some (harmS B known (planOf M)) := by
  have h16 := H.1.1.s16
  unfold f_X11_allHarm f_X11_allHarm_l4
  refine (obn_e _ (whl_sum (n := nS B) (by omega) (harmOfS B known (planOf M)) 6000000 96000000 (by omega) (by omega) (fun s hs => ?_) (fun s hs v h0 h1 h2 h3 => ?_) (fun v => ?_))).trans rfl
  · have := harmOfS_b (known := known) H.1.1 hP hs
    omega
  · unfold f_X11_allHarm_s4
    (try simp (disch := omega) only [wrap_of, toN, nA, n1, mr2, mr3, mr4, mr9, mr14, ml2, ml3, ml4, ml7, ml14, ml28, H.1.s])
    refine ok_ite_f (by omega) (ok_e (m_harmOf H hP hs) ?_)
    exact ok_ltw (by omega) (ok_lt (ok_some rfl))
  · unfold f_X11_allHarm_s4
    (try simp (disch := omega) only [wrap_of, toN, nA, n1, mr2, mr3, mr4, mr9, mr14, ml2, ml3, ml4, ml7, ml14, ml28, H.1.s])
    exact ok_ite_t (by omega) (ok_some rfl)
end MHARM
