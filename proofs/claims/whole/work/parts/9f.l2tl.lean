/-! rule: the model's TOKENS, and going on to the next one -/
section MLEX
variable {b : Nat → Int} {L : Nat} {N : Mem}
def TM (b : Nat → Int) (L : Nat) (N : Mem) : Prop := N 80 32 = (L : Int) ∧ L ≤ 400 ∧ ∀ i, i < L → band (N 105 i) 255 = b i ∧ 0 ≤ b i ∧ b i ≤ 255
theorem TM.fr {N' : Mem} (T : TM b L N) (h0 : N' 80 32 = N 80 32) (h : ∀ i, N' 105 i = N 105 i) : TM b L N' := ⟨h0.trans T.1, T.2.1, fun i hi => by rw [h i]; exact T.2.2 i hi⟩
def bt0 (b : Nat → Int) (L p : Nat) : Int := if p < L then b p else 0
theorem m_byteAt (T : TM b L N) (p : Nat) : f_X11_byteAt (p : Int) N = some (bt0 b L p) := by
  have h2 := T.2.1
  unfold f_X11_byteAt bt0
  rw [T.1]
  by_cases h : p < L
  · rw [if_neg (by omega), if_pos h, gd_pos _ (by omega), toN, (T.2.2 p h).1]
  · rw [if_pos (by omega), if_neg h]
theorem bt0_in {p : Nat} (h : p < L) : bt0 b L p = b p := if_pos h
theorem bt0_out {p : Nat} (h : L ≤ p) : bt0 b L p = 0 := if_neg (by omega)
theorem m_isSmall (x : Int) : f_X11_isSmall x N = some (b2i (isLt x)) := by
  unfold f_X11_isSmall
  by_cases h1 : x < 97
  · rw [if_pos h1, b2i_f (by omega)]
  · rw [if_neg h1]
    by_cases h2 : 122 < x
    · rw [if_pos h2, b2i_f (by omega)]
    · rw [if_neg h2, b2i_t (by omega)]
theorem m_isDigit (x : Int) : f_X11_isDigit x N = some (b2i (isDg x)) := by
  unfold f_X11_isDigit
  by_cases h1 : x < 48
  · rw [if_pos h1, b2i_f (by omega)]
  · rw [if_neg h1]
    by_cases h2 : 57 < x
    · rw [if_pos h2, b2i_f (by omega)]
    · rw [if_neg h2, b2i_t (by omega)]
def tkE (b : Nat → Int) (L f : Nat) : Int := if L ≤ f then 0 else if isLt (b f) then 1 else if isDg (b f) then (if dgE b L f ≤ f + 2 then 2 else 4) else if isSg (b f) then 3 else 4
/-- the model's TOKEN at hand -/
def ML (b : Nat → Int) (L f : Nat) (N : Mem) : Prop := f ≤ L ∧ N 80 35 = (f : Int) ∧ N 80 36 = (teE b L f : Int) ∧ N 80 38 = tkE b L f ∧ (tkE b L f = 2 → N 80 37 = nmE b L f)
def isMx (c i : Nat) : Prop := c = 80 ∧ 35 ≤ i ∧ i ≤ 38
theorem m_skip (T : TM b L N) {p : Nat} (hp : p ≤ L) (h35 : N 80 35 = (p : Int)) : Okk (f_X11_next_l8 N) (fun N' => (∀ c i, ¬ (c = 80 ∧ i = 35) → N' c i = N c i) ∧ N' 80 35 = (skp b L p : Int)) := by
  have hL := T.2.1
  unfold f_X11_next_l8
  refine ok_whl (L - p) (fun k N1 => (∀ c i, ¬ (c = 80 ∧ i = 35) → N1 c i = N c i) ∧ N1 80 35 = ((p + k : Nat) : Int) ∧ ∀ j, j < k → isBl (b (p + j))) (FU_big (by omega)) ⟨fun _ _ _ => rfl, h35, fun j hj => absurd hj (by omega)⟩ ?_
  rintro k N1 hk ⟨hf, h5, hj⟩
  have T1 : TM b L N1 := T.fr (hf 80 32 (by omega)) (fun i => hf 105 i (by omega))
  have stop : (p + k < L → ¬ isBl (b (p + k))) → (∀ c i, ¬ (c = 80 ∧ i = 35) → N1 c i = N c i) ∧ N1 80 35 = (skp b L p : Int) := fun hs => ⟨hf, by
    rw [h5, sk_eq (b := b) (L := L) (f := p) (e := p + k) (by omega) (by omega) (fun j a c => by have := hj (j - p) (by omega); rw [show p + (j - p) = j by omega] at this; exact this) hs]⟩
  have go : p + k < L → isBl (b (p + k)) → Okk (lt (mup N1 80 35 ((p + k + 1 : Nat) : Int)) fun M_2 => (some (.inl M_2) : Option (Mem ⊕ Mem))) (inS (fun s' => k < L - p ∧ (∀ c i, ¬ (c = 80 ∧ i = 35) → s' c i = N c i) ∧ s' 80 35 = ((p + (k + 1) : Nat) : Int) ∧ ∀ j, j < k + 1 → isBl (b (p + j))) (fun N' => (∀ c i, ¬ (c = 80 ∧ i = 35) → N' c i = N c i) ∧ N' 80 35 = (skp b L p : Int))) := fun hlt hb => by
    obtain ⟨N2, e2, f2, v2⟩ := mup_gen N1 80 35 ((p + k + 1 : Nat) : Int)
    refine ok_lt ?_
    rw [e2]
    refine ok_some ⟨by omega, fun c i q => by rw [f2 c i q]; exact hf c i q, by rw [v2]; omega, fun j hj' => ?_⟩
    by_cases e : j = k
    · rw [e]; exact hb
    · exact hj j (by omega)
  unfold f_X11_next_s8
  rw [h5, wrap_n1 (by omega)]
  refine ok_e (m_byteAt T1 _) ?_
  by_cases hlt : p + k < L
  · rw [bt0_in hlt]
    refine ok_ite (fun h => go hlt (Or.inl h)) (fun h => ok_e (m_byteAt T1 _) ?_)
    rw [bt0_in hlt]
    refine ok_ite (fun h' => go hlt (Or.inr h')) (fun h' => ok_some (stop (fun _ q => by rcases q with q | q <;> contradiction)))
  · rw [bt0_out (by omega)]
    refine ok_ite_f (by omega) (ok_e (m_byteAt T1 _) ?_)
    rw [bt0_out (by omega)]
    exact ok_ite_f (by omega) (ok_some (stop (fun z => absurd z hlt)))
theorem m_letters (T : TM b L N) {p : Nat} (hp : p ≤ L) (h36 : N 80 36 = (p : Int)) : Okk (f_X11_next_l90 N) (fun N' => (∀ c i, ¬ (c = 80 ∧ i = 36) → N' c i = N c i) ∧ N' 80 36 = (ltE b L p : Int)) := by
  have hL := T.2.1
  unfold f_X11_next_l90
  refine ok_whl (L - p) (fun k N1 => (∀ c i, ¬ (c = 80 ∧ i = 36) → N1 c i = N c i) ∧ N1 80 36 = ((p + k : Nat) : Int) ∧ ∀ j, j < k → isLt (b (p + j))) (FU_big (by omega)) ⟨fun _ _ _ => rfl, h36, fun j hj => absurd hj (by omega)⟩ ?_
  rintro k N1 hk ⟨hf, h5, hj⟩
  have T1 : TM b L N1 := T.fr (hf 80 32 (by omega)) (fun i => hf 105 i (by omega))
  have stop : (p + k < L → ¬ isLt (b (p + k))) → (∀ c i, ¬ (c = 80 ∧ i = 36) → N1 c i = N c i) ∧ N1 80 36 = (ltE b L p : Int) := fun hs => ⟨hf, by
    rw [h5, lt_eq (b := b) (L := L) (f := p) (e := p + k) (by omega) (by omega) (fun j a c => by have := hj (j - p) (by omega); rw [show p + (j - p) = j by omega] at this; exact this) hs]⟩
  unfold f_X11_next_s90
  rw [h5, wrap_n1 (by omega)]
  refine ok_e (m_byteAt T1 _) ?_
  by_cases hlt : p + k < L
  · rw [bt0_in hlt]
    refine ok_b (m_isSmall _) (fun h => ok_ite_f (by decide) ?_) (fun h => ok_ite_t rfl (ok_some (stop (fun _ => h))))
    obtain ⟨N2, e2, f2, v2⟩ := mup_gen N1 80 36 ((p + k + 1 : Nat) : Int)
    refine ok_lt ?_
    rw [e2]
    refine ok_some ⟨by omega, fun c i q => by rw [f2 c i q]; exact hf c i q, by rw [v2]; omega, fun j hj' => ?_⟩
    by_cases e : j = k
    · rw [e]; exact h
    · exact hj j (by omega)
  · rw [bt0_out (by omega)]
    exact ok_b (m_isSmall _) (fun h => absurd h (by omega)) (fun h => ok_ite_t rfl (ok_some (stop (fun z => absurd z hlt))))
theorem m_digits (T : TM b L N) {p : Nat} (hp : p ≤ L) (h35 : N 80 35 = (p : Int)) (h36 : N 80 36 = (p : Int)) (h37 : N 80 37 = 0) (hd : p < L ∧ isDg (b p)) : Okk (f_X11_next_l137 N) (fun N' => (∀ c i, ¬ (c = 80 ∧ (i = 36 ∨ i = 37)) → N' c i = N c i) ∧ N' 80 36 = (dgE b L p : Int) ∧ N' 80 37 = nvE b p (dgE b L p)) := by
  have hL := T.2.1
  unfold f_X11_next_l137
  refine ok_whl (L - p) (fun k N1 => (∀ c i, ¬ (c = 80 ∧ (i = 36 ∨ i = 37)) → N1 c i = N c i) ∧ N1 80 36 = ((p + k : Nat) : Int) ∧ N1 80 37 = nvk b p k ∧ ∀ j, j < k → isDg (b (p + j))) (FU_big (by omega)) ⟨fun _ _ _ => rfl, h36, h37, fun j hj => absurd hj (by omega)⟩ ?_
  rintro k N1 hk ⟨hf, h5, h7, hj⟩
  have T1 : TM b L N1 := T.fr (hf 80 32 (by omega)) (fun i => hf 105 i (by omega))
  have vb := nvk_b hj
  have stop : (p + k < L → ¬ isDg (b (p + k))) → (∀ c i, ¬ (c = 80 ∧ (i = 36 ∨ i = 37)) → N1 c i = N c i) ∧ N1 80 36 = (dgE b L p : Int) ∧ N1 80 37 = nvE b p (dgE b L p) := fun hs => by
    have e := dg_eq (b := b) (L := L) (f := p) (e := p + k) (by omega) (by omega) (fun j a c => by have := hj (j - p) (by omega); rw [show p + (j - p) = j by omega] at this; exact this) hs
    have k0 : 0 < k := by
      apply Classical.byContradiction
      intro z
      have : k = 0 := by omega
      subst this
      exact hs hd.1 hd.2
    refine ⟨hf, by rw [h5, e], ?_⟩
    rw [e, h7, ← nvk_e (by omega), show p + k - p = k by omega]
  unfold f_X11_next_s137
  rw [h5, hf 80 35 (by omega), h35]
  refine ok_e (m_byteAt T1 _) ?_
  by_cases hlt : p + k < L
  · rw [bt0_in hlt]
    refine ok_b (m_isDigit _) (fun h => ok_ite_f (by decide) ?_) (fun h => ok_ite_t rfl (ok_some (stop (fun _ => h))))
    have nj : ∀ j, j < k + 1 → isDg (b (p + j)) := fun j hj' => by
      by_cases e : j = k
      · rw [e]; exact h
      · exact hj j (by omega)
    rw [wrap_of (x := ((p + k : Nat) : Int) - (p : Int)) (by omega) (by omega), wrap_n1 (by omega)]
    refine ok_ite (fun h2 => ?_) (fun h2 => ?_)
    · obtain ⟨N2, e2, f2, v2⟩ := mup_gen N1 80 36 ((p + k + 1 : Nat) : Int)
      refine ok_lt ?_
      rw [e2]
      refine ok_some ⟨by omega, fun c i q => by rw [f2 c i (by omega)]; exact hf c i q, by rw [v2]; omega, ?_, nj⟩
      rw [f2 80 37 (by omega), h7]
      obtain ⟨k2, rfl⟩ : ∃ k2, k = k2 + 2 := ⟨k - 2, by omega⟩
      rfl
    · refine ok_e (m_byteAt T1 _) ?_
      rw [bt0_in hlt, h7]
      have e10 : wrap (wrap (wrap (10 * nvk b p k) + b (p + k)) - 48) = nvk b p (k + 1) := by
        rw [wrap_of (x := 10 * nvk b p k) (by omega) (by omega), wrap_of (x := 10 * nvk b p k + b (p + k)) (by omega) (by omega), wrap_of (by omega) (by omega)]
        by_cases e0 : k = 0
        · subst e0; show 10 * (0 : Int) + b (p + 0) - 48 = b p - 48; rw [Nat.add_zero]; omega
        · have e1 : k = 1 := by omega
          subst e1
          show 10 * (b p - 48) + b (p + 1) - 48 = 10 * (b p - 48) + (b (p + 1) - 48)
          omega
      rw [e10]
      obtain ⟨N2, e2, f2, v2⟩ := mup_gen N1 80 37 (nvk b p (k + 1))
      refine ok_lt ?_
      rw [e2, f2 80 36 (by omega), h5, wrap_n1 (by omega)]
      obtain ⟨N3, e3, f3, v3⟩ := mup_gen N2 80 36 ((p + k + 1 : Nat) : Int)
      refine ok_lt ?_
      rw [e3]
      exact ok_some ⟨by omega, fun c i q => by rw [f3 c i (by omega), f2 c i (by omega)]; exact hf c i q, by rw [v3]; omega, by rw [f3 80 37 (by omega)]; exact v2, nj⟩
  · rw [bt0_out (by omega)]
    exact ok_b (m_isDigit _) (fun h => absurd h (by omega)) (fun h => ok_ite_t rfl (ok_some (stop (fun z => absurd z hlt))))
theorem m_next (T : TM b L N) {p : Nat} (hp : p ≤ L) (h36 : N 80 36 = (p : Int)) : Okk (f_X11_next N) (fun N' => (∀ c i, ¬ isMx c i → N' c i = N c i) ∧ ML b L (skp b L p) N') := by
  have hL := T.2.1
  unfold f_X11_next
  rw [h36]
  obtain ⟨N1, e1, f1, v1⟩ := mup_gen N 80 35 (p : Int)
  refine ok_lt ?_
  rw [e1]
  have T1 : TM b L N1 := T.fr (f1 80 32 (by omega)) (fun i => f1 105 i (by omega))
  refine ok_obn (m_skip T1 hp v1) (fun N2 hN2 => ?_)
  obtain ⟨f2, v2⟩ := hN2
  have sp := sk_sp b hp
  generalize hff : skp b L p = f at v2 sp
  have T2 : TM b L N2 := T1.fr (f2 80 32 (by omega)) (fun i => f2 105 i (by omega))
  unfold f_X11_next_j47
  rw [v2]
  obtain ⟨N3, e3, f3, v3⟩ := mup_gen N2 80 36 (f : Int)
  refine ok_lt ?_
  rw [e3]
  have T3 : TM b L N3 := T2.fr (f3 80 32 (by omega)) (fun i => f3 105 i (by omega))
  have h35 : N3 80 35 = (f : Int) := by rw [f3 80 35 (by omega)]; exact v2
  have fr3 : ∀ c i, ¬ isMx c i → N3 c i = N c i := fun c i q => by unfold isMx at q; rw [f3 c i (by omega), f2 c i (by omega), f1 c i (by omega)]
  rw [h35, T3.1]
  refine ok_e (m_byteAt T3 _) ?_
  refine ok_ite (fun hlt => ?_) (fun hlt => ?_)
  · have hfL : f < L := by omega
    rw [bt0_in hfL]
    refine ok_b (m_isSmall _) (fun hl => ?_) (fun hl => ?_)
    · refine ok_ite_f (by decide) (ok_obn (m_letters T3 (p := f) (by omega) v3) (fun N4 hN4 => ?_))
      obtain ⟨f4, v4⟩ := hN4
      unfold f_X11_next_j117
      obtain ⟨N5, e5, f5, v5⟩ := mup_gen N4 80 38 1
      refine ok_lt ?_
      rw [e5]
      have ete : teE b L f = ltE b L f := by unfold teE; rw [if_neg (by omega), if_pos hl]
      have etk : tkE b L f = 1 := by unfold tkE; rw [if_neg (by omega), if_pos hl]
      exact ok_some ⟨fun c i q => by have q2 := q; unfold isMx at q2; rw [f5 c i (by omega), f4 c i (by omega)]; exact fr3 c i q, by omega, by rw [f5 80 35 (by omega), f4 80 35 (by omega)]; exact h35, by rw [f5 80 36 (by omega), v4, ete], by rw [v5, etk], fun z => by rw [etk] at z; omega⟩
    · refine ok_ite_t rfl (ok_b (m_isDigit _) (fun hd => ?_) (fun hd => ?_))
      · refine ok_ite_f (by decide) ?_
        obtain ⟨N4, e4, f4, v4⟩ := mup_gen N3 80 37 0
        refine ok_lt ?_
        rw [e4]
        have T4 : TM b L N4 := T3.fr (f4 80 32 (by omega)) (fun i => f4 105 i (by omega))
        refine ok_obn (m_digits T4 (p := f) (by omega) (by rw [f4 80 35 (by omega)]; exact h35) (by rw [f4 80 36 (by omega)]; exact v3) v4 ⟨hfL, hd⟩) (fun N5 hN5 => ?_)
        obtain ⟨f5, v5, w5⟩ := hN5
        have dsp := dg_sp b (L := L) (f := f) (by omega)
        have h355 : N5 80 35 = (f : Int) := by rw [f5 80 35 (by omega), f4 80 35 (by omega)]; exact h35
        have ete : teE b L f = dgE b L f := by unfold teE; rw [if_neg (by omega), if_neg hl, if_pos hd]
        have etk : tkE b L f = if dgE b L f ≤ f + 2 then 2 else 4 := by unfold tkE; rw [if_neg (by omega), if_neg hl, if_pos hd]
        have enm : nmE b L f = nvE b f (dgE b L f) := by unfold nmE; rw [if_pos ⟨hfL, hl, hd⟩]
        unfold f_X11_next_j200
        rw [v5, h355, wrap_of (x := (dgE b L f : Int) - (f : Int)) (by omega) (by omega)]
        have fin : ∀ x : Int, x = tkE b L f → Okk (lt (mup N5 80 38 x) fun M_2 => (some M_2 : Option Mem)) (fun N' => (∀ c i, ¬ isMx c i → N' c i = N c i) ∧ ML b L f N') := fun x hx => by
          obtain ⟨N6, e6, f6, v6⟩ := mup_gen N5 80 38 x
          refine ok_lt ?_
          rw [e6]
          exact ok_some ⟨fun c i q => by have q2 := q; unfold isMx at q2; rw [f6 c i (by omega), f5 c i (by omega), f4 c i (by omega)]; exact fr3 c i q, by omega, by rw [f6 80 35 (by omega)]; exact h355, by rw [f6 80 36 (by omega), v5, ete], by rw [v6, hx], fun _ => by rw [f6 80 37 (by omega), w5, enm]⟩
        exact ok_ite (fun z => fin 2 (by rw [etk, if_pos (by omega)])) (fun z => fin 4 (by rw [etk, if_neg (by omega)]))
      · refine ok_ite_t rfl ?_
        rw [v3, wrap_n1 (by omega)]
        obtain ⟨N4, e4, f4, v4⟩ := mup_gen N3 80 36 ((f + 1 : Nat) : Int)
        refine ok_lt ?_
        rw [e4]
        have ete : teE b L f = f + 1 := by unfold teE; rw [if_neg (by omega), if_neg hl, if_neg hd]
        have etk : tkE b L f = if isSg (b f) then 3 else 4 := by unfold tkE; rw [if_neg (by omega), if_neg hl, if_neg hd]
        have fin : ∀ x : Int, x = tkE b L f → x ≠ 2 → Okk (lt (mup N4 80 38 x) fun M_2 => (some M_2 : Option Mem)) (fun N' => (∀ c i, ¬ isMx c i → N' c i = N c i) ∧ ML b L f N') := fun x hx hx2 => by
          obtain ⟨N6, e6, f6, v6⟩ := mup_gen N4 80 38 x
          refine ok_lt ?_
          rw [e6]
          exact ok_some ⟨fun c i q => by have q2 := q; unfold isMx at q2; rw [f6 c i (by omega), f4 c i (by omega)]; exact fr3 c i q, by omega, by rw [f6 80 35 (by omega), f4 80 35 (by omega)]; exact h35, by rw [f6 80 36 (by omega), v4, ete], by rw [v6, hx], fun z => absurd (hx.trans z) hx2⟩
        have yes : isSg (b f) → (3 : Int) = tkE b L f := fun z => by rw [etk, if_pos z]
        have nope : ¬ isSg (b f) → (4 : Int) = tkE b L f := fun z => by rw [etk, if_neg z]
        exact ok_ite (fun q => fin 3 (yes (by omega)) (by omega)) (fun q1 => ok_ite (fun q => fin 3 (yes (by omega)) (by omega)) (fun q2 => ok_ite (fun q => fin 3 (yes (by omega)) (by omega)) (fun q3 => ok_ite (fun q => fin 3 (yes (by omega)) (by omega)) (fun q4 => ok_ite (fun q => fin 3 (yes (by omega)) (by omega)) (fun q5 => fin 4 (nope (by omega)) (by omega))))))
  · have e : f = L := by omega
    obtain ⟨N4, e4, f4, v4⟩ := mup_gen N3 80 38 0
    refine ok_lt ?_
    rw [e4]
    have ete : teE b L f = f := by unfold teE; rw [if_pos (by omega)]
    have etk : tkE b L f = 0 := by unfold tkE; rw [if_pos (by omega)]
    exact ok_some ⟨fun c i q => by have q2 := q; unfold isMx at q2; rw [f4 c i (by omega)]; exact fr3 c i q, by omega, by rw [f4 80 35 (by omega)]; exact h35, by rw [f4 80 36 (by omega), v3, ete], by rw [v4, etk], fun z => by rw [etk] at z; omega⟩
end MLEX
