/-! day: the book of seats -/
abbrev Bk : Type := Nat × (Nat → Int) × (Nat → Int) × (Nat → Int) × (Nat → Int)
abbrev Bk.n (s : Bk) : Nat := s.1
abbrev Bk.a (s : Bk) : Nat → Int := s.2.1
abbrev Bk.b (s : Bk) : Nat → Int := s.2.2.1
abbrev Bk.d (s : Bk) : Nat → Int := s.2.2.2.1
abbrev Bk.e (s : Bk) : Nat → Int := s.2.2.2.2
def bkS (W : Nat → Int) (dy : Int) (k : Nat) (s : Bk) : Bk :=
  if W k = s.e k ∨ s.n = 400 then s else
    ⟨s.n + 1, fun i => if i = s.n then (k : Int) else s.a i, fun i => if i = s.n then W k else s.b i, fun i => if i = s.n then dy else s.d i, fun i => if i = k then W k else s.e i⟩
def bkI (W : Nat → Int) (dy : Int) (s : Bk) : Nat → Bk
  | 0 => s
  | k + 1 => bkS W dy k (bkI W dy s k)
theorem bkS_n {W : Nat → Int} {dy : Int} {k : Nat} {s : Bk} (h : s.n ≤ 400) : (bkS W dy k s).n ≤ 400 := by
  unfold bkS
  by_cases z : W k = s.e k ∨ s.n = 400
  · rw [if_pos z]; exact h
  · rw [if_neg z]
    show s.n + 1 ≤ 400
    have : ¬ s.n = 400 := fun y => z (Or.inr y)
    omega
theorem bkI_n {W : Nat → Int} {dy : Int} {s : Bk} (h : s.n ≤ 400) (k : Nat) : (bkI W dy s k).n ≤ 400 := by
  induction k with
  | zero => exact h
  | succ k ih => exact bkS_n ih
theorem bkI_stop {W : Nat → Int} {dy : Int} {s : Bk} {k : Nat} (h : (bkI W dy s k).n = 400) (j : Nat) : bkI W dy s (k + j) = bkI W dy s k := by
  induction j with
  | zero => rfl
  | succ j ih =>
    show bkS W dy (k + j) (bkI W dy s (k + j)) = _
    rw [ih]
    unfold bkS
    rw [if_pos (Or.inr h)]
def bkC (M : Mem) (s : Bk) : Prop := M 57 0 = (s.n : Int) ∧ (∀ i, M 58 i = s.a i) ∧ (∀ i, M 59 i = s.b i) ∧ (∀ i, M 60 i = s.d i) ∧ ∀ i, M 61 i = s.e i
def bkM (M : Mem) (s : Bk) : Prop := M 80 56 = (s.n : Int) ∧ (∀ i, M 116 i = s.a i) ∧ (∀ i, M 118 i = s.b i) ∧ (∀ i, M 117 i = s.d i) ∧ ∀ i, M 119 i = s.e i
def frKC (c i : Nat) : Prop := (c = 57 ∧ i = 0) ∨ (58 ≤ c ∧ c ≤ 61)
def frKM (c i : Nat) : Prop := (c = 80 ∧ i = 56) ∨ (116 ≤ c ∧ c ≤ 119)
theorem c_write {B : Mem} {s : Bk} (W : Nat → Int) (n : Nat) (dy : Int) (hn : n ≤ 14) (h1 : ∀ i, B 1 i = W i) (hs : bkC B s) (hb : s.n ≤ 400) : Okk (f_X0_write 1 (n : Int) dy B) (fun M' => (∀ c i, ¬ frKC c i → M' c i = B c i) ∧ bkC M' (bkI W dy s n)) := by
  have ha : aln 1 = 14 := by decide +kernel
  unfold f_X0_write
  refine ok_obn (P := fun q : Int × Mem => (∀ c i, ¬ frKC c i → q.2 c i = B c i) ∧ bkC q.2 (bkI W dy s n)) ?_ (fun q hq => ok_some hq)
  unfold f_X0_write_l3
  refine ok_whl n (fun k (q : Int × Mem) => q.1 = (k : Int) ∧ (∀ c i, ¬ frKC c i → q.2 c i = B c i) ∧ bkC q.2 (bkI W dy s k)) (FU_big (by omega)) ⟨rfl, fun _ _ _ => rfl, hs⟩ ?_
  rintro k ⟨v, M⟩ hk ⟨rfl, hf, hK⟩
  dsimp only at hf hK ⊢
  have hbk := bkI_n (W := W) (dy := dy) hb k
  have hlast : (bkI W dy s k).n = 400 → bkI W dy s n = bkI W dy s k := fun h => by
    have := bkI_stop h (n - k)
    rwa [show k + (n - k) = n by omega] at this
  have es : bkI W dy s (k + 1) = bkS W dy k (bkI W dy s k) := rfl
  generalize hS : bkI W dy s k = S at hK hbk hlast es
  obtain ⟨k1, k2, k3, k4, k5⟩ := hK
  unfold f_X0_write_s3
  refine ok_ite (fun h => ?_) (fun h => ?_)
  · have e : k = n := by omega
    subst e
    rw [hS]
    exact ok_some ⟨hf, k1, k2, k3, k4, k5⟩
  have hkn : k < n := by omega
  rw [k1]
  refine ok_ite (fun h4 => ok_some ?_) (fun h4 => ok_gd (by rw [ha]; omega) (ok_gd (by omega) ?_))
  · rw [hlast (by omega)]
    exact ⟨hf, k1, k2, k3, k4, k5⟩
  rw [toN, hf 1 k (by unfold frKC; omega), h1 k, k5 k]
  refine ok_ite (fun h5 => ?_) (fun h5 => ?_)
  · rw [wrap_n1 (by omega)]
    refine ok_lt (ok_some ⟨hkn, rfl, hf, ?_⟩)
    rw [es]
    unfold bkS
    rw [if_pos (Or.inl h5)]
    exact ⟨k1, k2, k3, k4, k5⟩
  · obtain ⟨M2, e2, f2, v2⟩ := mup_gen M 58 S.n (k : Int)
    have z2 : M2 57 0 = (S.n : Int) := by rw [f2 _ _ (by omega)]; exact k1
    obtain ⟨M3, e3, f3, v3⟩ := mup_gen M2 59 S.n (W k)
    have z3 : M3 57 0 = (S.n : Int) := by rw [f3 _ _ (by omega)]; exact z2
    obtain ⟨M4, e4, f4, v4⟩ := mup_gen M3 60 S.n dy
    have z4 : M4 57 0 = (S.n : Int) := by rw [f4 _ _ (by omega)]; exact z3
    obtain ⟨M5, e5, f5, v5⟩ := mup_gen M4 61 k (W k)
    have z5 : M5 57 0 = (S.n : Int) := by rw [f5 _ _ (by omega)]; exact z4
    obtain ⟨M6, e6, f6, v6⟩ := mup_gen M5 57 0 ((S.n + 1 : Nat) : Int)
    have w1 : M 1 k = W k := by rw [hf 1 k (by unfold frKC; omega)]; exact h1 k
    have w2 : M2 1 k = W k := by rw [f2 _ _ (by omega)]; exact w1
    have w4 : M4 1 k = W k := by rw [f4 _ _ (by omega), f3 _ _ (by omega)]; exact w2
    rw [toN]
    refine ok_gd (by omega) (ok_lt ?_)
    rw [e2, z2, toN, w2]
    refine ok_gd (by rw [ha]; omega) (ok_gd (by omega) (ok_lt ?_))
    rw [e3, z3, toN]
    refine ok_gd (by omega) (ok_lt ?_)
    rw [e4, w4]
    refine ok_gd (by rw [ha]; omega) (ok_gd (by omega) (ok_lt ?_))
    rw [e5, z5, wrap_n1 (by omega), wrap_n1 (by omega)]
    refine ok_lt ?_
    rw [e6]
    have nz : ¬ (W k = S.e k ∨ S.n = 400) := by omega
    refine ok_lt (ok_some ⟨hkn, rfl, fun c i q => ?_, ?_⟩)
    · try dsimp only
      unfold frKC at q
      rw [f6 _ _ (by omega), f5 _ _ (by omega), f4 _ _ (by omega), f3 _ _ (by omega), f2 _ _ (by omega)]
      exact hf c i (by unfold frKC; omega)
    · rw [es]
      unfold bkS
      rw [if_neg nz]
      clear e2 e3 e4 e5 e6
      refine ⟨v6, fun i => ?_, fun i => ?_, fun i => ?_, fun i => ?_⟩
      · show M6 58 i = if i = S.n then (k : Int) else S.a i
        rw [f6 _ _ (by omega), f5 _ _ (by omega), f4 _ _ (by omega), f3 _ _ (by omega)]
        by_cases z : i = S.n
        · subst z; rw [if_pos rfl]; exact v2
        · rw [if_neg z, f2 _ _ (by omega)]; exact k2 i
      · show M6 59 i = if i = S.n then W k else S.b i
        rw [f6 _ _ (by omega), f5 _ _ (by omega), f4 _ _ (by omega)]
        by_cases z : i = S.n
        · subst z; rw [if_pos rfl]; exact v3
        · rw [if_neg z, f3 _ _ (by omega), f2 _ _ (by omega)]; exact k3 i
      · show M6 60 i = if i = S.n then dy else S.d i
        rw [f6 _ _ (by omega), f5 _ _ (by omega)]
        by_cases z : i = S.n
        · subst z; rw [if_pos rfl]; exact v4
        · rw [if_neg z, f4 _ _ (by omega), f3 _ _ (by omega), f2 _ _ (by omega)]; exact k4 i
      · show M6 61 i = if i = k then W k else S.e i
        rw [f6 _ _ (by omega)]
        by_cases z : i = k
        · subst z; rw [if_pos rfl]; exact v5
        · rw [if_neg z, f5 _ _ (by omega), f4 _ _ (by omega), f3 _ _ (by omega), f2 _ _ (by omega)]; exact k5 i
theorem m_write {B : Mem} {s : Bk} (W : Nat → Int) (n : Nat) (dy p : Int) (hp : 0 < p) (hn : n ≤ 14) (e1 : B 80 1 = (n : Int)) (e14 : B 80 14 = dy) (h1 : ∀ i, B 110 i = W i) (hs : bkM B s) (hb : s.n ≤ 400) : Okk (f_X11_day_l32 p 0 B) (fun q => (∀ c i, ¬ frKM c i → q.2 c i = B c i) ∧ bkM q.2 (bkI W dy s n)) := by
  unfold f_X11_day_l32
  refine ok_whl n (fun k (q : Int × Mem) => q.1 = (k : Int) ∧ (∀ c i, ¬ frKM c i → q.2 c i = B c i) ∧ bkM q.2 (bkI W dy s k)) (FU_big (by omega)) ⟨rfl, fun _ _ _ => rfl, hs⟩ ?_
  rintro k ⟨v, M⟩ hk ⟨rfl, hf, hK⟩
  dsimp only at hf hK ⊢
  have hbk := bkI_n (W := W) (dy := dy) hb k
  have es : bkI W dy s (k + 1) = bkS W dy k (bkI W dy s k) := rfl
  generalize hS : bkI W dy s k = S at hK hbk es
  obtain ⟨k1, k2, k3, k4, k5⟩ := hK
  unfold f_X11_day_s32
  rw [hf 80 1 (by unfold frKM; omega), e1]
  refine ok_ite (fun h => ?_) (fun h => ?_)
  · have e : k = n := by omega
    subst e
    rw [hS]
    exact ok_some ⟨hf, k1, k2, k3, k4, k5⟩
  have hkn : k < n := by omega
  refine ok_ite_f (by omega) (ok_gd (by omega) (ok_gd (by omega) ?_))
  rw [toN, hf 110 k (by unfold frKM; omega), h1 k, k5 k]
  refine ok_ite (fun h5 => ?_) (fun h5 => ?_)
  · rw [wrap_n1 (by omega)]
    refine ok_lt (ok_some ⟨hkn, rfl, hf, ?_⟩)
    rw [es]
    unfold bkS
    rw [if_pos (Or.inl h5)]
    exact ⟨k1, k2, k3, k4, k5⟩
  rw [k1]
  refine ok_ite (fun h4 => ?_) (fun h4 => ?_)
  · rw [wrap_n1 (by omega)]
    refine ok_lt (ok_some ⟨hkn, rfl, hf, ?_⟩)
    rw [es]
    unfold bkS
    rw [if_pos (Or.inr (by omega))]
    exact ⟨k1, k2, k3, k4, k5⟩
  · obtain ⟨M2, e2, f2, v2⟩ := mup_gen M 116 S.n (k : Int)
    have z2 : M2 80 56 = (S.n : Int) := by rw [f2 _ _ (by omega)]; exact k1
    obtain ⟨M3, e3, f3, v3⟩ := mup_gen M2 117 S.n dy
    have z3 : M3 80 56 = (S.n : Int) := by rw [f3 _ _ (by omega)]; exact z2
    obtain ⟨M4, e4, f4, v4⟩ := mup_gen M3 118 S.n (W k)
    have z4 : M4 80 56 = (S.n : Int) := by rw [f4 _ _ (by omega)]; exact z3
    obtain ⟨M5, e5, f5, v5⟩ := mup_gen M4 119 k (W k)
    have z5 : M5 80 56 = (S.n : Int) := by rw [f5 _ _ (by omega)]; exact z4
    obtain ⟨M6, e6, f6, v6⟩ := mup_gen M5 80 56 ((S.n + 1 : Nat) : Int)
    have w1 : M 110 k = W k := by rw [hf 110 k (by unfold frKM; omega)]; exact h1 k
    have w3 : M3 110 k = W k := by rw [f3 _ _ (by omega), f2 _ _ (by omega)]; exact w1
    have w4 : M4 110 k = W k := by rw [f4 _ _ (by omega)]; exact w3
    have d2 : M2 80 14 = dy := by rw [f2 _ _ (by omega), hf 80 14 (by unfold frKM; omega)]; exact e14
    rw [toN]
    refine ok_gd (by omega) (ok_lt ?_)
    rw [e2, z2, toN, d2]
    refine ok_gd (by omega) (ok_lt ?_)
    rw [e3, z3, toN, w3]
    refine ok_gd (by omega) (ok_gd (by omega) (ok_lt ?_))
    rw [e4, w4]
    refine ok_gd (by omega) (ok_gd (by omega) (ok_lt ?_))
    rw [e5, z5, wrap_n1 (by omega), wrap_n1 (by omega)]
    refine ok_lt ?_
    rw [e6]
    have nz : ¬ (W k = S.e k ∨ S.n = 400) := by omega
    refine ok_lt (ok_some ⟨hkn, rfl, fun c i q => ?_, ?_⟩)
    · try dsimp only
      unfold frKM at q
      rw [f6 _ _ (by omega), f5 _ _ (by omega), f4 _ _ (by omega), f3 _ _ (by omega), f2 _ _ (by omega)]
      exact hf c i (by unfold frKM; omega)
    · rw [es]
      unfold bkS
      rw [if_neg nz]
      clear e2 e3 e4 e5 e6
      refine ⟨v6, fun i => ?_, fun i => ?_, fun i => ?_, fun i => ?_⟩
      · show M6 116 i = if i = S.n then (k : Int) else S.a i
        rw [f6 _ _ (by omega), f5 _ _ (by omega), f4 _ _ (by omega), f3 _ _ (by omega)]
        by_cases z : i = S.n
        · subst z; rw [if_pos rfl]; exact v2
        · rw [if_neg z, f2 _ _ (by omega)]; exact k2 i
      · show M6 118 i = if i = S.n then W k else S.b i
        rw [f6 _ _ (by omega), f5 _ _ (by omega)]
        by_cases z : i = S.n
        · subst z; rw [if_pos rfl]; exact v4
        · rw [if_neg z, f4 _ _ (by omega), f3 _ _ (by omega), f2 _ _ (by omega)]; exact k3 i
      · show M6 117 i = if i = S.n then dy else S.d i
        rw [f6 _ _ (by omega), f5 _ _ (by omega), f4 _ _ (by omega)]
        by_cases z : i = S.n
        · subst z; rw [if_pos rfl]; exact v3
        · rw [if_neg z, f3 _ _ (by omega), f2 _ _ (by omega)]; exact k4 i
      · show M6 119 i = if i = k then W k else S.e i
        rw [f6 _ _ (by omega)]
        by_cases z : i = k
        · subst z; rw [if_pos rfl]; exact v5
        · rw [if_neg z, f5 _ _ (by omega), f4 _ _ (by omega), f3 _ _ (by omega), f2 _ _ (by omega)]; exact k5 i
