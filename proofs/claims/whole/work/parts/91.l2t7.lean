/-! help: how a way divides the HOURS -/
def restS (B : Mem) (need : Nat → Int) (H C way k : Nat) : Nat → Int
  | 0 => need k
  | j + 1 => restS B need H C way k j - if way / C ^ j % C = k then B 112 (H - 1 - j) else 0
def lackW (B : Mem) (need : Nat → Int) (H C way : Nat) : Int := fb_si (fun k => pos0 (restS B need H C way k H)) C
theorem rest_b {B : Mem} {need : Nat → Int} {H C way k : Nat} (hh : ∀ i, i < H → 1 ≤ B 112 i ∧ B 112 i ≤ 60) (hn : 0 ≤ need k ∧ need k ≤ 2000) : ∀ j, j ≤ H → -(60 * (j : Int)) ≤ restS B need H C way k j ∧ restS B need H C way k j ≤ 2000 := by
  intro j
  induction j with
  | zero => intro _; show -(60 * ((0 : Nat) : Int)) ≤ need k ∧ need k ≤ 2000; omega
  | succ j ih =>
    intro hj
    have ih := ih (by omega)
    have q := hh (H - 1 - j) (by omega)
    show -(60 * ((j + 1 : Nat) : Int)) ≤ restS B need H C way k j - (if _ then _ else _) ∧ restS B need H C way k j - (if _ then _ else _) ≤ 2000
    split <;> omega
theorem rest_far {B : Mem} {need : Nat → Int} {H C way k : Nat} (hC : 0 < C) (hk : C ≤ k) : ∀ j, restS B need H C way k j = need k := by
  intro j
  induction j with
  | zero => rfl
  | succ j ih =>
    show restS B need H C way k j - (if _ then _ else _) = _
    have := Nat.mod_lt (way / C ^ j) hC
    rw [if_neg (by omega), ih]; omega
theorem pos0_b {x b : Int} (h : x ≤ b) (hb : 0 ≤ b) : 0 ≤ pos0 x ∧ pos0 x ≤ b := by unfold pos0; split <;> omega
theorem lackW_b {B : Mem} {need : Nat → Int} {H C way : Nat} (hC : C ≤ 3) (hh : ∀ i, i < H → 1 ≤ B 112 i ∧ B 112 i ≤ 60) (hn : ∀ k, k < 3 → 0 ≤ need k ∧ need k ≤ 2000) : 0 ≤ lackW B need H C way ∧ lackW B need H C way ≤ 6000 := by
  have := si_nn (f := fun k => pos0 (restS B need H C way k H)) (b := 2000) (n := C) (fun k hk => pos0_b (rest_b hh (hn k (by omega)) H (Nat.le_refl _)).2 (by omega))
  unfold lackW
  omega
theorem jdivN {a b : Nat} (ha : a < 2147483648) (hb : 0 < b) (hb2 : b < 2147483648) : jdiv (a : Int) (b : Int) = ((a / b : Nat) : Int) := by
  rw [jdiv_n (by omega) (by omega) (by omega) (by omega)]; rfl
theorem jremN {a b : Nat} (ha : a < 2147483648) (hb : 0 < b) (hb2 : b < 2147483648) : jrem (a : Int) (b : Int) = ((a % b : Nat) : Int) := by
  rw [jrem_n (by omega) (by omega) (by omega) (by omega)]; rfl
theorem mcp_gen (M : Mem) (a b : Nat) (n : Int) : ∃ M', mcp M a 0 b 0 n = M' ∧ (∀ c i : Nat, ¬ (c = b ∧ (i : Int) < n) → M' c i = M c i) ∧ ∀ i : Nat, (i : Int) < n → M' b i = M a i := by
  refine ⟨_, rfl, fun c i q => ?_, fun i hi => ?_⟩
  · unfold mcp
    exact if_neg (fun z => q ⟨z.1, by have := z.2.2; simp only [Int.toNat_zero] at this; omega⟩)
  · unfold mcp
    rw [if_pos ⟨rfl, by simp, by simp only [Int.toNat_zero]; omega⟩]
    congr 1
    simp
/-- the first of the least ones -/
def BWy (lk : Nat → Int) (f w : Nat) : Prop := f < w ∧ (∀ x, x < w → lk f ≤ lk x) ∧ ∀ x, x < f → lk f < lk x
theorem BWy.one (lk : Nat → Int) : BWy lk 0 1 := ⟨by omega, fun x hx => by rw [show x = 0 by omega]; exact Int.le_refl _, fun x hx => absurd hx (by omega)⟩
theorem BWy.new {lk : Nat → Int} {f w : Nat} (h : BWy lk f w) (l : lk w < lk f) : BWy lk w (w + 1) := ⟨by omega, fun x hx => by
  by_cases e : x = w
  · rw [e]; exact Int.le_refl _
  · have := h.2.1 x (by omega); omega, fun x hx => by have := h.2.1 x hx; omega⟩
theorem BWy.old {lk : Nat → Int} {f w : Nat} (h : BWy lk f w) (l : lk f ≤ lk w) : BWy lk f (w + 1) := ⟨by have := h.1; omega, fun x hx => by
  by_cases e : x = w
  · rw [e]; exact l
  · exact h.2.1 x (by omega), h.2.2⟩
theorem BWy.one_of {lk : Nat → Int} {f g w : Nat} (h : BWy lk f w) (k : BWy lk g w) : f = g := by
  rcases Nat.lt_trichotomy f g with q | q | q
  · have := k.2.2 f q; have := h.2.1 g k.1; omega
  · exact q
  · have := h.2.2 g q; have := k.2.1 f h.1; omega
theorem BWy.ex (lk : Nat → Int) : ∀ w, ∃ f, BWy lk f (w + 1) := by
  intro w
  induction w with
  | zero => exact ⟨0, BWy.one lk⟩
  | succ w ih =>
    obtain ⟨f, hf⟩ := ih
    by_cases l : lk (w + 1) < lk f
    · exact ⟨_, hf.new l⟩
    · exact ⟨_, hf.old (by omega)⟩
theorem pow729 {C k : Nat} (hC : C ≤ 3) (hk : k ≤ 6) : C ^ k ≤ 729 := Nat.le_trans (Nat.pow_le_pow_left hC k) (Nat.pow_le_pow_right (n := 3) (by omega) hk)
theorem div_step (way C j : Nat) : way / C ^ j / C = way / C ^ (j + 1) := by rw [Nat.div_div_eq_div_mul, Nat.pow_succ]
section HELP
variable {B M : Mem} {need : Nat → Int} {H C : Nat}
/-- the class's HELPERS at work -/
def HW (B M : Mem) (need : Nat → Int) (H C : Nat) : Prop := M 51 0 = (H : Int) ∧ H ≤ 6 ∧ (C = 2 ∨ C = 3) ∧ (∀ i, M 52 i = B 112 i) ∧ (∀ i, i < H → 1 ≤ B 112 i ∧ B 112 i ≤ 60) ∧ (∀ k, k < 3 → M 53 k = need k ∧ 0 ≤ need k ∧ need k ≤ 2000) ∧ ∀ k, C ≤ k → k < 3 → need k = 0
theorem c_lackWay (h : HW B M need H C) {way : Nat} (hw : way < 1000) : Okk (f_X3_lackOfWay way C M) (fun q => q.1 = lackW B need H C way ∧ (∀ c i, c ≠ 54 → c ≠ 55 → q.2 c i = M c i) ∧ ∀ j, j < H → q.2 55 (H - 1 - j) = ((way / C ^ j % C : Nat) : Int)) := by
  obtain ⟨h1, h2, h3, h4, h5, h6, h7⟩ := h
  unfold f_X3_lackOfWay
  obtain ⟨M2, e2, f2, v2⟩ := mcp_gen M 53 54 3
  refine ok_gd (by omega) (ok_lt ?_)
  rw [e2, f2 51 0 (by omega), h1, wrap_of (by omega) (by omega)]
  refine ok_lt (ok_obn (P := fun s => (∀ c i, c ≠ 54 → c ≠ 55 → s.2.2 c i = M c i) ∧ (∀ k, k < 3 → s.2.2 54 k = restS B need H C way k H) ∧ ∀ j, j < H → s.2.2 55 (H - 1 - j) = ((way / C ^ j % C : Nat) : Int)) ?_ (fun s hs => ?_))
  · unfold f_X3_lackOfWay_l24
    refine ok_whl H (fun j s => s.1 = ((way / C ^ j : Nat) : Int) ∧ s.2.1 = (H : Int) - 1 - (j : Int) ∧ (∀ c i, c ≠ 54 → c ≠ 55 → s.2.2 c i = M c i) ∧ (∀ k, k < 3 → s.2.2 54 k = restS B need H C way k j) ∧ ∀ j', j' < j → s.2.2 55 (H - 1 - j') = ((way / C ^ j' % C : Nat) : Int)) (FU_big (by omega)) ⟨by show (way : Int) = _; rw [Nat.pow_zero, Nat.div_one], by show (H : Int) - 1 = _; omega, fun c i q _ => f2 c i (by omega), fun k hk => by show M2 54 k = need k; rw [v2 k (by omega)]; exact (h6 k hk).1, fun _ hj => absurd hj (by omega)⟩ ?_
    rintro j ⟨u, v, N⟩ hj ⟨hu, hv, hf, hr, hd⟩
    dsimp only at hu hv hf hr hd ⊢
    unfold f_X3_lackOfWay_s24
    refine ok_ite (fun z => ok_some ?_) (fun z => ?_)
    · have e : j = H := by omega
      subst e; exact ⟨hf, hr, hd⟩
    have hjH : j < H := by omega
    obtain ⟨i, hi⟩ : ∃ i : Nat, i = H - 1 - j := ⟨_, rfl⟩
    have ev : v = (i : Int) := by omega
    have hwj : way / C ^ j ≤ way := Nat.div_le_self _ _
    have hdg : way / C ^ j % C < C := Nat.mod_lt _ (by omega)
    rw [hu, ev, jremN (by omega) (by omega) (by omega), jdivN (by omega) (by omega) (by omega), div_step, toN]
    generalize hdd : way / C ^ j % C = d at hdg
    obtain ⟨N2, e2', g2, w2⟩ := mup_gen N 55 i (d : Int)
    refine ok_ite_f (by omega) (ok_gd (by omega) (ok_lt (ok_gd (by omega) (ok_lt (ok_gd (by omega) (ok_lt ?_))))))
    rw [e2', toN]
    refine ok_gd (by omega) (ok_gd (by omega) (ok_gd (by omega) (ok_lt ?_)))
    have q1 := rest_b (C := C) (way := way) h5 (h6 d (by omega)).2 j (by omega)
    have q2 := h5 i (by omega)
    rw [g2 54 d (by omega), hr d (by omega), g2 52 i (by omega), hf 52 i (by omega) (by omega), h4 i, wrap_of (x := restS B need H C way d j - B 112 i) (by omega) (by omega)]
    obtain ⟨N3, e3, g3, w3⟩ := mup_gen N2 54 d (restS B need H C way d j - B 112 i)
    rw [e3, wrap_of (x := (i : Int) + (-1)) (by omega) (by omega)]
    refine ok_lt (ok_some ⟨hjH, rfl, by show (i : Int) + (-1) = _; omega, fun c i' z1 z2 => ?_, fun k hk => ?_, fun j' hj' => ?_⟩)
    · try dsimp only
      rw [g3 c i' (by omega), g2 c i' (by omega)]; exact hf c i' z1 z2
    · show N3 54 k = restS B need H C way k j - (if way / C ^ j % C = k then B 112 (H - 1 - j) else 0)
      rw [hdd, ← hi]
      by_cases e : d = k
      · rw [if_pos e, ← e, w3]
      · rw [if_neg e, g3 54 k (by omega), g2 54 k (by omega), hr k hk]; omega
    · try dsimp only
      rw [g3 55 _ (by omega)]
      by_cases e : j' = j
      · rw [e, ← hi, w2, hdd]
      · rw [g2 55 _ (by omega)]; exact hd j' (by omega)
  · obtain ⟨u, v, N⟩ := s
    obtain ⟨hf, hr, hd⟩ := hs
    dsimp only at hf hr hd ⊢
    unfold f_X3_lackOfWay_j74
    have hsum : f_X3_lackOfWay_l80 N 0 0 = some (fb_si (fun k => pos0 (restS B need H C way k H)) 3, ((3 : Nat) : Int)) := by
      unfold f_X3_lackOfWay_l80
      refine whl_sum (n := 3) (by omega) (fun k => pos0 (restS B need H C way k H)) 2000 6000 (by omega) (by omega) (fun k hk => ?_) (fun k hk v a1 a2 a3 a4 => ?_) (fun v => ?_)
      · have := pos0_b (rest_b (C := C) (way := way) h5 (h6 k hk).2 H (Nat.le_refl _)).2 (by omega)
        omega
      · unfold f_X3_lackOfWay_s80
        try dsimp only
        rw [toN, hr k hk]
        refine ok_ite_f (by omega) (ok_gd (by omega) ?_)
        show Okk (lt (wrap (v + pos0 (restS B need H C way k H))) _) _
        rw [wrap_of (by omega) (by omega), wrap_n1 (by omega)]
        exact ok_lt (ok_lt (ok_some rfl))
      · unfold f_X3_lackOfWay_s80
        exact ok_ite_t (by show (3 : Int) ≤ ((3 : Nat) : Int); omega) (ok_some rfl)
    refine ok_e hsum ?_
    unfold f_X3_lackOfWay_j108
    refine ok_some ⟨?_, hf, hd⟩
    show fb_si _ 3 = lackW B need H C way
    unfold lackW
    rcases h3 with e | e
    · subst e
      rw [fb_si_succ, rest_far (by omega) (Nat.le_refl 2), h7 2 (by omega) (by omega)]
      show _ + pos0 0 = _
      rw [show pos0 0 = 0 from rfl]; omega
    · rw [e]
theorem c_divide (h : HW B M need H C) : Okk (f_X3_divide C M) (fun M' => (∀ c i, c ≠ 54 → c ≠ 55 → c ≠ 56 → ¬ (c = 51 ∧ i = 6) → M' c i = M c i) ∧ ∃ f, BWy (lackW B need H C) f (C ^ H) ∧ M' 51 6 = lackW B need H C f ∧ ∀ j, j < H → M' 56 (H - 1 - j) = ((f / C ^ j % C : Nat) : Int)) := by
  have hh := h
  obtain ⟨h1, h2, h3, h4, h5, h6, h7⟩ := h
  have p0 : 0 < C ^ H := Nat.pow_pos (by omega)
  have p1 : C ^ H ≤ 729 := pow729 (by omega) h2
  unfold f_X3_divide
  have hl : f_X3_divide_l4 C M 1 0 = some (((C ^ H : Nat) : Int), (H : Int)) := by
    unfold f_X3_divide_l4
    refine whl_n H (fun k => (((C ^ k : Nat) : Int), (k : Int))) (by omega) (by rw [Nat.pow_zero]; rfl) (fun k hk => ok_to ?_) (ok_to ?_)
    · unfold f_X3_divide_s4
      try dsimp only
      have p2 : C ^ (k + 1) ≤ 729 := pow729 (by omega) (by omega)
      have e : ((C ^ k : Nat) : Int) * (C : Int) = ((C ^ (k + 1) : Nat) : Int) := by rw [Nat.pow_succ, Int.natCast_mul]
      rw [h1, e, wrap_n1 (by omega), wrap_of (by omega) (by omega)]
      exact ok_ite_f (by omega) (ok_lt (ok_lt (ok_some rfl)))
    · unfold f_X3_divide_s4
      try dsimp only
      rw [h1]
      exact ok_ite_t (by omega) (ok_some rfl)
  refine ok_e hl ?_
  unfold f_X3_divide_j22
  generalize C ^ H = W at p0 p1
  try dsimp only
  refine ok_obn (P := fun s => (∀ c i, c ≠ 54 → c ≠ 55 → c ≠ 56 → ¬ (c = 51 ∧ i = 6) → s.2 c i = M c i) ∧ ∃ f, BWy (lackW B need H C) f W ∧ s.2 51 6 = lackW B need H C f ∧ ∀ j, j < H → s.2 56 (H - 1 - j) = ((f / C ^ j % C : Nat) : Int)) ?_ (fun s hs => ok_some hs)
  unfold f_X3_divide_l24
  refine ok_whl W (fun w s => s.1 = (w : Int) ∧ (∀ c i, c ≠ 54 → c ≠ 55 → c ≠ 56 → ¬ (c = 51 ∧ i = 6) → s.2 c i = M c i) ∧ (0 < w → ∃ f, BWy (lackW B need H C) f w ∧ s.2 51 6 = lackW B need H C f ∧ ∀ j, j < H → s.2 56 (H - 1 - j) = ((f / C ^ j % C : Nat) : Int))) (FU_big (by omega)) ⟨rfl, fun _ _ _ _ _ _ => rfl, fun z => absurd z (by omega)⟩ ?_
  rintro w ⟨u, N⟩ hw ⟨hu, hf, hb⟩
  dsimp only at hu hf hb ⊢
  subst hu
  unfold f_X3_divide_s24
  refine ok_ite (fun z => ok_some ?_) (fun z => ?_)
  · have e : w = W := by omega
    subst e; exact ⟨hf, hb p0⟩
  have hwW : w < W := by omega
  have hN : HW B N need H C := ⟨by rw [hf 51 0 (by omega) (by omega) (by omega) (by omega)]; exact h1, h2, h3, fun i => by rw [hf 52 i (by omega) (by omega) (by omega) (by omega)]; exact h4 i, h5, fun k hk => by rw [hf 53 k (by omega) (by omega) (by omega) (by omega)]; exact h6 k hk, h7⟩
  refine ok_bnd (c_lackWay hN (way := w) (by omega)) (fun r N2 hr => ?_)
  obtain ⟨hr, hf2, hd⟩ := hr
  dsimp only at hr hf2 hd ⊢
  subst hr
  have e51 : N2 51 0 = (H : Int) := by rw [hf2 51 0 (by omega) (by omega)]; exact hN.1
  obtain ⟨N3, e3, f3, v3⟩ := mup_gen N2 51 6 (lackW B need H C w)
  obtain ⟨N4, e4, f4, v4⟩ := mcp_gen N3 55 56 (H : Int)
  have fr4 : ∀ c i, c ≠ 54 → c ≠ 55 → c ≠ 56 → ¬ (c = 51 ∧ i = 6) → N4 c i = M c i := fun c i q1 q2 q3 q4 => by
    rw [f4 c i (by omega), f3 c i q4, hf2 c i q1 q2]; exact hf c i q1 q2 q3 q4
  have val4 : N4 51 6 = lackW B need H C w ∧ ∀ j, j < H → N4 56 (H - 1 - j) = ((w / C ^ j % C : Nat) : Int) := ⟨by rw [f4 51 6 (by omega)]; exact v3, fun j hj => by rw [v4 _ (by omega), f3 55 _ (by omega)]; exact hd j hj⟩
  have take : BWy (lackW B need H C) w (w + 1) → Okk (lt (mup N2 51 6 (lackW B need H C w)) fun M_3 => gd ((0 : Int) ≤ 0 ∧ (0 : Int) ≤ 0 ∧ (0 : Int) ≤ M_3 51 0 ∧ (0 : Int) + M_3 51 0 ≤ 6 ∧ (0 : Int) + M_3 51 0 ≤ 6) <| lt (mcp M_3 55 0 56 0 (M_3 51 0)) fun M_4 => lt (wrap ((w : Int) + 1)) fun v3_2 => (some (.inl (v3_2, M_4)) : Option ((Int × Mem) ⊕ (Int × Mem)))) (inS (fun s => w < W ∧ s.1 = ((w + 1 : Nat) : Int) ∧ (∀ c i, c ≠ 54 → c ≠ 55 → c ≠ 56 → ¬ (c = 51 ∧ i = 6) → s.2 c i = M c i) ∧ (0 < w + 1 → ∃ f, BWy (lackW B need H C) f (w + 1) ∧ s.2 51 6 = lackW B need H C f ∧ ∀ j, j < H → s.2 56 (H - 1 - j) = ((f / C ^ j % C : Nat) : Int))) (fun s : Int × Mem => (∀ c i, c ≠ 54 → c ≠ 55 → c ≠ 56 → ¬ (c = 51 ∧ i = 6) → s.2 c i = M c i) ∧ ∃ f, BWy (lackW B need H C) f W ∧ s.2 51 6 = lackW B need H C f ∧ ∀ j, j < H → s.2 56 (H - 1 - j) = ((f / C ^ j % C : Nat) : Int))) := fun hb => by
    refine ok_lt ?_
    rw [e3, f3 51 0 (by omega), e51]
    refine ok_gd (by omega) (ok_lt ?_)
    rw [e4, wrap_n1 (by omega)]
    exact ok_lt (ok_some ⟨hwW, rfl, fr4, fun _ => ⟨w, hb, val4⟩⟩)
  refine ok_ite (fun z => take ?_) (fun z => ok_ite (fun l => ?_) (fun l => take ?_))
  · rw [show w = 0 by omega]; exact BWy.one _
  · rw [wrap_n1 (by omega)]
    refine ok_lt (ok_some ⟨hwW, rfl, fun c i q1 q2 q3 q4 => by show N2 c i = _; rw [hf2 c i q1 q2]; exact hf c i q1 q2 q3 q4, fun _ => ?_⟩)
    obtain ⟨f, b1, b2, b3⟩ := hb (by omega)
    rw [hf2 51 6 (by omega) (by omega), b2] at l
    exact ⟨f, b1.old l, by show N2 51 6 = _; rw [hf2 51 6 (by omega) (by omega)]; exact b2, fun j hj => by show N2 56 _ = _; rw [hf2 56 _ (by omega) (by omega)]; exact b3 j hj⟩
  · obtain ⟨f, b1, b2, b3⟩ := hb (by omega)
    rw [hf2 51 6 (by omega) (by omega), b2] at l
    exact b1.new (by omega)
end HELP
