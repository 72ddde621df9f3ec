/-! the class: the judge of all classes -/
def allG (C : Nat) (G : Nat → Nat → Bool) (c : Nat) : Bool := anyB (fun k => G k c) C
def soundG (B : Mem) (known : Int) (G : Nat → Nat → Bool) : Prop := ∀ k, k < nC B → standG B known k (G k) ∧ joinG B (G k) (allG (nC B) G)
def lackGG (B : Mem) (known : Int) (G : Nat → Nat → Bool) : Int := fb_si (fun k => lackG B known (G k)) (nC B)
def harmBG (B : Mem) (known : Int) (G : Nat → Nat → Bool) (s : Nat) : Int :=
  if isSp B s then B 98 s * (maxS (fun k => wtG B known s (G k)) (nC B) - minS (fun k => wtG B known s (G k)) (nC B)) else fb_si (fun k => addG B known (G k) s) (nC B)
def harmGG (B : Mem) (known : Int) (G : Nat → Nat → Bool) : Int := fb_si (harmBG B known G) (nS B)
theorem minS_b {f : Nat → Int} {b : Int} (hb : b ≤ 1000000000) (h : ∀ k, 0 ≤ f k ∧ f k ≤ b) : ∀ n, 0 ≤ minS f (n + 1) ∧ minS f (n + 1) ≤ b
  | 0 => by
    have := h 0
    unfold minS minS
    split <;> omega
  | n + 1 => by
    have ih := minS_b hb h n
    have := h (n + 1)
    unfold minS
    split <;> omega
theorem maxS_b {f : Nat → Int} {b : Int} (h0 : 0 ≤ b) (h : ∀ k, 0 ≤ f k ∧ f k ≤ b) : ∀ n, 0 ≤ maxS f n ∧ maxS f n ≤ b
  | 0 => ⟨Int.le_refl _, h0⟩
  | n + 1 => by
    have ih := maxS_b h0 h n
    have := h n
    unfold maxS
    split <;> omega
theorem min_le_max {f : Nat → Int} (h : ∀ k, 0 ≤ f k ∧ f k ≤ 1000000000) : ∀ n, minS f (n + 1) ≤ maxS f (n + 1)
  | 0 => by
    have := h 0
    unfold minS minS maxS maxS
    split <;> split <;> omega
  | n + 1 => by
    have ih := min_le_max h n
    unfold minS maxS
    split <;> split <;> omega
theorem spr_b {f : Nat → Int} {b : Int} (h0 : 0 ≤ b) (hb : b ≤ 1000000000) (h : ∀ k, 0 ≤ f k ∧ f k ≤ b) (n : Nat) : 0 ≤ maxS f (n + 1) - minS f (n + 1) ∧ maxS f (n + 1) - minS f (n + 1) ≤ b := by
  have h1 := minS_b hb h n
  have h2 := maxS_b h0 h (n + 1)
  have h3 := min_le_max (f := f) (fun k => ⟨(h k).1, Int.le_trans (h k).2 hb⟩) n
  omega
theorem nC1 {B : Mem} (h : Fa B) : ∃ m, nC B = m + 1 ∧ m ≤ 2 := ⟨nC B - 1, by have := h.k23; omega, by have := h.k23; omega⟩
theorem harmBG_b {B M : Mem} (h : CF B M) (known : Int) (G : Nat → Nat → Bool) {s : Nat} (hs : s < nS B) : 0 ≤ harmBG B known G s ∧ harmBG B known G s ≤ 5762988 := by
  obtain ⟨m, hm, hm2⟩ := nC1 h.1
  unfold harmBG
  split
  · have hsp : isSp B s := by assumption
    unfold isSp at hsp
    have nb := h.nb hs (by omega) (by omega)
    have q := spr_b (f := fun k => wtG B known s (G k)) (b := 1386) (by omega) (by omega) (fun k => wtG_b h.1 known s (G k)) m
    rw [hm]
    have := mul_b nb.1 nb.2 q.1 q.2
    omega
  · have q := si_nn (f := fun k => addG B known (G k) s) (b := 1920996) (n := nC B) (fun k _ => addG_b h known (G k) hs)
    have : (nC B : Int) ≤ 3 := by omega
    omega
theorem harmGG_b {B M : Mem} (h : CF B M) (known : Int) (G : Nat → Nat → Bool) : 0 ≤ harmGG B known G ∧ harmGG B known G ≤ 92207808 := by
  have h16 := h.1.s16
  have q := si_nn (f := harmBG B known G) (b := 5762988) (n := nS B) (fun s hs => harmBG_b h known G hs)
  unfold harmGG
  omega
theorem lackGG_b {B M : Mem} (h : CF B M) (known : Int) (G : Nat → Nat → Bool) : 0 ≤ lackGG B known G ∧ lackGG B known G ≤ 4752 := by
  have h3 := h.1.k23
  have q := si_nn (f := fun k => lackG B known (G k)) (b := 1584) (n := nC B) (fun k _ => lackG_b h known (G k))
  unfold lackGG
  omega
section GROUPS
variable {B M : Mem} {known : Int} {p : Nat} {G : Nat → Nat → Bool}
theorem c_isSound (H : JP B known M) (hp : aln p = 3) (hg : ∀ k, k < nC B → gIs B (M p k) (G k)) : Okk (f_X4_isSound p M) (fun r => isB r (soundG B known G)) := by
  have h23 := H.c.1.k23
  unfold f_X4_isSound
  refine ok_obn (P := fun s => gIs B s.1 (allG (nC B) G)) ?_ (fun s hs => ?_)
  · unfold f_X4_isSound_l4
    refine ok_whl (nC B) (fun k s => s.2 = (k : Int) ∧ gIs B s.1 (allG k G)) (FU_big (by omega)) ⟨rfl, mIs_0, fun _ _ _ => rfl⟩ ?_
    rintro k ⟨v, j⟩ hk ⟨h2, hm⟩
    dsimp only at h2 hm ⊢
    subst h2
    unfold f_X4_isSound_s4
    (try simp (disch := omega) only [wrap_of, toN, nA, n1, mr2, mr3, mr4, mr9, mr14, ml2, ml3, ml4, ml7, ml14, ml28, H.c.k])
    refine ok_ite (fun h => ?_) (fun h => ?_)
    · have e : k = nC B := by omega
      subst e; exact ok_some hm
    have hkn : k < nC B := by omega
    have q := hg k hkn
    refine ok_gd (by omega) (ok_lt (ok_lt (ok_some ⟨hkn, rfl, (mIs_or hm.1 q.1).congr (fun c hc => rfl), fun c h1 h2 => ?_⟩)))
    show (allG k G c || G k c) = false
    rw [hm.2 c h1 h2, q.2 c h1 h2]; rfl
  obtain ⟨al, j⟩ := s
  dsimp only at hs ⊢
  unfold f_X4_isSound_j27
  refine ok_lpr (P := fun _ => soundG B known G) (P2 := fun r => r = 0 ∧ ¬ soundG B known G) ?_ (fun v hv => ok_some (isB.one hv)) (fun r hr => ok_some (by rw [hr.1]; exact isB.zero hr.2))
  unfold f_X4_isSound_l29
  refine ok_all2 (by omega) (fun k => standG B known k (G k) ∧ joinG B (G k) (allG (nC B) G)) (fun k hk => ?_) ?_
  · have q := hg k hk
    unfold f_X4_isSound_s29
    (try simp (disch := omega) only [wrap_of, toN, nA, n1, mr2, mr3, mr4, mr9, mr14, ml2, ml3, ml4, ml7, ml14, ml28, H.c.k])
    refine ok_ite_f (by omega) (ok_gd (by omega) (ok_obn (c_mayStand H q (by omega)) (fun r hr => ?_)))
    refine ok_ite (fun h => ok_some (Or.inr ⟨fun z => hr.f h z.1, rfl⟩)) (fun h => ok_gd (by omega) (ok_obn (c_isWhole H q hs) (fun r2 hr2 => ?_)))
    exact ok_ite (fun h2 => ok_some (Or.inr ⟨fun z => hr2.f h2 z.2, rfl⟩)) (fun h2 => ok_lt (ok_some (Or.inl ⟨⟨hr.t h, hr2.t h2⟩, rfl⟩)))
  · unfold f_X4_isSound_s29
    (try simp (disch := omega) only [wrap_of, toN, nA, n1, mr2, mr3, mr4, mr9, mr14, ml2, ml3, ml4, ml7, ml14, ml28, H.c.k])
    exact ok_ite_t (by omega) (ok_some ⟨_, rfl⟩)
theorem c_lackOf (H : JP B known M) (hp : aln p = 3) (hg : ∀ k, k < nC B → gIs B (M p k) (G k)) : f_X4_lackOf p M = some (lackGG B known G) := by
  have h23 := H.c.1.k23
  unfold f_X4_lackOf f_X4_lackOf_l4
  refine (obn_e _ (whl_sum (n := nC B) (by omega) (fun k => lackG B known (G k)) 1600 5000 (by omega) (by omega) (fun k hk => ?_) (fun k hk v h0 h1 h2 h3 => ?_) (fun v => ?_))).trans rfl
  · have := lackG_b H.c known (G k)
    try dsimp only
    omega
  · try dsimp only at h2 h3
    unfold f_X4_lackOf_s4
    (try simp (disch := omega) only [wrap_of, toN, nA, n1, mr2, mr3, mr4, mr9, mr14, ml2, ml3, ml4, ml7, ml14, ml28, H.c.k])
    refine ok_ite_f (by omega) (ok_gd (by omega) (ok_e (c_lackIn H (hg k hk)) ?_))
    exact ok_ltw (by omega) (ok_lt (ok_some rfl))
  · unfold f_X4_lackOf_s4
    (try simp (disch := omega) only [wrap_of, toN, nA, n1, mr2, mr3, mr4, mr9, mr14, ml2, ml3, ml4, ml7, ml14, ml28, H.c.k])
    exact ok_ite_t (by omega) (ok_some rfl)
theorem c_harmBy (H : JP B known M) (hp : aln p = 3) (hg : ∀ k, k < nC B → gIs B (M p k) (G k)) {s : Nat} (hs : s < nS B) : f_X4_harmBy s p M = some (harmBG B known G s) := by
  have h23 := H.c.1.k23
  have h16 := H.c.1.s16
  apply ok_to
  unfold f_X4_harmBy
  refine ok_obn (c_isSpread H hs) (fun r hr => ?_)
  refine ok_ite (fun h => ?_) (fun h => ?_)
  · have hsp := hr.f h
    have hl : f_X4_harmBy_l88 p s M 0 0 = some (fb_si (fun k => addG B known (G k) s) (nC B), (nC B : Int)) := by
      unfold f_X4_harmBy_l88
      refine (whl_sum (n := nC B) (by omega) (fun k => addG B known (G k) s) 2000000 6000000 (by omega) (by omega) (fun k hk => ?_) (fun k hk v h0 h1 h2 h3 => ?_) (fun v => ?_))
      · have := addG_b H.c known (G k) hs
        try dsimp only
        omega
      · try dsimp only at h2 h3
        unfold f_X4_harmBy_s88
        (try simp (disch := omega) only [wrap_of, toN, nA, n1, mr2, mr3, mr4, mr9, mr14, ml2, ml3, ml4, ml7, ml14, ml28, H.c.k])
        refine ok_ite_f (by omega) (ok_gd (by omega) (ok_e (c_addedHarm H (hg k hk) hs) ?_))
        exact ok_ltw (by omega) (ok_lt (ok_some rfl))
      · unfold f_X4_harmBy_s88
        (try simp (disch := omega) only [wrap_of, toN, nA, n1, mr2, mr3, mr4, mr9, mr14, ml2, ml3, ml4, ml7, ml14, ml28, H.c.k])
        exact ok_ite_t (by omega) (ok_some rfl)
    refine ok_e hl ?_
    unfold f_X4_harmBy_j118 harmBG
    rw [if_neg hsp]
    exact ok_some rfl
  · have hsp := hr.t h
    obtain ⟨m, hm, hm2⟩ := nC1 H.c.1
    have w0 := wtG_b H.c.1 known s (G 0)
    refine ok_gd (by omega) (ok_e (c_weightIn H (hg 0 (by omega)) hs hsp) ?_)
    let f : Nat → Int := fun k => wtG B known s (G k)
    have f0 : minS f 1 = wtG B known s (G 0) := by
      show (if f 0 < 1000000000 then f 0 else 1000000000) = f 0
      rw [if_pos (by show wtG B known s (G 0) < _; omega)]
    have g0 : maxS f 1 = wtG B known s (G 0) := by
      show (if 0 < f 0 then f 0 else 0) = f 0
      by_cases z : 0 < f 0
      · rw [if_pos z]
      · rw [if_neg z]; have : 0 ≤ f 0 := w0.1; omega
    have hl : f_X4_harmBy_l23 p s M (wtG B known s (G 0)) (wtG B known s (G 0)) 1 = some (minS f (nC B), maxS f (nC B), (nC B : Int)) := by
      unfold f_X4_harmBy_l23
      refine whl_n m (fun k => (minS f (k + 1), maxS f (k + 1), ((k + 1 : Nat) : Int))) (by omega) (by rw [f0, g0]; rfl) (fun k hk => ?_) ?_
      · apply ok_to
        unfold f_X4_harmBy_s23
        try dsimp only
        (try simp (disch := omega) only [wrap_of, toN, nA, n1, mr2, mr3, mr4, mr9, mr14, ml2, ml3, ml4, ml7, ml14, ml28, H.c.k])
        refine ok_ite_f (by omega) (ok_gd (by omega) (ok_e (c_weightIn H (hg (k + 1) (by omega)) hs hsp) ?_))
        exact ok_lt (ok_lt (ok_lt (ok_some rfl)))
      · apply ok_to
        unfold f_X4_harmBy_s23
        try dsimp only
        (try simp (disch := omega) only [wrap_of, toN, nA, n1, mr2, mr3, mr4, mr9, mr14, ml2, ml3, ml4, ml7, ml14, ml28, H.c.k])
        rw [hm]
        exact ok_ite_t (by omega) (ok_some rfl)
    refine ok_e hl ?_
    unfold f_X4_harmBy_j68 harmBG
    rw [if_pos hsp, H.1.2.1, toN]
    have hsp2 := hsp
    unfold isSp at hsp2
    rw [H.c.nu hs (by omega) (by omega)]
    have nb := H.c.nb hs (by omega) (by omega)
    have q := spr_b (f := f) (b := 1386) (by omega) (by omega) (fun k => wtG_b H.c.1 known s (G k)) m
    rw [← hm] at q
    have mb := mul_b nb.1 nb.2 q.1 q.2
    refine ok_gd H.c.ru (ok_gd (by omega) (ok_some ?_))
    rw [wrap_of (x := maxS f (nC B) - minS f (nC B)) (by omega) (by omega), wrap_of (by omega) (by omega)]
theorem c_harmOf (H : JP B known M) (hp : aln p = 3) (hg : ∀ k, k < nC B → gIs B (M p k) (G k)) : f_X4_harmOf p M = some (harmGG B known G) := by
  have h16 := H.c.1.s16
  unfold f_X4_harmOf f_X4_harmOf_l4
  refine (obn_e _ (whl_sum (n := nS B) (by omega) (harmBG B known G) 6000000 96000000 (by omega) (by omega) (fun s hs => ?_) (fun s hs v h0 h1 h2 h3 => ?_) (fun v => ?_))).trans rfl
  · have := harmBG_b H.c known G hs
    omega
  · unfold f_X4_harmOf_s4
    (try simp (disch := omega) only [wrap_of, toN, nA, n1, mr2, mr3, mr4, mr9, mr14, ml2, ml3, ml4, ml7, ml14, ml28, H.c.rc, H.1.2.1])
    refine ok_gd H.c.ru (ok_ite_f (by omega) (ok_e (c_harmBy H hp hg hs) ?_))
    exact ok_ltw (by omega) (ok_lt (ok_some rfl))
  · unfold f_X4_harmOf_s4
    (try simp (disch := omega) only [wrap_of, toN, nA, n1, mr2, mr3, mr4, mr9, mr14, ml2, ml3, ml4, ml7, ml14, ml28, H.c.rc, H.1.2.1])
    exact ok_gd H.c.ru (ok_ite_t (by omega) (ok_some rfl))
theorem c_allows (H : JP B known M) (hp : aln p = 3) (hg : ∀ k, k < nC B → gIs B (M p k) (G k)) : Okk (f_X4_allows p M) (fun r => isB r (soundG B known G ∧ lackGG B known G = 0)) := by
  unfold f_X4_allows
  refine ok_e (c_lackOf H hp hg) ?_
  refine ok_ite (fun h => ok_obn (c_isSound H hp hg) (fun r hr => ?_)) (fun h => ok_some (isB.zero (fun z => h z.2)))
  exact ok_ite (fun h2 => ok_some (isB.zero (fun z => hr.f h2 z.1))) (fun h2 => ok_some (isB.one ⟨hr.t h2, h⟩))
end GROUPS
