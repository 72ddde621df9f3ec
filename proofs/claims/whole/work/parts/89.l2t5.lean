/-! ring: to whom WISHES lead -/
def Lead (B : Mem) (c o : Nat) : Prop := ∀ S : Nat → Prop, S c → (∀ a b, S a → a < nK B → wishB B a b = true → S b) → S o
theorem Lead.rf (B : Mem) (c : Nat) : Lead B c c := fun _ h _ => h
theorem Lead.st {B : Mem} {c a b : Nat} (h : Lead B c a) (ha : a < nK B) (w : wishB B a b = true) : Lead B c b := fun S h1 h2 => h2 a b (h S h1 h2) ha w
theorem wish_lt {B : Mem} (hF : Fa B) {a b : Nat} (ha : a < nK B) (w : wishB B a b = true) : b < nK B := by
  have h14 := hF.n14
  obtain ⟨p, hp, e⟩ := (anyB_iff _ _).mp w
  have e2 := of_decide_eq_true e
  have := hF.c3 (3 * a + p) (by omega)
  have := hF.n
  omega
theorem Lead.lt {B : Mem} (hF : Fa B) {c o : Nat} (hc : c < nK B) (h : Lead B c o) : o < nK B := h (fun o => o < nK B) hc (fun _ _ _ ha w => wish_lt hF ha w)
theorem ct_ltr {p q : Nat → Bool} {o : Nat} : ∀ {n : Nat}, (∀ k, k < n → p k = true → q k = true) → o < n → q o = true → p o = false → fb_ct p n < fb_ct q n := by
  intro n
  induction n with
  | zero => intro _ h; exact absurd h (by omega)
  | succ n ih =>
    intro h ho h1 h2
    rw [fb_ct_succ, fb_ct_succ]
    by_cases e : o = n
    · subst e
      have := fb_ct_sub (p := p) (q := q) (n := o) (fun k hk => h k (by omega))
      rw [h1, h2]
      simp; omega
    · have := ih (fun k hk => h k (by omega)) (by omega) h1 h2
      by_cases z : p n = true
      · rw [z, h n (by omega) z]; simp; omega
      · rw [Bool.eq_false_iff.mpr z]
        by_cases z2 : q n = true
        · rw [z2]; simp; omega
        · rw [Bool.eq_false_iff.mpr z2]; simp; omega
def clo (B : Mem) (G : Nat → Bool) : Prop := ∀ a b, a < nK B → G a = true → wishB B a b = true → G b = true
/-- how far a search has come in k rounds -/
def St (B : Mem) (c k : Nat) (G : Nat → Bool) : Prop := G c = true ∧ (∀ o, o < 14 → G o = true → Lead B c o) ∧ (clo B G ∨ k + 1 ≤ fb_ct G (nK B))
theorem clo.all {B : Mem} {c o : Nat} {G : Nat → Bool} (h : clo B G) (hG : G c = true) (w : Lead B c o) : G o = true := w (fun o => G o = true) hG (fun a b h1 h2 h3 => h a b h2 h1 h3)
theorem St.fin {B : Mem} {c k : Nat} {G : Nat → Bool} (hF : Fa B) (hc : c < nK B) (h : St B c k G) (hk : nK B ≤ k + 1) (o : Nat) (ho : o < 14) : G o = true ↔ Lead B c o := by
  obtain ⟨h1, h2, h3⟩ := h
  refine ⟨h2 o ho, fun w => ?_⟩
  rcases h3 with h3 | h3
  · exact h3.all h1 w
  · have b := fb_ct_le G (nK B)
    exact fb_ct_all.mp (show fb_ct G (nK B) = nK B by omega) o (w.lt hF hc)
theorem St.rnd {B : Mem} {c k : Nat} {G H : Nat → Bool} (hF : Fa B) (h : St B c k G) (s1 : ∀ o, o < 14 → G o = true → H o = true) (s2 : ∀ o, o < 14 → H o = true → Lead B c o) (s3 : ∀ a b, a < nK B → G a = true → wishB B a b = true → H b = true) (hc : c < nK B) : St B c (k + 1) H := by
  have h14 := hF.n14
  obtain ⟨h1, h2, h3⟩ := h
  refine ⟨s1 c (by omega) h1, s2, ?_⟩
  rcases h3 with h3 | h3
  · refine Or.inl (fun a b ha h4 h5 => ?_)
    have l := s2 a (by omega) h4
    exact s3 a b ha (h3.all h1 l) h5
  · by_cases z : ∃ o, o < nK B ∧ H o = true ∧ G o = false
    · obtain ⟨o, o1, o2, o3⟩ := z
      have := ct_ltr (p := G) (q := H) (n := nK B) (fun k hk => s1 k (by omega)) o1 o2 o3
      exact Or.inr (by omega)
    · refine Or.inl (fun a b ha h4 h5 => s3 a b ha ?_ h5)
      cases e : G a with
      | true => rfl
      | false => exact absurd ⟨a, ha, h4, e⟩ z
theorem St.start {B : Mem} {c : Nat} {G : Nat → Bool} (hc : c < nK B) (h : ∀ o, o < 14 → G o = decide (o = c)) (h14 : nK B ≤ 14) : St B c 0 G := by
  have e : G c = true := by rw [h c (by omega)]; exact decide_eq_true rfl
  refine ⟨e, fun o ho w => ?_, Or.inr (fb_ct_pos.mpr ⟨c, hc, e⟩)⟩
  rw [h o ho] at w
  have := of_decide_eq_true w
  subst this
  exact Lead.rf B o
section REACH
variable {B M : Mem}
theorem c_round (H : CF B M) {c : Nat} {v : Int} (hv : 0 ≤ v ∧ v < 16384) (hl : ∀ o, o < 14 → gb v o = true → Lead B c o) (v3 v4 : Int) : Okk (f_X1_reach_l20 v3 v4 M v 0) (fun s => (0 ≤ s.1 ∧ s.1 < 16384) ∧ (∀ o, o < 14 → gb v o = true → gb s.1 o = true) ∧ (∀ o, o < 14 → gb s.1 o = true → Lead B c o) ∧ ∀ a b, a < nK B → gb v a = true → wishB B a b = true → gb s.1 b = true) := by
  have h14 := H.1.n14
  unfold f_X1_reach_l20
  refine ok_whl (nK B) (fun k s => s.2 = (k : Int) ∧ (0 ≤ s.1 ∧ s.1 < 16384) ∧ (∀ o, o < 14 → gb v o = true → gb s.1 o = true) ∧ (∀ o, o < 14 → gb s.1 o = true → Lead B c o) ∧ ∀ a b, a < k → gb v a = true → wishB B a b = true → gb s.1 b = true) (FU_big (by omega)) ⟨rfl, hv, fun _ _ h => h, hl, fun _ _ h => absurd h (by omega)⟩ ?_
  rintro k ⟨u, w⟩ hk ⟨hw, hu, h1, h2, h3⟩
  dsimp only at hw hu h1 h2 h3 ⊢
  subst hw
  unfold f_X1_reach_s20
  (try simp (disch := omega) only [wrap_of, toN, nA, n1, mr2, mr3, mr4, mr9, mr14, ml2, ml3, ml4, ml7, ml14, ml28, H.n])
  refine ok_ite (fun h => ?_) (fun h => ?_)
  · have e : k = nK B := by omega
    subst e; exact ok_some ⟨hu, h1, h2, h3⟩
  have hkn : k < nK B := by omega
  have mu := mIs.self hu.1 hu.2
  refine ok_ite (fun h5 => ?_) (fun h5 => ?_)
  · have g0 := (mIs_bit0 mu (j := k) (by omega)).mp h5
    refine ok_lt (ok_some ⟨hkn, rfl, hu, h1, h2, fun a b ha h6 h7 => ?_⟩)
    by_cases e : a = k
    · subst e
      have := h1 a (by omega) h6
      try dsimp only at this
      rw [g0] at this; cases this
    · exact h3 a b (by omega) h6 h7
  · have g1 : gb u k = true := by
      cases e : gb u k with
      | true => rfl
      | false => exact absurd ((mIs_bit0 mu (j := k) (by omega)).mpr e) h5
    refine ok_obn (c_wishedOnes H hkn) (fun r hr => ?_)
    have m := mIs_or mu hr
    have mm : ∀ o, o < 14 → gb (bor u r) o = (gb u o || wishB B k o) := m.2.2
    refine ok_lt (ok_lt (ok_some ⟨hkn, rfl, ⟨m.1, m.2.1⟩, fun o ho h6 => ?_, fun o ho h6 => ?_, fun a b ha h6 h7 => ?_⟩))
    · try dsimp only
      rw [mm o ho, h1 o ho h6, Bool.true_or]
    · try dsimp only at h6
      rw [mm o ho, Bool.or_eq_true] at h6
      rcases h6 with h6 | h6
      · exact h2 o ho h6
      · exact (h2 k (by omega) g1).st hkn h6
    · try dsimp only
      have hb := wish_lt H.1 (show a < nK B by omega) h7
      rw [mm b (by omega)]
      by_cases e : a = k
      · subst e; rw [h7, Bool.or_true]
      · rw [h3 a b (by omega) h6 h7, Bool.true_or]
theorem c_reach (H : CF B M) {c : Nat} (hc : c < nK B) : Okk (f_X1_reach c M) (fun r => mIs r (fun o => pb (Lead B c o))) := by
  have h14 := H.1.n14
  have fin : ∀ r : Int, 0 ≤ r ∧ r < 16384 → (∀ o, o < 14 → (gb r o = true ↔ Lead B c o)) → mIs r (fun o => pb (Lead B c o)) := fun r hr h => ⟨hr.1, hr.2, fun o ho => by
    cases e : gb r o with
    | true => exact (pb_iff.mpr ((h o ho).mp e)).symm
    | false => exact (pb_f.mpr (fun z => by rw [(h o ho).mpr z] at e; cases e)).symm⟩
  unfold f_X1_reach
  have m0 := mIs_1 (j := c) (by omega)
  generalize bshl 1 (c : Int) = v0 at m0 ⊢
  refine ok_lt (ok_lpr (P := fun s => mIs s.1 (fun o => pb (Lead B c o))) (P2 := fun r => mIs r (fun o => pb (Lead B c o))) ?_ (fun s hs => ok_some hs) (fun t ht => ok_some ht))
  unfold f_X1_reach_l6
  refine ok_whl (nK B) (fun k s => s.2 = ((k + 1 : Nat) : Int) ∧ (0 ≤ s.1 ∧ s.1 < 16384) ∧ St B c k (gb s.1)) (FU_big (by omega)) ⟨rfl, ⟨m0.1, m0.2.1⟩, St.start hc m0.2.2 h14⟩ ?_
  rintro k ⟨u, w⟩ hk ⟨hw, hu, hS⟩
  dsimp only at hw hu hS ⊢
  subst hw
  unfold f_X1_reach_s6
  rw [H.n]
  refine ok_ite (fun h => ok_some (fin u hu (hS.fin H.1 hc (by omega)))) (fun h => ?_)
  refine ok_obn (c_round (c := c) H hu hS.2.1 _ _) (fun s hs => ?_)
  obtain ⟨s1, s2, s3, s4⟩ := hs
  unfold f_X1_reach_j53k6
  refine ok_ite (fun h5 => ok_some ?_) (fun h5 => ?_)
  · rw [h5] at s4 ⊢
    exact fin u hu (fun o ho => ⟨hS.2.1 o ho, fun w => clo.all (G := gb u) (fun a b h1 h2 h3 => s4 a b h1 h2 h3) hS.1 w⟩)
  · rw [wrap_n1 (by omega)]
    exact ok_lt (ok_some ⟨by omega, by show ((k + 1 + 1 : Nat) : Int) = _; omega, s1, hS.rnd H.1 s2 s3 s4 hc⟩)
end REACH
