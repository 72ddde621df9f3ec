/-! to place a child: late of the class, softest of the model -/
def SoftLt (z : Int) (ok : Nat → Prop) (hm : Nat → Int) (j : Nat) (f v : Int) : Prop :=
  (f = z ∧ ∀ k, k < j → ¬ ok k) ∨ ∃ k0, k0 < j ∧ f = (k0 : Int) ∧ ok k0 ∧ v = hm k0 ∧ (∀ k, k < j → ok k → hm k0 ≤ hm k) ∧ ∀ k, k < k0 → ok k → hm k0 < hm k
theorem SoftLt.init (z : Int) (ok : Nat → Prop) (hm : Nat → Int) (v : Int) : SoftLt z ok hm 0 z v := Or.inl ⟨rfl, fun k h => absurd h (by omega)⟩
theorem SoftLt.skip {z : Int} {ok : Nat → Prop} {hm : Nat → Int} {j : Nat} {f v : Int} (h : SoftLt z ok hm j f v) (hs : ok j → 0 ≤ f ∧ v ≤ hm j) (hz : z < 0) : SoftLt z ok hm (j + 1) f v := by
  rcases h with ⟨h1, h2⟩ | ⟨k0, h1, h2, h3, h4, h5, h6⟩
  · refine Or.inl ⟨h1, fun k hk ho => ?_⟩
    by_cases e : k = j
    · subst e
      have := (hs ho).1
      omega
    · exact h2 k (by omega) ho
  · refine Or.inr ⟨k0, by omega, h2, h3, h4, fun k hk ho => ?_, h6⟩
    by_cases e : k = j
    · subst e
      have := (hs ho).2
      omega
    · exact h5 k (by omega) ho
theorem SoftLt.new {z : Int} {ok : Nat → Prop} {hm : Nat → Int} {j : Nat} {f v : Int} (h : SoftLt z ok hm j f v) (ho : ok j) (hb : f = z ∨ hm j < v) (hz : z < 0) : SoftLt z ok hm (j + 1) (j : Int) (hm j) := by
  refine Or.inr ⟨j, by omega, rfl, ho, rfl, fun k hk hok => ?_, fun k hk hok => ?_⟩
  · by_cases e : k = j
    · subst e; omega
    · rcases h with ⟨h1, h2⟩ | ⟨k0, h1, h2, h3, h4, h5, h6⟩
      · exact absurd hok (h2 k (by omega))
      · have := h5 k (by omega) hok
        omega
  · rcases h with ⟨h1, h2⟩ | ⟨k0, h1, h2, h3, h4, h5, h6⟩
    · exact absurd hok (h2 k hk)
    · have := h5 k hk hok
      omega
theorem SoftLt.uniq {z z' : Int} {ok : Nat → Prop} {hm : Nat → Int} {j : Nat} {f v f' v' : Int} (h : SoftLt z ok hm j f v) (k : SoftLt z' ok hm j f' v') : (f = z ∧ f' = z') ∨ (f = f' ∧ 0 ≤ f ∧ f < (j : Int)) := by
  rcases h with ⟨h1, h2⟩ | ⟨k0, h1, h2, h3, h4, h5, h6⟩
  · rcases k with ⟨g1, g2⟩ | ⟨k1, g1, g2, g3, g4, g5, g6⟩
    · exact Or.inl ⟨h1, g1⟩
    · exact absurd g3 (h2 k1 g1)
  · rcases k with ⟨g1, g2⟩ | ⟨k1, g1, g2, g3, g4, g5, g6⟩
    · exact absurd h3 (g2 k0 h1)
    · refine Or.inr ⟨?_, by omega, by omega⟩
      have q1 := h5 k1 g1 g3
      have q2 := g5 k0 h1 h3
      have : k0 = k1 := by
        apply Classical.byContradiction
        intro hne
        by_cases hlt : k0 < k1
        · have := g6 k0 hlt h3; omega
        · have := h6 k1 (by omega) g3; omega
      omega
def upP (P : Nat → Int) (c : Nat) (k : Int) : Nat → Int := fun x => if x = c then k else P x
theorem upP_at (P : Nat → Int) (c : Nat) (k : Int) : upP P c k c = k := if_pos rfl
theorem upP_ne (P : Nat → Int) {c x : Nat} (k : Int) (h : x ≠ c) : upP P c k x = P x := if_neg h
section SOFT
variable {B M : Mem} {known : Int}
theorem PB_up {P : Nat → Int} (hP : PB B P) (c : Nat) {k : Nat} (hk : k < nC B) : PB B (upP P c k) := by
  intro x hx
  by_cases e : x = c
  · subst e; rw [upP_at]; omega
  · rw [upP_ne P k e]; exact hP x hx
theorem GP_up {P : Nat → Int} {c : Nat} (hc : c < nK B) (hPc : P c = -1) (k j x : Nat) : GP B (upP P c k) j x = (GP B P j x || (decide (j = k) && decide (x = c))) := by
  unfold GP
  by_cases e : x = c
  · subst e
    rw [upP_at, hPc, decide_eq_true hc, decide_eq_true rfl, Bool.true_and, Bool.true_and, Bool.and_true, decide_eq_false (show ¬ (-1 : Int) = (j : Int) by omega), Bool.false_or]
    exact decide_eq_decide.mpr (by omega)
  · rw [upP_ne P k e, decide_eq_false e, Bool.and_false, Bool.or_false]
def okS (B : Mem) (known : Int) (lk : Prop) (P : Nat → Int) (c k : Nat) : Prop := soundG B known (GP B (upP P c k)) ∧ (lk → lackGG B known (GP B (upP P c k)) = 0)
def hmS (B : Mem) (known : Int) (P : Nat → Int) (c k : Nat) : Int := harmGG B known (GP B (upP P c k))
/-- a child taken in and out of a group -/
theorem group_in {p : Nat} {P : Nat → Int} {c k : Nat} (hc : c < nK B) (h14 : nK B ≤ 14) (hPc : P c = -1) (hg : ∀ j, j < 3 → gIs B (M p j) (GP B P j)) {M2 : Mem} (f2 : ∀ x i, ¬ (x = p ∧ i = k) → M2 x i = M x i) (v2 : M2 p k = bor (M p k) (bshl 1 (c : Int))) :
    ∀ j, j < 3 → gIs B (M2 p j) (GP B (upP P c k) j) := by
  intro j hj
  refine ⟨?_, fun x h1 h2 => GP_far h1⟩
  by_cases e : j = k
  · subst e
    rw [v2]
    refine (mIs_or (hg j hj).1 (mIs_1 (j := c) (by omega))).congr (fun x hx => ?_)
    rw [GP_up hc hPc, decide_eq_true rfl, Bool.true_and]
  · rw [f2 p j (by omega)]
    refine (hg j hj).1.congr (fun x hx => ?_)
    rw [GP_up hc hPc, decide_eq_false e, Bool.false_and, Bool.or_false]
theorem group_out {p : Nat} {P : Nat → Int} {c k : Nat} (hc : c < nK B) (h14 : nK B ≤ 14) (hPc : P c = -1) (hg : ∀ j, j < 3 → gIs B (M p j) (GP B (upP P c k) j)) {M2 : Mem} (f2 : ∀ x i, ¬ (x = p ∧ i = k) → M2 x i = M x i) (v2 : M2 p k = band (M p k) (bxor (bshl 1 (c : Int)) (-1))) :
    ∀ j, j < 3 → gIs B (M2 p j) (GP B P j) := by
  have hn : ∀ j, GP B P j c = false := fun j => by unfold GP; rw [hPc, decide_eq_false (show ¬ (-1 : Int) = (j : Int) by omega), Bool.and_false]
  intro j hj
  refine ⟨?_, fun x h1 h2 => GP_far h1⟩
  by_cases e : j = k
  · subst e
    rw [v2]
    refine (mIs_andn (hg j hj).1 (mIs_1 (j := c) (by omega))).congr (fun x hx => ?_)
    rw [GP_up hc hPc, decide_eq_true rfl, Bool.true_and]
    by_cases e2 : x = c
    · subst e2; rw [hn, decide_eq_true rfl]; rfl
    · rw [decide_eq_false e2, Bool.or_false, Bool.not_false, Bool.and_true]
  · rw [f2 p j (by omega)]
    refine (hg j hj).1.congr (fun x hx => ?_)
    rw [GP_up hc hPc, decide_eq_false e, Bool.false_and, Bool.or_false]
theorem c_late50 (J : JP B known M) {P : Nat → Int} {c : Nat} (hc : c < nK B) (hPc : P c = -1) (hg : ∀ j, j < 3 → gIs B (M 2 j) (GP B P j)) :
    Okk (f_X10_late_l50 c (-2) 0 0 M) (fun s => (∀ x i, x ≠ 2 → s.2.2.2 x i = M x i) ∧ SoftLt (-2) (okS B known True P c) (hmS B known P c) (nC B) s.1 s.2.1) := by
  have h14 := J.c.1.n14
  have h3 := J.c.1.k23
  unfold f_X10_late_l50
  refine ok_whl (nC B) (fun k s => s.2.2.1 = (k : Int) ∧ (∀ x i, x ≠ 2 → s.2.2.2 x i = M x i) ∧ (∀ j, j < 3 → gIs B (s.2.2.2 2 j) (GP B P j)) ∧ SoftLt (-2) (okS B known True P c) (hmS B known P c) k s.1 s.2.1) (FU_big (by omega)) ⟨rfl, fun _ _ _ => rfl, hg, SoftLt.init _ _ _ _⟩ ?_
  rintro k ⟨b, v, w, M1⟩ hk ⟨hw, hF, hG, hS⟩
  dsimp only at hw hF hG hS ⊢
  subst hw
  have J1 : JP B known M1 := J.fr (fun x i q => hF x i (by unfold isC at q; omega))
  unfold f_X10_late_s50
  rw [J1.c.k, toN, wrap_n1 (k := k) (by omega)]
  refine ok_ite (fun h => ?_) (fun h => ?_)
  · have e : k = nC B := by omega
    subst e; exact ok_some ⟨hF, hS⟩
  have hkC : k < nC B := by omega
  refine ok_gd (by omega) (ok_gd (by omega) (ok_lt ?_))
  obtain ⟨M2, e2, f2, v2⟩ := mup_gen M1 2 k (bor (M1 2 k) (bshl 1 (c : Int)))
  rw [e2]; clear e2
  have G2 := group_in (M := M1) hc h14 hPc hG f2 v2
  have J2 : JP B known M2 := J1.fr (fun x i q => f2 x i (by unfold isC at q; omega))
  have hg2 : ∀ j, j < nC B → gIs B (M2 2 j) (GP B (upP P c k) j) := fun j hj => G2 j (by omega)
  have hb := harmGG_b J.c known (GP B (upP P c k))
  -- taken out again
  have back : ∀ (b' v' : Int), SoftLt (-2) (okS B known True P c) (hmS B known P c) (k + 1) b' v' → Okk (lt (mup M2 2 k (band (M2 2 k) (bxor (bshl 1 (c : Int)) (-1)))) fun M_3 => lt ((k + 1 : Nat) : Int) fun v4_2 => (some (.inl (b', v', v4_2, M_3)) : Option ((Int × Int × Int × Mem) ⊕ (Int × Int × Int × Mem))))
      (inS (fun s => k < nC B ∧ s.2.2.1 = ((k + 1 : Nat) : Int) ∧ (∀ x i, x ≠ 2 → s.2.2.2 x i = M x i) ∧ (∀ j, j < 3 → gIs B (s.2.2.2 2 j) (GP B P j)) ∧ SoftLt (-2) (okS B known True P c) (hmS B known P c) (k + 1) s.1 s.2.1) (fun s : Int × Int × Int × Mem => (∀ x i, x ≠ 2 → s.2.2.2 x i = M x i) ∧ SoftLt (-2) (okS B known True P c) (hmS B known P c) (nC B) s.1 s.2.1)) := by
    intro b' v' hS'
    refine ok_lt ?_
    obtain ⟨M3, e3, f3, v3⟩ := mup_gen M2 2 k (band (M2 2 k) (bxor (bshl 1 (c : Int)) (-1)))
    rw [e3]; clear e3
    exact ok_lt (ok_some ⟨hkC, rfl, fun x i q => by
      try dsimp only
      rw [f3 x i (by omega), f2 x i (by omega)]; exact hF x i q, group_out (M := M2) hc h14 hPc G2 f3 v3, hS'⟩)
  refine ok_obn (c_allows J2 aln2 hg2) (fun r hr => ?_)
  refine ok_ite (fun h0 => ok_gd (by omega) (ok_gd (by omega) (back b v (hS.skip (fun ho => absurd ⟨ho.1, ho.2 trivial⟩ (hr.f h0)) (by omega))))) (fun h0 => ?_)
  have ok : okS B known True P c k := ⟨(hr.t h0).1, fun _ => (hr.t h0).2⟩
  refine ok_e (c_harmOf J2 aln2 hg2) ?_
  have eh : harmGG B known (GP B (upP P c k)) = hmS B known P c k := rfl
  have take : SoftLt (-2) (okS B known True P c) (hmS B known P c) (k + 1) (k : Int) (harmGG B known (GP B (upP P c k))) → Okk (f_X10_late_j118k50 c k (harmGG B known (GP B (upP P c k))) k M2)
      (inS (fun s => k < nC B ∧ s.2.2.1 = ((k + 1 : Nat) : Int) ∧ (∀ x i, x ≠ 2 → s.2.2.2 x i = M x i) ∧ (∀ j, j < 3 → gIs B (s.2.2.2 2 j) (GP B P j)) ∧ SoftLt (-2) (okS B known True P c) (hmS B known P c) (k + 1) s.1 s.2.1) (fun s : Int × Int × Int × Mem => (∀ x i, x ≠ 2 → s.2.2.2 x i = M x i) ∧ SoftLt (-2) (okS B known True P c) (hmS B known P c) (nC B) s.1 s.2.1)) := by
    intro hS'
    unfold f_X10_late_j118k50
    rw [toN, wrap_n1 (k := k) (by omega)]
    exact ok_gd (by omega) (ok_gd (by omega) (back _ _ hS'))
  have sgn : b = -2 ∨ 0 ≤ b := by
    rcases hS with q | ⟨k0, h1, h2, -⟩
    · exact Or.inl q.1
    · exact Or.inr (by omega)
  refine ok_ite (fun hb0 => take (hS.new ok (Or.inl (by omega)) (by omega))) (fun hb0 => ok_ite (fun hv => ?_) (fun hv => take (hS.new ok (Or.inr (by omega)) (by omega))))
  exact ok_gd (by omega) (ok_gd (by omega) (back b v (hS.skip (fun _ => ⟨by omega, by omega⟩) (by omega))))
theorem m_softest (H : LR B known M) (hP : PB B (planOf M)) {c : Nat} (hc : c < nK B) {lt : Int} (hlt : isZ lt) :
    Okk (f_X11_softest c lt M) (fun q => (∀ x i, ¬ (x = 108 ∧ i = c) → q.2 x i = M x i) ∧ q.2 108 c = q.1 ∧ ∃ v, SoftLt (-1) (okS B known (lt ≠ 0) (planOf M) c) (hmS B known (planOf M) c) (nC B) q.1 v) := by
  have h14 := H.1.1.n14
  have h3 := H.1.1.k23
  unfold f_X11_softest
  refine ok_obn (P := fun s => (∀ x i, ¬ (x = 108 ∧ i = c) → s.2.2.2 x i = M x i) ∧ SoftLt (-1) (okS B known (lt ≠ 0) (planOf M) c) (hmS B known (planOf M) c) (nC B) s.1 s.2.1) ?_ (fun s hs => ?_)
  · unfold f_X11_softest_l10
    refine ok_whl (nC B) (fun k s => s.2.2.1 = (k : Int) ∧ (∀ x i, ¬ (x = 108 ∧ i = c) → s.2.2.2 x i = M x i) ∧ (s.1 = -1 → s.2.1 = 1000000000) ∧ SoftLt (-1) (okS B known (lt ≠ 0) (planOf M) c) (hmS B known (planOf M) c) k s.1 s.2.1) (FU_big (by omega)) ⟨rfl, fun _ _ _ => rfl, fun _ => rfl, SoftLt.init _ _ _ _⟩ ?_
    rintro k ⟨b, v, w, M1⟩ hk ⟨hw, hF, hv, hS⟩
    dsimp only at hw hF hv hS ⊢
    subst hw
    unfold f_X11_softest_s10
    have e12 : M1 80 12 = (nC B : Int) := by rw [hF 80 12 (by omega)]; exact H.1.k
    rw [e12, toN, wrap_n1 (k := k) (by omega)]
    refine ok_ite (fun h => ?_) (fun h => ?_)
    · have e : k = nC B := by omega
      subst e; exact ok_some ⟨hF, hS⟩
    have hkC : k < nC B := by omega
    refine ok_gd (by omega) (ok_lt ?_)
    obtain ⟨M2, e2, f2, v2⟩ := mup_gen M1 108 c (k : Int)
    rw [e2]; clear e2
    have fr2 : ∀ x i, ¬ (x = 108 ∧ i = c) → M2 x i = M x i := fun x i q => (f2 x i q).trans (hF x i q)
    have L2 : LR B known M2 := H.fr (fun x i q => fr2 x i (by unfold isFa at q; omega))
    have p2 : planOf M2 = upP (planOf M) c k := by
      funext x
      by_cases e : x = c
      · subst e; rw [upP_at]; exact v2
      · rw [upP_ne _ _ e]; exact fr2 108 x (by omega)
    have hP2 : PB B (planOf M2) := by rw [p2]; exact PB_up hP c hkC
    have eS := sound_pg (known := known) H.1.1 hP2
    have eL : lackS B known (planOf M2) = lackGG B known (GP B (planOf M2)) := lack_pg
    have eH := harm_pg (known := known) H.1.1 hP2
    rw [p2] at eS eL eH
    have hb := harmGG_b H.1.1.cf known (GP B (upP (planOf M) c k))
    have lb := lackGG_b H.1.1.cf known (GP B (upP (planOf M) c k))
    have sgn : b = -1 ∨ 0 ≤ b := by
      rcases hS with q | ⟨k0, h1, h2, -⟩
      · exact Or.inl q.1
      · exact Or.inr (by omega)
    have fin : ∀ (b' v' : Int), (b' = -1 → v' = 1000000000) → SoftLt (-1) (okS B known (lt ≠ 0) (planOf M) c) (hmS B known (planOf M) c) (k + 1) b' v' → Okk (some (.inl (b', v', ((k + 1 : Nat) : Int), M2)) : Option ((Int × Int × Int × Mem) ⊕ (Int × Int × Int × Mem))) (inS (fun s => k < nC B ∧ s.2.2.1 = ((k + 1 : Nat) : Int) ∧ (∀ x i, ¬ (x = 108 ∧ i = c) → s.2.2.2 x i = M x i) ∧ (s.1 = -1 → s.2.1 = 1000000000) ∧ SoftLt (-1) (okS B known (lt ≠ 0) (planOf M) c) (hmS B known (planOf M) c) (k + 1) s.1 s.2.1) (fun s : Int × Int × Int × Mem => (∀ x i, ¬ (x = 108 ∧ i = c) → s.2.2.2 x i = M x i) ∧ SoftLt (-1) (okS B known (lt ≠ 0) (planOf M) c) (hmS B known (planOf M) c) (nC B) s.1 s.2.1)) :=
      fun b' v' h1 h2 => ok_some ⟨hkC, rfl, fr2, h1, h2⟩
    refine ok_obn (m_isSound L2 hP2) (fun r hr => ?_)
    rw [p2] at hr
    refine ok_ite (fun h0 => ok_lt (fin b v hv (hS.skip (fun ho => absurd (eS.mpr ho.1) (hr.f h0)) (by omega)))) (fun h0 => ?_)
    have hsnd := eS.mp (hr.t h0)
    -- with its harm
    have weigh : okS B known (lt ≠ 0) (planOf M) c k → ∀ r4 : Int, r4 = hmS B known (planOf M) c k → (r4 < v → SoftLt (-1) (okS B known (lt ≠ 0) (planOf M) c) (hmS B known (planOf M) c) (k + 1) (k : Int) r4) ∧ (¬ r4 < v → SoftLt (-1) (okS B known (lt ≠ 0) (planOf M) c) (hmS B known (planOf M) c) (k + 1) b v) := by
      intro ok r4 hr4
      refine ⟨fun hlt => ?_, fun hlt => hS.skip (fun _ => ?_) (by omega)⟩
      · rw [hr4] at hlt ⊢
        exact hS.new ok (Or.inr hlt) (by omega)
      · rw [hr4] at hlt
        refine ⟨?_, by omega⟩
        rcases sgn with z | z
        · have := hv z
          unfold hmS at hlt
          omega
        · exact z
    refine ok_ite (fun hl0 => ?_) (fun hl0 => ?_)
    · have ok : okS B known (lt ≠ 0) (planOf M) c k := ⟨hsnd, fun z => absurd hl0 z⟩
      refine ok_e (m_allHarm L2 hP2) ?_
      rw [p2, eH]
      have w := weigh ok _ rfl
      exact ok_ite (fun h5 => ok_lt (fin _ _ (fun z => by omega) (w.1 h5))) (fun h5 => ok_lt (fin _ _ hv (w.2 h5)))
    · refine ok_e (m_lack L2) ?_
      rw [p2, eL]
      refine ok_ite (fun h5 => ?_) (fun h5 => ok_lt (fin b v hv (hS.skip (fun ho => by have := ho.2 hl0; omega) (by omega))))
      have ok : okS B known (lt ≠ 0) (planOf M) c k := ⟨hsnd, fun _ => by omega⟩
      refine ok_e (m_allHarm L2 hP2) ?_
      rw [p2, eH]
      have w := weigh ok _ rfl
      exact ok_ite (fun h6 => ok_lt (fin _ _ (fun z => by omega) (w.1 h6))) (fun h6 => ok_lt (fin _ _ hv (w.2 h6)))
  · obtain ⟨b, v, w, M1⟩ := s
    obtain ⟨f1, hS⟩ := hs
    dsimp only at f1 hS ⊢
    unfold f_X11_softest_j77
    rw [toN]
    refine ok_gd (by omega) (ok_lt ?_)
    obtain ⟨M2, e2, f2, v2⟩ := mup_gen M1 108 c b
    rw [e2]; clear e2
    exact ok_some ⟨fun x i q => (f2 x i q).trans (f1 x i q), v2, v, hS⟩
end SOFT
section LATE
variable {M : Mem}
theorem op_late (I : Inv M) (c : Int) : Alk (f_X10_late c M) (f_X11_late c) := by
  have h14 := I.1.n14
  have h3 := I.1.k23
  have hkC := I.1.k
  by_cases hc : 0 ≤ c ∧ c < (nK M : Int)
  by_cases hl : M 110 c.toNat = -1
  · obtain ⟨c, rfl, hc2⟩ := nat_of hc
    rw [toN] at hl
    unfold Alk f_X10_late
    refine ok_b (c2_has I.cf _) (fun _ => ok_ite_f (by decide) ?_) (fun z => absurd hc z)
    rw [toN, I.l1 c, I.cf.r11, I.cf.td]
    refine ok_gd (by omega) (ok_ite_t hl (ok_gd I.cf.ru (ok_obn (c_list I) (fun M1 hM1 => ?_))))
    refine ok_obn hM1.2.2 (fun M2 hM2 => ?_)
    obtain ⟨J2, lv2, -, g2⟩ := hM2
    refine ok_obn (c_late50 J2 (P := lsP M) hc2 hl (fun j hj => g2 j hj)) (fun s hs => ?_)
    obtain ⟨b, v, w, M3⟩ := s
    obtain ⟨f3, hS⟩ := hs
    dsimp only at f3 hS ⊢
    have lv3 : lvC M M3 := fun x i q => by
      by_cases e : x = 2
      · unfold isS isFa isO isX1 isX2 at q; omega
      · rw [f3 x i e]; exact lv2 x i q
    -- the model behind it
    have model : ∀ MX, (∀ x i, ¬ (x = 1 ∧ i = c) → MX x i = M3 x i) → MX 1 c = (if b = -2 then M 1 c else b) → Okk (f_X11_late c MX) (fun q2 => q2.1 = b ∧ Inv q2.2) := by
      intro MX fX vX
      have fr : ∀ x i, (isS x i ∨ 80 ≤ x) ∧ ¬ (x = 1 ∧ i = c) → MX x i = M x i := fun x i q => by rw [fX x i q.2]; exact lv3 x i q.1
      unfold f_X11_late
      obtain ⟨N2, e2, n2⟩ := th0 MX
      refine ok_lt ?_
      rw [e2]
      have H2 : MF M N2 := ⟨I.1, fun x i q => by rw [n2 x i (by unfold isFa at q; omega)]; exact fr x i ⟨Or.inl (Or.inl q), by unfold isFa at q; omega⟩⟩
      have g2' : ∀ x i, 80 ≤ x → ¬ (x = 80 ∧ i = 0) → N2 x i = M x i := fun x i q z => by rw [n2 x i z]; exact fr x i ⟨Or.inr q, by omega⟩
      refine ok_b (m2_isChild H2 _) (fun _ => ok_ite_f (by decide) ?_) (fun z => absurd hc z)
      rw [toN, g2' 110 c (by omega) (by omega)]
      refine ok_gd (by omega) (ok_ite_t hl (ok_obn (m_looks H2) (fun N3 hN3 => ?_)))
      obtain ⟨n3, L3, p3⟩ := hN3
      have e3 : ∀ x, x < nK M → planOf N3 x = lsP M x := fun x hx => by show N3 108 x = M 110 x; rw [p3 x hx, g2' 110 x (by omega) (by omega)]
      have pb3 : PB M (planOf N3) := fun x hx => by rw [e3 x hx]; exact I.pb x hx
      refine ok_bnd (m_softest L3 pb3 hc2 (lt := 1) (Or.inr rfl)) (fun r N4 hN4 => ?_)
      obtain ⟨n4, v4, v', hS'⟩ := hN4
      dsimp only at n4 v4 hS' ⊢
      have egp : ∀ k : Nat, GP M (upP (planOf N3) c k) = GP M (upP (lsP M) c k) := fun k => GP_congr (fun x hx => by
        by_cases e : x = c
        · subst e; rw [upP_at, upP_at]
        · rw [upP_ne _ _ e, upP_ne _ _ e]; exact e3 x hx)
      have eok : okS M (M 80 14) ((1 : Int) ≠ 0) (planOf N3) c = okS M (M 80 14) True (lsP M) c := by
        funext k
        unfold okS
        rw [egp k]
        simp
      have ehm : hmS M (M 80 14) (planOf N3) c = hmS M (M 80 14) (lsP M) c := by
        funext k
        unfold hmS
        rw [egp k]
      rw [eok, ehm] at hS'
      have frN : ∀ x i, isS x i ∧ ¬ (x = 1 ∧ i = c) → N4 x i = M x i := fun x i q => by
        have h108 : ¬ (106 ≤ x ∧ x ≤ 108) := by have := q.1; unfold isS isFa isO isX1 isX2 at this; omega
        rw [n4 x i (by omega), n3 x i h108, n2 x i (by have := q.1; unfold isS isFa isO isX1 isX2 at this; omega)]
        exact fr x i ⟨Or.inl q.1, q.2⟩
      have n41 : N4 1 c = MX 1 c := by rw [n4 1 c (by omega), n3 1 c (by omega), n2 1 c (by omega)]
      rcases SoftLt.uniq hS hS' with ⟨u1, u2⟩ | ⟨u1, u2, u3⟩
      · refine ok_ite_t u2 (ok_some ⟨u1.symm, ?_⟩)
        show Inv N4
        refine I.congr (fun x i q => ?_)
        by_cases e : x = 1 ∧ i = c
        · rw [e.1, e.2, n41, vX, if_pos u1]
        · exact frN x i ⟨q, e⟩
      · refine ok_ite_f (by omega) (ok_gd (by omega) (ok_lt ?_))
        obtain ⟨N5, e5, n5, v5⟩ := mup_gen N4 110 c r
        rw [e5]; clear e5
        refine ok_some ⟨u1.symm, ?_⟩
        show Inv N5
        have l110 : ∀ x, x ≠ c → N5 110 x = M 110 x := fun x hx => by rw [n5 110 x (by omega)]; exact frN 110 x ⟨by unfold isS isO; omega, by omega⟩
        refine I.lst (fun x i q => by rw [n5 x i (by omega)]; exact frN x i ⟨q.1, by omega⟩) (fun x hx => ?_) (fun x => ?_)
        · have e12 : N5 80 12 = M 80 12 := by rw [n5 80 12 (by omega)]; exact frN 80 12 ⟨by unfold isS isFa; omega, by omega⟩
          have e1 : N5 80 1 = M 80 1 := by rw [n5 80 1 (by omega)]; exact frN 80 1 ⟨by unfold isS isFa; omega, by omega⟩
          rw [e12, e1]
          by_cases e : x = c
          · subst e
            have hn := I.1.n
            rw [v5]
            exact ⟨by omega, fun z => by omega⟩
          · rw [l110 x e]; exact I.2.1.ls x hx
        · by_cases e : x = c
          · subst e
            rw [v5, n5 1 x (by omega), n41, vX, if_neg (by omega)]
            exact u1
          · rw [l110 x e, n5 1 x (by omega), frN 1 x ⟨by unfold isS isO; omega, by omega⟩]
            exact I.l1 x
    unfold f_X10_late_j139
    have sgn : b = -2 ∨ 0 ≤ b := by
      rcases hS with q | ⟨k0, h1, h2, -⟩
      · exact Or.inl q.1
      · exact Or.inr (by omega)
    have l13 : M3 1 c = M 1 c := lv3 1 c (Or.inl (by unfold isS isO; omega))
    refine ok_ite (fun h0 => ok_some (model M3 (fun _ _ _ => rfl) (by rw [if_pos (by omega)]; exact l13))) (fun h0 => ok_gd (by omega) (ok_lt ?_))
    rw [toN]
    obtain ⟨M4, e4, f4, v4⟩ := mup_gen M3 1 c b
    rw [e4]; clear e4
    exact ok_some (model M4 f4 (by rw [if_neg (by omega)]; exact v4))
  all_goals (refine alk_ro (ans := -1) I ?_ (fun M1 h1 => ?_))
  all_goals first
    | (unfold f_X10_late
       refine ok_b (c2_has I.cf _) (fun a1 => ok_ite_f (by decide) ?_) (fun z => ok_ite_t rfl (ok_some ⟨lvC.rf M, rfl⟩))
       refine ok_gd (by omega) (ok_ite (fun h => ?_) (fun h => ok_some ⟨lvC.rf M, rfl⟩))
       rw [I.l1 c.toNat] at h
       exfalso
       first | exact hc a1 | exact hl h)
    | (unfold f_X11_late
       obtain ⟨M2, e2, H2, f2, l2, g2⟩ := m_start I h1
       refine ok_lt ?_
       rw [e2]
       refine ok_b (m2_isChild H2 _) (fun a1 => ok_ite_f (by decide) ?_) (fun z => ok_ite_t rfl (ok_some ⟨l2, rfl⟩))
       refine ok_gd (by omega) (ok_ite (fun h => ?_) (fun h => ok_some ⟨l2, rfl⟩))
       rw [g2 110 c.toNat (by omega) (by omega)] at h
       exfalso
       first | exact hc a1 | exact hl h)
end LATE
