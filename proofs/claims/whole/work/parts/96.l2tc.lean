/-! make: the first plan -/
section FIRST
variable {B M : Mem} {known : Int}
/-- the CLASS that is softest for a child -/
noncomputable def softF (B : Mem) (known : Int) (P : Nat → Int) (c : Nat) : Int := Classical.epsilon (fun f : Int => ∃ v, SoftLt (-1) (okS B known ((0 : Int) ≠ 0) P c) (hmS B known P c) (nC B) f v)
theorem softF_of {P : Nat → Int} {c : Nat} {f v : Int} (h : SoftLt (-1) (okS B known ((0 : Int) ≠ 0) P c) (hmS B known P c) (nC B) f v) : softF B known P c = f := by
  have hx : ∃ f : Int, ∃ v, SoftLt (-1) (okS B known ((0 : Int) ≠ 0) P c) (hmS B known P c) (nC B) f v := ⟨f, v, h⟩
  obtain ⟨v', h'⟩ := Classical.epsilon_spec hx
  rcases SoftLt.uniq h h' with ⟨a, b⟩ | ⟨a, _, _⟩
  · unfold softF; rw [a]; exact b
  · exact a.symm
theorem softF_b {P : Nat → Int} {c : Nat} {f v : Int} (h : SoftLt (-1) (okS B known ((0 : Int) ≠ 0) P c) (hmS B known P c) (nC B) f v) : f = -1 ∨ (0 ≤ f ∧ f < (nC B : Int)) := by
  rcases h with q | ⟨k0, h1, h2, -⟩
  · exact Or.inl q.1
  · exact Or.inr (by omega)
/-- the PLAN when c CHILDREN have their CLASS -/
noncomputable def stF (B : Mem) (known : Int) : Nat → Nat → Int
  | 0 => fun _ => -1
  | c + 1 => upP (stF B known c) c (softF B known (stF B known c) c)
theorem stF_far : ∀ c x, c ≤ x → stF B known c x = -1 := by
  intro c
  induction c with
  | zero => intro x _; rfl
  | succ c ih =>
    intro x hx
    show upP (stF B known c) c _ x = -1
    rw [upP_ne _ _ (by omega)]; exact ih x (by omega)
def goodTo (B : Mem) (known : Int) (c : Nat) : Prop := ∀ x, x < c → 0 ≤ softF B known (stF B known x) x ∧ softF B known (stF B known x) x < (nC B : Int)
theorem stF_b : ∀ c, goodTo B known c → ∀ x, -1 ≤ stF B known c x ∧ stF B known c x < (nC B : Int) ∧ (x < c → 0 ≤ stF B known c x) := by
  intro c
  induction c with
  | zero => intro _ x; show -1 ≤ (-1 : Int) ∧ (-1 : Int) < _ ∧ _; omega
  | succ c ih =>
    intro h x
    have q := ih (fun y hy => h y (by omega)) x
    have q2 := h c (by omega)
    show -1 ≤ upP (stF B known c) c _ x ∧ upP (stF B known c) c _ x < _ ∧ (_ → 0 ≤ upP (stF B known c) c _ x)
    by_cases e : x = c
    · rw [e, upP_at]; omega
    · rw [upP_ne _ _ e]; omega
theorem aln49 : aln 49 = 3 := by decide +kernel
theorem aln50 : aln 50 = 14 := by decide +kernel
theorem c_first (J : JP B known M) {P : Nat → Int} {c : Nat} (hc : c < nK B) (hPc : P c = -1) (hg : ∀ j, j < 3 → gIs B (M 49 j) (GP B P j)) :
    Okk (f_X2_firstClass c M) (fun q => (∀ x i, x ≠ 49 → q.2 x i = M x i) ∧ (∀ j, j < 3 → gIs B (q.2 49 j) (GP B P j)) ∧ ∃ v, SoftLt (-1) (okS B known ((0 : Int) ≠ 0) P c) (hmS B known P c) (nC B) q.1 v) := by
  have h14 := J.c.1.n14
  have h3 := J.c.1.k23
  unfold f_X2_firstClass
  refine ok_obn (P := fun s => (∀ x i, x ≠ 49 → s.2.2.2 x i = M x i) ∧ (∀ j, j < 3 → gIs B (s.2.2.2 49 j) (GP B P j)) ∧ SoftLt (-1) (okS B known ((0 : Int) ≠ 0) P c) (hmS B known P c) (nC B) s.1 s.2.1) ?_ (fun s hs => by unfold f_X2_firstClass_j97; exact ok_some ⟨hs.1, hs.2.1, _, hs.2.2⟩)
  unfold f_X2_firstClass_l7
  refine ok_whl (nC B) (fun k s => s.2.2.1 = (k : Int) ∧ (∀ x i, x ≠ 49 → s.2.2.2 x i = M x i) ∧ (∀ j, j < 3 → gIs B (s.2.2.2 49 j) (GP B P j)) ∧ SoftLt (-1) (okS B known ((0 : Int) ≠ 0) P c) (hmS B known P c) k s.1 s.2.1) (FU_big (by omega)) ⟨rfl, fun _ _ _ => rfl, hg, SoftLt.init _ _ _ _⟩ ?_
  rintro k ⟨b, v, w, M1⟩ hk ⟨hw, hF, hG, hS⟩
  dsimp only at hw hF hG hS ⊢
  subst hw
  have J1 : JP B known M1 := J.fr (fun x i q => hF x i (by unfold isC at q; omega))
  unfold f_X2_firstClass_s7
  rw [J1.c.k, toN, wrap_n1 (k := k) (by omega)]
  refine ok_ite (fun h => ?_) (fun h => ?_)
  · have e : k = nC B := by omega
    subst e; exact ok_some ⟨hF, hG, hS⟩
  have hkC : k < nC B := by omega
  refine ok_gd (by omega) (ok_gd (by omega) (ok_lt ?_))
  obtain ⟨M2, e2, f2, v2⟩ := mup_gen M1 49 k (bor (M1 49 k) (bshl 1 (c : Int)))
  rw [e2]; clear e2
  have G2 := group_in (M := M1) hc h14 hPc hG f2 v2
  have J2 : JP B known M2 := J1.fr (fun x i q => f2 x i (by unfold isC at q; omega))
  have hg2 : ∀ j, j < nC B → gIs B (M2 49 j) (GP B (upP P c k) j) := fun j hj => G2 j (by omega)
  have hb := harmGG_b J.c known (GP B (upP P c k))
  have back : ∀ (b' v' : Int), SoftLt (-1) (okS B known ((0 : Int) ≠ 0) P c) (hmS B known P c) (k + 1) b' v' → Okk (lt (mup M2 49 k (band (M2 49 k) (bxor (bshl 1 (c : Int)) (-1)))) fun M_3 => lt ((k + 1 : Nat) : Int) fun v4_2 => (some (.inl (b', v', v4_2, M_3)) : Option ((Int × Int × Int × Mem) ⊕ (Int × Int × Int × Mem))))
      (inS (fun s => k < nC B ∧ s.2.2.1 = ((k + 1 : Nat) : Int) ∧ (∀ x i, x ≠ 49 → s.2.2.2 x i = M x i) ∧ (∀ j, j < 3 → gIs B (s.2.2.2 49 j) (GP B P j)) ∧ SoftLt (-1) (okS B known ((0 : Int) ≠ 0) P c) (hmS B known P c) (k + 1) s.1 s.2.1) (fun s : Int × Int × Int × Mem => (∀ x i, x ≠ 49 → s.2.2.2 x i = M x i) ∧ (∀ j, j < 3 → gIs B (s.2.2.2 49 j) (GP B P j)) ∧ SoftLt (-1) (okS B known ((0 : Int) ≠ 0) P c) (hmS B known P c) (nC B) s.1 s.2.1)) := by
    intro b' v' hS'
    refine ok_lt ?_
    obtain ⟨M3, e3, f3, v3⟩ := mup_gen M2 49 k (band (M2 49 k) (bxor (bshl 1 (c : Int)) (-1)))
    rw [e3]; clear e3
    exact ok_lt (ok_some ⟨hkC, rfl, fun x i q => by
      try dsimp only
      rw [f3 x i (by omega), f2 x i (by omega)]; exact hF x i q, group_out (M := M2) hc h14 hPc G2 f3 v3, hS'⟩)
  refine ok_obn (c_isSound J2 aln49 hg2) (fun r hr => ?_)
  refine ok_ite (fun h0 => ok_gd (by omega) (ok_gd (by omega) (back b v (hS.skip (fun ho => absurd ho.1 (hr.f h0)) (by omega))))) (fun h0 => ?_)
  have ok : okS B known ((0 : Int) ≠ 0) P c k := ⟨hr.t h0, fun z => absurd rfl z⟩
  refine ok_e (c_harmOf J2 aln49 hg2) ?_
  have take : SoftLt (-1) (okS B known ((0 : Int) ≠ 0) P c) (hmS B known P c) (k + 1) (k : Int) (harmGG B known (GP B (upP P c k))) → Okk (f_X2_firstClass_j76k7 c k (harmGG B known (GP B (upP P c k))) k M2)
      (inS (fun s => k < nC B ∧ s.2.2.1 = ((k + 1 : Nat) : Int) ∧ (∀ x i, x ≠ 49 → s.2.2.2 x i = M x i) ∧ (∀ j, j < 3 → gIs B (s.2.2.2 49 j) (GP B P j)) ∧ SoftLt (-1) (okS B known ((0 : Int) ≠ 0) P c) (hmS B known P c) (k + 1) s.1 s.2.1) (fun s : Int × Int × Int × Mem => (∀ x i, x ≠ 49 → s.2.2.2 x i = M x i) ∧ (∀ j, j < 3 → gIs B (s.2.2.2 49 j) (GP B P j)) ∧ SoftLt (-1) (okS B known ((0 : Int) ≠ 0) P c) (hmS B known P c) (nC B) s.1 s.2.1)) := by
    intro hS'
    unfold f_X2_firstClass_j76k7
    rw [toN, wrap_n1 (k := k) (by omega)]
    exact ok_gd (by omega) (ok_gd (by omega) (back _ _ hS'))
  have sgn : b = -1 ∨ 0 ≤ b := by
    rcases hS with q | ⟨k0, h1, h2, -⟩
    · exact Or.inl q.1
    · exact Or.inr (by omega)
  refine ok_ite (fun hb0 => take (hS.new ok (Or.inl hb0) (by omega))) (fun hb0 => ok_ite (fun hv => ?_) (fun hv => take (hS.new ok (Or.inr (by unfold hmS; omega)) (by omega))))
  exact ok_gd (by omega) (ok_gd (by omega) (back b v (hS.skip (fun _ => ⟨by omega, by unfold hmS; omega⟩) (by omega))))
/-- the Hand of the class at work: it holds PLAN P -/
def CS (B : Mem) (known : Int) (P : Nat → Int) (tk : Int) (M0 M : Mem) : Prop := JP B known M ∧ (∀ x i, x ≠ 48 → x ≠ 49 → x ≠ 50 → M x i = M0 x i) ∧ (∀ j, j < 3 → gIs B (M 49 j) (GP B P j)) ∧ (∀ x, x < nK B → M 50 x = P x) ∧ M 48 5 = lackGG B known (GP B P) ∧ M 48 6 = harmGG B known (GP B P) ∧ M 48 4 = tk
theorem c_starts (J : JP B known M) : Okk (f_X2_starts M) (fun q => (q.1 = 0 ∧ (∀ x i, x ≠ 48 → x ≠ 49 → x ≠ 50 → q.2 x i = M x i) ∧ ∃ c, c < nK B ∧ goodTo B known c ∧ softF B known (stF B known c) c = -1) ∨ (q.1 = 1 ∧ goodTo B known (nK B) ∧ CS B known (stF B known (nK B)) 0 M q.2)) := by
  have h14 := J.c.1.n14
  have h3 := J.c.1.k23
  unfold f_X2_starts
  refine ok_obn (c_fill 49 (by decide +kernel) 0 M) (fun M1 hM1 => ?_)
  rw [aln49] at hM1
  have f1 : ∀ c i, c ≠ 49 → M1 c i = M c i := fun c i q => by rw [hM1]; exact if_neg (fun z => q z.1)
  have z1 : ∀ k, k < 3 → M1 49 k = 0 := fun k hk => by rw [hM1]; exact if_pos ⟨rfl, hk⟩
  clear hM1
  refine ok_lpr (P := fun s => (∀ x i, x ≠ 49 → x ≠ 50 → s.2 x i = M x i) ∧ goodTo B known (nK B) ∧ (∀ j, j < 3 → gIs B (s.2 49 j) (GP B (stF B known (nK B)) j)) ∧ ∀ x, x < nK B → s.2 50 x = stF B known (nK B) x) (P2 := fun q => q.1 = 0 ∧ (∀ x i, x ≠ 48 → x ≠ 49 → x ≠ 50 → q.2 x i = M x i) ∧ ∃ c, c < nK B ∧ goodTo B known c ∧ softF B known (stF B known c) c = -1) ?_ (fun s hs => ?_) (fun t ht => ok_some (Or.inl ht))
  · unfold f_X2_starts_l10
    refine ok_whl (nK B) (fun c s => s.1 = (c : Int) ∧ (∀ x i, x ≠ 49 → x ≠ 50 → s.2 x i = M x i) ∧ goodTo B known c ∧ (∀ j, j < 3 → gIs B (s.2 49 j) (GP B (stF B known c) j)) ∧ ∀ x, x < c → s.2 50 x = stF B known c x) (FU_big (by omega)) ⟨rfl, fun x i q _ => f1 x i q, fun x hx => absurd hx (by omega), fun j hj => ?_, fun x hx => absurd hx (by omega)⟩ ?_
    · refine ⟨?_, fun c h1 h2 => GP_far h1⟩
      show mIs (M1 49 j) _
      rw [z1 j hj]
      refine mIs_0.congr (fun c _ => ?_)
      unfold GP
      rw [decide_eq_false (show ¬ stF B known 0 c = (j : Int) by show ¬ (-1 : Int) = _; omega), Bool.and_false]
    rintro c ⟨u, N⟩ hc ⟨hu, hF, hgd, hG, hs⟩
    dsimp only at hu hF hgd hG hs ⊢
    subst hu
    have JN : JP B known N := J.fr (fun x i q => hF x i (by unfold isC at q; omega) (by unfold isC at q; omega))
    unfold f_X2_starts_s10
    rw [JN.c.n, toN, wrap_n1 (by omega)]
    refine ok_ite (fun h => ?_) (fun h => ?_)
    · have e : c = nK B := by omega
      subst e; exact ok_some ⟨hF, hgd, hG, hs⟩
    have hcn : c < nK B := by omega
    refine ok_bnd (c_first JN hcn (stF_far c c (Nat.le_refl _)) hG) (fun r N2 hr => ?_)
    obtain ⟨f2, G2, v, hS⟩ := hr
    dsimp only at f2 G2 hS ⊢
    have er := softF_of hS
    have eb := softF_b hS
    refine ok_ite (fun h5 => ok_some ⟨rfl, fun x i q1 q2 q3 => by show N2 x i = _; rw [f2 x i q2]; exact hF x i q2 q3, c, hcn, hgd, by rw [er]; exact h5⟩) (fun h5 => ?_)
    obtain ⟨k, hk⟩ : ∃ k : Nat, r = (k : Int) := ⟨r.toNat, by omega⟩
    subst hk
    rw [toN]
    obtain ⟨N3, e3, f3, v3⟩ := mup_gen N2 50 c (k : Int)
    refine ok_gd (by omega) (ok_lt ?_)
    rw [e3]
    refine ok_gd (by omega) (ok_gd (by omega) (ok_lt ?_))
    obtain ⟨N4, e4, f4, v4⟩ := mup_gen N3 49 k (bor (N3 49 k) (bshl 1 (c : Int)))
    rw [e4]
    have eP : stF B known (c + 1) = upP (stF B known c) c (k : Int) := by show upP (stF B known c) c (softF B known (stF B known c) c) = _; rw [er]
    have G3 : ∀ j, j < 3 → gIs B (N3 49 j) (GP B (stF B known c) j) := fun j hj => by rw [f3 49 j (by omega)]; exact G2 j hj
    refine ok_lt (ok_some ⟨hcn, rfl, fun x i q1 q2 => ?_, fun x hx => ?_, ?_, fun x hx => ?_⟩)
    · try dsimp only
      rw [f4 x i (by omega), f3 x i (by omega), f2 x i q1]; exact hF x i q1 q2
    · by_cases e : x = c
      · rw [e, er]; omega
      · exact hgd x (by omega)
    · rw [eP]
      exact group_in (M := N3) hcn h14 (stF_far c c (Nat.le_refl _)) G3 f4 v4
    · try dsimp only
      rw [eP, f4 50 x (by omega)]
      by_cases e : x = c
      · rw [e, upP_at, v3]
      · rw [upP_ne _ _ e, f3 50 x (by omega), f2 50 x (by omega)]; exact hs x (by omega)
  · obtain ⟨u, N⟩ := s
    obtain ⟨hF, hgd, hG, hs⟩ := hs
    dsimp only at hF hgd hG hs ⊢
    have JN : JP B known N := J.fr (fun x i q => hF x i (by unfold isC at q; omega) (by unfold isC at q; omega))
    unfold f_X2_starts_j59
    have hg : ∀ j, j < nC B → gIs B (N 49 j) (GP B (stF B known (nK B)) j) := fun j hj => hG j (by omega)
    refine ok_e (c_lackOf JN aln49 hg) (ok_lt ?_)
    obtain ⟨N2, e2, f2, v2⟩ := mup_gen N 48 5 (lackGG B known (GP B (stF B known (nK B))))
    rw [e2]
    have J2 : JP B known N2 := JN.fr (fun x i q => f2 x i (by unfold isC at q; omega))
    have hg2 : ∀ j, j < nC B → gIs B (N2 49 j) (GP B (stF B known (nK B)) j) := fun j hj => by rw [f2 49 j (by omega)]; exact hg j hj
    refine ok_e (c_harmOf J2 aln49 hg2) (ok_lt ?_)
    obtain ⟨N3, e3, f3, v3⟩ := mup_gen N2 48 6 (harmGG B known (GP B (stF B known (nK B))))
    rw [e3]
    obtain ⟨N4, e4, f4, v4⟩ := mup_gen N3 48 4 0
    rw [e4]
    have fr4 : ∀ x i, x ≠ 48 → N4 x i = N x i := fun x i q => by rw [f4 x i (by omega), f3 x i (by omega), f2 x i (by omega)]
    refine ok_lt (ok_some (Or.inr ⟨rfl, hgd, JN.fr (fun x i q => fr4 x i (by unfold isC at q; omega)), fun x i q1 q2 q3 => by show N4 x i = _; rw [fr4 x i q1]; exact hF x i q2 q3, fun j hj => by show gIs B (N4 49 j) _; rw [fr4 49 j (by omega)]; exact hG j hj, fun x hx => by show N4 50 x = _; rw [fr4 50 x (by omega)]; exact hs x hx, ?_, ?_, v4⟩))
    · show N4 48 5 = _
      rw [f4 48 5 (by omega), f3 48 5 (by omega)]; exact v2
    · show N4 48 6 = _
      rw [f4 48 6 (by omega)]; exact v3
end FIRST
