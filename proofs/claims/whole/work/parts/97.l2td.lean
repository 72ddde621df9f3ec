/-! make: the class's STEPS -/
section STEPS
variable {B M : Mem} {known : Int}
/-- PLAN Q is better than P -/
def btP (B : Mem) (known : Int) (P Q : Nat → Int) : Prop := soundG B known (GP B Q) ∧ (lackGG B known (GP B Q) < lackGG B known (GP B P) ∨ (lackGG B known (GP B Q) = lackGG B known (GP B P) ∧ harmGG B known (GP B Q) < harmGG B known (GP B P)))
def mvOK (B : Mem) (known : Int) (P : Nat → Int) (c k : Nat) : Prop := k < nC B ∧ P c ≠ (k : Int) ∧ btP B known P (upP P c k)
def swOK (B : Mem) (known : Int) (P : Nat → Int) (a b : Nat) : Prop := P a ≠ P b ∧ btP B known P (swL P a b)
def isMv (B : Mem) (known : Int) (P : Nat → Int) (c k : Nat) : Prop := c < nK B ∧ mvOK B known P c k ∧ (∀ k', k' < k → ¬ mvOK B known P c k') ∧ ∀ c', c' < c → ∀ k', ¬ mvOK B known P c' k'
def noMv (B : Mem) (known : Int) (P : Nat → Int) : Prop := ∀ c, c < nK B → ∀ k, ¬ mvOK B known P c k
def isSw (B : Mem) (known : Int) (P : Nat → Int) (a b : Nat) : Prop := a < b ∧ b < nK B ∧ swOK B known P a b ∧ (∀ b', a < b' → b' < b → ¬ swOK B known P a b') ∧ ∀ a', a' < a → ∀ b', a' < b' → b' < nK B → ¬ swOK B known P a' b'
def noSw (B : Mem) (known : Int) (P : Nat → Int) : Prop := ∀ a b, a < b → b < nK B → ¬ swOK B known P a b
/-- a PLAN in which each CHILD has a CLASS -/
def VP (B : Mem) (P : Nat → Int) : Prop := ∀ x, x < nK B → 0 ≤ P x ∧ P x < (nC B : Int)
theorem grp_move {P : Nat → Int} {c k j : Nat} {fr : Int} {v : Int} (h14 : nK B ≤ 14) (hc : c < nK B) (hf : P c = fr) (hk : fr ≠ (k : Int)) (hj : (j : Int) = fr ∨ j = k) (h : gIs B v (GP B P j)) : gIs B (bxor v (bshl 1 (c : Int))) (GP B (upP P c k) j) := by
  refine ⟨(mIs_xor h.1 (mIs_1 (j := c) (by omega))).congr (fun x hx => ?_), fun x h1 h2 => GP_far h1⟩
  unfold GP
  by_cases e : x = c
  · subst e
    rw [upP_at, decide_eq_true hc, decide_eq_true rfl, hf, Bool.true_and, Bool.true_and, Bool.xor_true]
    rcases hj with z | z
    · rw [decide_eq_true z.symm, decide_eq_false (show ¬ (k : Int) = (j : Int) by omega)]; rfl
    · rw [decide_eq_false (show ¬ fr = (j : Int) by omega), decide_eq_true (show (k : Int) = (j : Int) by omega)]; rfl
  · rw [upP_ne _ _ e, decide_eq_false e, Bool.xor_false]
theorem GP_upo {P : Nat → Int} {c k j : Nat} {fr : Int} (hf : P c = fr) (h1 : (j : Int) ≠ fr) (h2 : j ≠ k) : GP B (upP P c k) j = GP B P j := by
  funext x
  unfold GP
  by_cases e : x = c
  · subst e
    rw [upP_at, hf, decide_eq_false (show ¬ (k : Int) = (j : Int) by omega), decide_eq_false (show ¬ fr = (j : Int) by omega)]
  · rw [upP_ne _ _ e]
theorem upP_back {P : Nat → Int} {c : Nat} {k fr : Int} (hf : P c = fr) : upP (upP P c k) c fr = P := by
  funext x
  by_cases e : x = c
  · rw [e, upP_at, hf]
  · rw [upP_ne _ _ e, upP_ne _ _ e]
/-- movers between two CLASSES -/
def MV (B : Mem) (P Q : Nat → Int) (m : Int) (a b : Nat) : Prop := a < 3 ∧ b < 3 ∧ a ≠ b ∧ (∀ v j, (j = a ∨ j = b) → gIs B v (GP B P j) → gIs B (bxor v m) (GP B Q j)) ∧ (∀ v j, (j = a ∨ j = b) → gIs B v (GP B Q j) → gIs B (bxor v m) (GP B P j)) ∧ ∀ j, j < 3 → j ≠ a → j ≠ b → GP B Q j = GP B P j
theorem mv_groups {P Q : Nat → Int} {m : Int} {a b : Nat} (h : MV B P Q m a b) {N N2 N3 : Mem} (hg : ∀ j, j < 3 → gIs B (N 49 j) (GP B P j)) (f2 : ∀ c i, ¬ (c = 49 ∧ i = a) → N2 c i = N c i) (v2 : N2 49 a = bxor (N 49 a) m) (f3 : ∀ c i, ¬ (c = 49 ∧ i = b) → N3 c i = N2 c i) (v3 : N3 49 b = bxor (N2 49 b) m) : ∀ j, j < 3 → gIs B (N3 49 j) (GP B Q j) := by
  obtain ⟨a3, b3, ab, x1, x2, x3⟩ := h
  intro j hj
  by_cases e1 : j = a
  · rw [e1, f3 49 a (by omega), v2]; exact x1 _ a (Or.inl rfl) (hg a a3)
  · by_cases e2 : j = b
    · rw [e2, v3, f2 49 b (by omega)]; exact x1 _ b (Or.inr rfl) (hg b b3)
    · rw [f3 49 j (by omega), f2 49 j (by omega), x3 j hj e1 e2]; exact hg j hj
theorem MV.sym {P Q : Nat → Int} {m : Int} {a b : Nat} (h : MV B P Q m a b) : MV B Q P m a b := ⟨h.1, h.2.1, h.2.2.1, h.2.2.2.2.1, h.2.2.2.1, fun j hj h1 h2 => (h.2.2.2.2.2 j hj h1 h2).symm⟩
theorem c_moveBetters {P Q : Nat → Int} {tk : Int} {M0 : Mem} (X : CS B known P tk M0 M) {m : Int} {a b : Nat} (h : MV B P Q m a b) :
    Okk (f_X2_moveBetters m a b M) (fun q => (q.1 = 0 ∧ ¬ btP B known P Q ∧ CS B known P tk M0 q.2) ∨ (q.1 = 1 ∧ btP B known P Q ∧ (∀ x, x < nK B → q.2 50 x = P x) ∧ JP B known q.2 ∧ (∀ x i, x ≠ 48 → x ≠ 49 → x ≠ 50 → q.2 x i = M0 x i) ∧ (∀ j, j < 3 → gIs B (q.2 49 j) (GP B Q j)) ∧ q.2 48 5 = lackGG B known (GP B Q) ∧ q.2 48 6 = harmGG B known (GP B Q) ∧ q.2 48 4 = tk)) := by
  have h3 := X.1.c.1.k23
  obtain ⟨J, xf, xg, xs, xl, xh, xt⟩ := X
  have ha3 := h.1
  have hb3 := h.2.1
  unfold f_X2_moveBetters
  rw [toN, toN]
  obtain ⟨N2, e2, f2, v2⟩ := mup_gen M 49 a (bxor (M 49 a) m)
  refine ok_gd (by omega) (ok_gd (by omega) (ok_lt ?_))
  rw [e2]
  obtain ⟨N3, e3, f3, v3⟩ := mup_gen N2 49 b (bxor (N2 49 b) m)
  refine ok_gd (by omega) (ok_gd (by omega) (ok_lt ?_))
  rw [e3]
  have G3 := mv_groups h xg f2 v2 f3 v3
  have fr3 : ∀ x i, x ≠ 49 → N3 x i = M x i := fun x i q => by rw [f3 x i (by omega), f2 x i (by omega)]
  have J3 : JP B known N3 := J.fr (fun x i q => fr3 x i (by unfold isC at q; omega))
  have hg3 : ∀ j, j < nC B → gIs B (N3 49 j) (GP B Q j) := fun j hj => G3 j (by omega)
  have back : ¬ btP B known P Q → Okk (lt (mup N3 49 a (bxor (N3 49 a) m)) fun M_4 => gd ((0 : Int) ≤ (b : Int) ∧ ((b : Int) : Int) < 3) <| gd ((0 : Int) ≤ (b : Int) ∧ ((b : Int) : Int) < 3) <| lt (mup M_4 49 b (bxor (M_4 49 b) m)) fun M_5 => (some ((0 : Int), M_5) : Option Res)) (fun q => (q.1 = 0 ∧ ¬ btP B known P Q ∧ CS B known P tk M0 q.2) ∨ (q.1 = 1 ∧ btP B known P Q ∧ (∀ x, x < nK B → q.2 50 x = P x) ∧ JP B known q.2 ∧ (∀ x i, x ≠ 48 → x ≠ 49 → x ≠ 50 → q.2 x i = M0 x i) ∧ (∀ j, j < 3 → gIs B (q.2 49 j) (GP B Q j)) ∧ q.2 48 5 = lackGG B known (GP B Q) ∧ q.2 48 6 = harmGG B known (GP B Q) ∧ q.2 48 4 = tk)) := fun hn => by
    obtain ⟨N4, e4, f4, v4⟩ := mup_gen N3 49 a (bxor (N3 49 a) m)
    refine ok_lt ?_
    rw [e4]
    obtain ⟨N5, e5, f5, v5⟩ := mup_gen N4 49 b (bxor (N4 49 b) m)
    refine ok_gd (by omega) (ok_gd (by omega) (ok_lt ?_))
    rw [e5]
    have fr5 : ∀ x i, x ≠ 49 → N5 x i = M x i := fun x i q => by rw [f5 x i (by omega), f4 x i (by omega)]; exact fr3 x i q
    refine ok_some (Or.inl ⟨rfl, hn, J.fr (fun x i q => fr5 x i (by unfold isC at q; omega)), fun x i q1 q2 q3 => by show N5 x i = _; rw [fr5 x i q2]; exact xf x i q1 q2 q3, mv_groups h.sym G3 f4 v4 f5 v5, fun x hx => by show N5 50 x = _; rw [fr5 50 x (by omega)]; exact xs x hx, ?_, ?_, ?_⟩)
    · show N5 48 5 = _; rw [fr5 48 5 (by omega)]; exact xl
    · show N5 48 6 = _; rw [fr5 48 6 (by omega)]; exact xh
    · show N5 48 4 = _; rw [fr5 48 4 (by omega)]; exact xt
  have take : btP B known P Q → Okk (lt (mup N3 48 5 (lackGG B known (GP B Q))) fun M_8 => lt (mup M_8 48 6 (harmGG B known (GP B Q))) fun M_9 => (some ((1 : Int), M_9) : Option Res)) (fun q => (q.1 = 0 ∧ ¬ btP B known P Q ∧ CS B known P tk M0 q.2) ∨ (q.1 = 1 ∧ btP B known P Q ∧ (∀ x, x < nK B → q.2 50 x = P x) ∧ JP B known q.2 ∧ (∀ x i, x ≠ 48 → x ≠ 49 → x ≠ 50 → q.2 x i = M0 x i) ∧ (∀ j, j < 3 → gIs B (q.2 49 j) (GP B Q j)) ∧ q.2 48 5 = lackGG B known (GP B Q) ∧ q.2 48 6 = harmGG B known (GP B Q) ∧ q.2 48 4 = tk)) := fun hy => by
    obtain ⟨N4, e4, f4, v4⟩ := mup_gen N3 48 5 (lackGG B known (GP B Q))
    refine ok_lt ?_
    rw [e4]
    obtain ⟨N5, e5, f5, v5⟩ := mup_gen N4 48 6 (harmGG B known (GP B Q))
    refine ok_lt ?_
    rw [e5]
    have fr5 : ∀ x i, x ≠ 48 → N5 x i = N3 x i := fun x i q => by rw [f5 x i (by omega), f4 x i (by omega)]
    refine ok_some (Or.inr ⟨rfl, hy, fun x hx => by show N5 50 x = _; rw [fr5 50 x (by omega), fr3 50 x (by omega)]; exact xs x hx, J3.fr (fun x i q => fr5 x i (by unfold isC at q; omega)), fun x i q1 q2 q3 => by show N5 x i = _; rw [fr5 x i q1, fr3 x i q2]; exact xf x i q1 q2 q3, fun j hj => by show gIs B (N5 49 j) _; rw [fr5 49 j (by omega)]; exact G3 j hj, ?_, v5, ?_⟩)
    · show N5 48 5 = _; rw [f5 48 5 (by omega)]; exact v4
    · show N5 48 4 = _; rw [f5 48 4 (by omega), f4 48 4 (by omega), fr3 48 4 (by omega)]; exact xt
  refine ok_e (c_lackOf J3 aln49 hg3) ?_
  rw [fr3 48 5 (by omega), fr3 48 6 (by omega), xl, xh]
  refine ok_ite (fun h1 => ok_gd (by omega) (ok_gd (by omega) (back (fun z => by have := z.2; omega)))) (fun h1 => ?_)
  refine ok_obn (c_isSound J3 aln49 hg3) (fun r hr => ?_)
  refine ok_ite (fun h2 => ok_gd (by omega) (ok_gd (by omega) (back (fun z => hr.f h2 z.1)))) (fun h2 => ?_)
  refine ok_e (c_harmOf J3 aln49 hg3) ?_
  refine ok_ite (fun h4 => take ⟨hr.t h2, Or.inl h4⟩) (fun h4 => ok_ite (fun h5 => ok_gd (by omega) (ok_gd (by omega) (back (fun z => by have := z.2; omega)))) (fun h5 => take ⟨hr.t h2, Or.inr ⟨by omega, by omega⟩⟩))
theorem mv_move {P : Nat → Int} {c k a : Nat} (h14 : nK B ≤ 14) (hc : c < nK B) (ha : P c = (a : Int)) (ha3 : a < 3) (hk : k < 3) (hak : a ≠ k) : MV B P (upP P c k) (bshl 1 (c : Int)) a k := by
  refine ⟨ha3, hk, hak, fun v j hj hg => grp_move h14 hc ha (by omega) (by omega) hg, fun v j hj hg => ?_, fun j hj h1 h2 => GP_upo ha (by omega) h2⟩
  have := grp_move (P := upP P c k) (k := a) (fr := (k : Int)) h14 hc (upP_at _ _ _) (by omega) (j := j) (by omega) hg
  rw [upP_back ha] at this
  exact this
theorem mv_swap {P : Nat → Int} {a b ka kb : Nat} (h14 : nK B ≤ 14) (ha : a < nK B) (hb : b < nK B) (hab : a ≠ b) (h1 : P a = (ka : Int)) (h2 : P b = (kb : Int)) (k1 : ka < 3) (k2 : kb < 3) (hk : ka ≠ kb) : MV B P (swL P a b) (bor (bshl 1 (a : Int)) (bshl 1 (b : Int))) ka kb := by
  refine ⟨k1, k2, hk, fun v j hj hg => grp_swap h14 ha hb hab (by omega) hg, fun v j hj hg => ?_, fun j hj z1 z2 => ?_⟩
  · have := grp_swap (L := swL P a b) (k := j) h14 ha hb hab (by rw [swL_a, swL_b hab]; omega) hg
    rw [swL_sw hab] at this
    exact this
  · funext x
    unfold GP
    by_cases e1 : x = a
    · rw [e1, swL_a, h1, h2, decide_eq_false (show ¬ (kb : Int) = (j : Int) by omega), decide_eq_false (show ¬ (ka : Int) = (j : Int) by omega)]
    · by_cases e2 : x = b
      · rw [e2, swL_b hab, h1, h2, decide_eq_false (show ¬ (kb : Int) = (j : Int) by omega), decide_eq_false (show ¬ (ka : Int) = (j : Int) by omega)]
      · rw [swL_o e1 e2]
end STEPS
