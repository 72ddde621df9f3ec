/-! lie: the class -/
section LIC
variable {M : Mem} {c p : Nat}
def lc (M : Mem) (c p k : Nat) : Mem := fun x i => if x = 9 ∧ i / 3 = c ∧ i % 3 < k ∧ i % 3 ≠ p then -1 else M x i
theorem lc_0 : lc M c p 0 = M := by
  funext x i
  exact if_neg (by omega)
theorem lc_p {k : Nat} (h : k = p) : lc M c p k = lc M c p (k + 1) := by
  funext x i
  show (if _ then _ else _) = (if _ then _ else _)
  by_cases z : x = 9 ∧ i / 3 = c ∧ i % 3 < k ∧ i % 3 ≠ p
  · rw [if_pos z, if_pos (by omega)]
  · rw [if_neg z, if_neg (by omega)]
theorem lc_n {k : Nat} (hk : k < 3) (h : k ≠ p) : mup (lc M c p k) 9 (3 * c + k) (-1) = lc M c p (k + 1) := by
  funext x i
  show (if _ then _ else if _ then _ else _) = (if _ then _ else _)
  by_cases z : x = 9 ∧ i = 3 * c + k
  · rw [if_pos z, if_pos (by omega)]
  · rw [if_neg z]
    by_cases y : x = 9 ∧ i / 3 = c ∧ i % 3 < k ∧ i % 3 ≠ p
    · rw [if_pos y, if_pos (by omega)]
    · rw [if_neg y, if_neg (by omega)]
theorem lc_lib : mup (lc M c p 3) 0 16 0 = uo M (lib M c p) := by
  funext x i
  show (if _ then _ else if _ then _ else _) = (if _ then (if _ then _ else if _ then _ else _) else _)
  by_cases h : x < 80
  · rw [if_pos h]
    by_cases z : x = 0 ∧ i = 16
    · rw [if_pos z, if_neg (by omega), if_pos (Or.inl z)]
    · rw [if_neg z]
      by_cases y : x = 9 ∧ i / 3 = c ∧ i % 3 < 3 ∧ i % 3 ≠ p
      · rw [if_pos y, if_pos (by omega)]
      · rw [if_neg y, if_neg (by omega), if_neg (by omega)]
  · rw [if_neg h, if_neg (by omega), if_neg (by omega)]
theorem c_lieL (hc : c < 14) (hp : p < 3) (v4 v5 v6 : Int) : f_X10_lie_l101 (c : Int) (p : Int) ((3 * c : Nat) : Int) v4 v5 v6 0 M = some (3, lc M c p 3) := by
  unfold f_X10_lie_l101
  refine whl_n 3 (fun k => ((k : Int), lc M c p k)) (by omega) (by rw [lc_0]; rfl) (fun k hk => ok_to ?_) (ok_to ?_)
  · show Okk (f_X10_lie_s101 _ _ _ _ _ _ (k : Int) (lc M c p k)) _
    unfold f_X10_lie_s101
    rw [wrap_of (x := (k : Int) + 1) (by omega) (by omega), wrap_of (x := ((3 * c : Nat) : Int) + (k : Int)) (by omega) (by omega), show ((3 * c : Nat) : Int) + (k : Int) = ((3 * c + k : Nat) : Int) by omega, toN]
    refine ok_ite_f (by omega) (ok_ite (fun h => ?_) (fun h => ?_))
    · rw [lc_p (M := M) (c := c) (p := p) (show k = p by omega)]
      exact ok_lt (ok_some rfl)
    · rw [lc_n hk (show k ≠ p by omega)]
      exact ok_gd (by omega) (ok_lt (ok_lt (ok_some rfl)))
  · show Okk (f_X10_lie_s101 _ _ _ _ _ _ 3 (lc M c p 3)) _
    unfold f_X10_lie_s101
    exact ok_ite_t (by omega) (ok_some rfl)
/-- what the class has done when it has put the wishes back -/
def LieC (M : Mem) (c p : Nat) (r : Int) (N Z : Mem) : Prop := Inv N ∧ (∀ x i, ¬ frB x → ¬ (x = 0 ∧ 16 ≤ i ∧ i ≤ 18) → N x i = lib M c p x i) ∧ CBok N (M 80 14) r ∧ (∀ x i, x < 80 → x ≠ 9 → ¬ (x = 0 ∧ i = 16) → Z x i = N x i) ∧ (∀ i, Z 9 i = M 9 i) ∧ Z 0 16 = 0 ∧ ∀ x i, 80 ≤ x → Z x i = M x i
theorem c_lieJ (I : Inv M) (hc : c < nK M) (hp : p < 3) {v4 v5 v6 : Int} {Q : Int × Mem → Prop} (hv4 : v4 = M 9 (3 * c)) (hv5 : v5 = M 9 (3 * c + 1)) (hv6 : v6 = M 9 (3 * c + 2))
    (k : ∀ (r : Int) (N Z : Mem), LieC M c p r N Z → Okk (if 0 ≤ r then obn (f_X8_groupOf (c : Int) Z) fun r_2 => obn (f_X1_bestWish (c : Int) r_2 Z) fun r_3 => some (r_3, Z) else some (2147483648, Z)) Q) :
    Okk (f_X10_lie_j132 (c : Int) ((3 * c : Nat) : Int) v4 v5 v6 (lc M c p 3)) Q := by
  have h14 := I.1.n14
  unfold f_X10_lie_j132
  refine ok_lt ?_
  rw [lc_lib, uo_lo (show 0 < 80 by omega), oc_X10_bestPlan]
  have IB := lib_inv I hc hp
  obtain ⟨q, eq, hq⟩ := c_bestPlan IB (lib M c p 0 13)
  rw [eq]
  obtain ⟨iN, fN, cN⟩ := hq
  have e13 : lib M c p 0 13 = M 80 14 := by rw [lib_o (by omega) (by omega)]; exact I.1.a3.1
  rw [e13] at cN
  refine ok_bnd (P := fun s => s = (q.1, uo M q.2)) (ok_some rfl) (fun r N1 h1 => ?_)
  cases h1
  refine ok_lt ?_
  obtain ⟨M4, e4, f4, w4⟩ := mup_gen (uo M q.2) 0 16 0
  rw [e4, toN]
  refine ok_gd (by omega) (ok_lt ?_)
  obtain ⟨M5, e5, f5, w5⟩ := mup_gen M4 9 (3 * c) v4
  rw [e5, wrap_of (x := ((3 * c : Nat) : Int) + 1) (by omega) (by omega), show ((3 * c : Nat) : Int) + 1 = ((3 * c + 1 : Nat) : Int) by omega, toN]
  refine ok_gd (by omega) (ok_lt ?_)
  obtain ⟨M6, e6, f6, w6⟩ := mup_gen M5 9 (3 * c + 1) v5
  rw [e6, wrap_of (x := ((3 * c : Nat) : Int) + 2) (by omega) (by omega), show ((3 * c : Nat) : Int) + 2 = ((3 * c + 2 : Nat) : Int) by omega, toN]
  refine ok_gd (by omega) (ok_lt ?_)
  obtain ⟨M7, e7, f7, w7⟩ := mup_gen M6 9 (3 * c + 2) v6
  rw [e7]
  refine k q.1 q.2 M7 ⟨iN, fN, cN, fun x i h h9 h0 => ?_, fun i => ?_, ?_, fun x i h => ?_⟩
  · rw [f7 x i (by omega), f6 x i (by omega), f5 x i (by omega), f4 x i (by omega)]
    exact uo_lo h
  · by_cases z2 : i = 3 * c + 2
    · rw [z2, w7, hv6]
    · rw [f7 9 i (by omega)]
      by_cases z1 : i = 3 * c + 1
      · rw [z1, w6, hv5]
      · rw [f6 9 i (by omega)]
        by_cases z0 : i = 3 * c
        · rw [z0, w5, hv4]
        · rw [f5 9 i (by omega), f4 9 i (by omega), uo_lo (show 9 < 80 by omega), fN 9 i (by unfold frB; omega) (by omega), lib_o (by omega) (by omega)]
  · rw [f7 0 16 (by omega), f6 0 16 (by omega), f5 0 16 (by omega)]; exact w4
  · rw [f7 x i (by omega), f6 x i (by omega), f5 x i (by omega), f4 x i (by omega)]
    exact uo_hi h
/-- the class's call, as far as the wishes are put back -/
theorem c_lie (I : Inv M) (hc : c < nK M) (hp : p < 3) (hw : M 86 (3 * c + p) ≠ -1) {Q : Int × Mem → Prop}
    (k : ∀ (r : Int) (N Z : Mem), LieC M c p r N Z → Okk (if 0 ≤ r then obn (f_X8_groupOf (c : Int) Z) fun r_2 => obn (f_X1_bestWish (c : Int) r_2 Z) fun r_3 => some (r_3, Z) else some (2147483648, Z)) Q) :
    Okk (f_X10_lie (c : Int) (p : Int) M) Q := by
  have h14 := I.1.n14
  unfold f_X10_lie
  refine ok_b (c2_has I.cf c) (fun _ => ok_ite_f (by decide) ?_) (fun h => absurd h (by omega))
  refine ok_b (c_within _ _ _ _) (fun _ => ok_ite_f (by decide) (ok_lt ?_)) (fun h => absurd h (by omega))
  rw [wrap_of (x := (c : Int) * 3) (by omega) (by omega), show (c : Int) * 3 = ((3 * c : Nat) : Int) by omega, wrap_of (x := ((3 * c : Nat) : Int) + (p : Int)) (by omega) (by omega), show ((3 * c : Nat) : Int) + (p : Int) = ((3 * c + p : Nat) : Int) by omega, wrap_of (x := ((3 * c : Nat) : Int) + 1) (by omega) (by omega), show ((3 * c : Nat) : Int) + 1 = ((3 * c + 1 : Nat) : Int) by omega, wrap_of (x := ((3 * c : Nat) : Int) + 2) (by omega) (by omega), show ((3 * c : Nat) : Int) + 2 = ((3 * c + 2 : Nat) : Int) by omega, toN, toN, toN, toN]
  refine ok_gd (by omega) (ok_ite_f (by rw [I.1.e9]; exact hw) ?_)
  refine ok_gd (by omega) (ok_lt (ok_gd (by omega) (ok_lt (ok_gd (by omega) (ok_lt ?_)))))
  refine ok_e (c_lieL (by omega) hp _ _ _) ?_
  exact c_lieJ I hc hp rfl rfl rfl k
end LIC
