/-! lie: what the class answers -/
section LID
variable {M : Mem}
theorem c_groupOf {Z : Mem} {n c : Nat} (h35 : Z 35 2 = (n : Int)) (h9 : n ≤ 9) (h36 : ∀ i, i < n → Z 36 i = (i : Int)) (hc : c < n) : Okk (f_X8_groupOf (c : Int) Z) (fun g => mIs g (fun b => decide (b < n) && decide (Z 47 b = Z 47 c))) := by
  unfold f_X8_groupOf
  refine ok_obn (c_seatOf (mem := idN) h35 h9 h36 (c : Int)) (fun r hr => ?_)
  have er : r = Z 47 c := by
    rcases hr with ⟨i, hi, e, h⟩ | ⟨h, -⟩
    · have : i = c := by have e2 : (i : Int) = (c : Int) := e; omega
      rw [h, this]
    · exact absurd rfl (h c hc)
  subst er
  refine ok_obn (P := fun s => mIs s.1 (fun b => decide (b < n) && decide (Z 47 b = Z 47 c))) ?_ (fun s hs => ok_some hs)
  unfold f_X8_groupOf_l11
  refine ok_whl n (fun k s => s.2 = (k : Int) ∧ mIs s.1 (fun b => decide (b < k) && decide (Z 47 b = Z 47 c))) (FU_big (by omega)) ⟨rfl, mIs_0.congr (fun b _ => by rw [decide_eq_false (by omega)]; rfl)⟩ ?_
  rintro k ⟨v, w⟩ hk ⟨h2, hm⟩
  dsimp only at h2 hm ⊢
  subst h2
  unfold f_X8_groupOf_s11
  rw [h35, toN]
  refine ok_ite (fun h => ?_) (fun h => ?_)
  · have e : k = n := by omega
    subst e; exact ok_some hm
  have hkn : k < n := by omega
  rw [h36 k hkn, wrap_n1 (k := k) (by omega)]
  refine ok_gd (by omega) (ok_ite (fun h5 => ok_gd (by omega) ?_) (fun h5 => ?_))
  · have m := mIs_or hm (mIs_1 (j := k) (by omega))
    refine ok_lt (ok_lt (ok_some ⟨hkn, rfl, m.congr (fun b hb => ?_)⟩))
    by_cases e : b = k
    · subst e
      rw [decide_eq_true (show b < b + 1 by omega), decide_eq_true h5]
      simp
    · rw [show decide (b < k + 1) = decide (b < k) from decide_eq_decide.mpr (by omega), show decide (b = k) = false from decide_eq_false e, Bool.or_false]
  · refine ok_lt (ok_some ⟨hkn, rfl, hm.congr (fun b hb => ?_)⟩)
    by_cases e : b = k
    · subst e
      rw [decide_eq_false h5, Bool.and_false, Bool.and_false]
    · rw [show decide (b < k + 1) = decide (b < k) from decide_eq_decide.mpr (by omega)]
theorem LieC.fr {c p : Nat} {r : Int} {N Z : Mem} (h : LieC M c p r N Z) : ∀ x i, ¬ frB x → ¬ (x = 0 ∧ 16 ≤ i ∧ i ≤ 18) → Z x i = M x i := by
  obtain ⟨iN, fN, cN, z1, z2, z3, z4⟩ := h
  intro x i hx h0
  by_cases h : x < 80
  · by_cases h9 : x = 9
    · subst h9; exact z2 i
    · rw [z1 x i h h9 (by omega), fN x i hx h0, lib_o (by omega) (by omega)]
  · exact z4 x i (by omega)
theorem LieC.inv (I : Inv M) {c p : Nat} {r : Int} {N Z : Mem} (h : LieC M c p r N Z) : Inv Z := by
  have f := h.fr
  have z3 := h.2.2.2.2.2.1
  have ff : ∀ c i, isFa c i → Z c i = M c i := fun c i q => f c i (by unfold isFa at q; unfold frB; omega) (by unfold isFa at q; omega)
  have fZ := I.1.congr ff
  refine ⟨fZ, I.2.1.congr (fun c i q => f c i (by unfold isO at q; unfold frB; omega) (by unfold isO at q; omega)), Or.inl z3, ?_⟩
  exact I.2.2.2.congr I.1 fZ (fa_fe ff) (by rw [ff 80 14 (by unfold isFa; omega)]; exact Int.le_refl _) (fun c i q => f c i (by unfold isX2 at q; unfold frB; omega) (by unfold isX2 at q; omega))
theorem lib_n {c p : Nat} {N : Mem} (h : N 80 1 = M 80 1) : nK N = nK M := by unfold nK; rw [h]
theorem lie_sz (I : Inv M) {N : Mem} (h1 : N 80 1 = M 80 1) (h84 : ∀ i, N 84 i = M 84 i) : szOf N (M 80 14) = nK M := by
  have hn := I.1.n
  have e : nK N = nK M := by unfold nK; rw [h1]
  unfold szOf
  rw [e, cnt_congr (q := fun c => True) (fun c hc => by rw [h84]; exact ⟨fun _ => trivial, fun _ => (I.1.c1 c (by omega)).2.2.2.1.2⟩)]
  have : ∀ n, cnt (fun _ => True) n = (n : Int) := by
    intro n
    induction n with
    | zero => rfl
    | succ n ih => rw [cnt_succ, ih, if_pos trivial]; omega
  rw [this]
  omega
/-- the class's plan, where it has found one -/
theorem LieC.plan (I : Inv M) {c p : Nat} {r : Int} {N Z : Mem} (h : LieC M c p r N Z) (hr : 0 ≤ r) : nK M ≤ 9 ∧ Z 35 2 = (nK M : Int) ∧ ∀ i, i < nK M → Z 36 i = (i : Int) := by
  obtain ⟨iN, fN, cN, z1, z2, z3, z4⟩ := h
  have g : ∀ x i, 80 ≤ x → x ≠ 86 → ¬ (x = 80 ∧ i = 43) → N x i = M x i := fun x i h1 h2 h3 => by rw [fN x i (by unfold frB; omega) (by omega), lib_o (by omega) (by omega)]
  have es := lie_sz I (N := N) (g 80 1 (by omega) (by omega) (by omega)) (fun i => g 84 i (by omega) (by omega) (by omega))
  rcases cN with ⟨-, e⟩ | ⟨-, -, e⟩ | ⟨c1, c2, c3, c4, c5, c6⟩
  · omega
  · omega
  · rw [es] at c3 c5 c6
    exact ⟨c3, by rw [z1 35 2 (by omega) (by omega) (by omega)]; exact c5, fun i hi => by rw [z1 36 i (by omega) (by omega) (by omega)]; exact c6 i hi⟩
end LID
