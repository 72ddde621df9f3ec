/-! close: what the YEAR leaves of the REGRETs -/
abbrev lowW (B : Mem) (a : Nat) : Prop := B 114 a ≠ -1 ∧ B 114 a + B 115 a < 5
abbrev rgOk (B : Mem) (a b : Nat) : Prop := a ≠ b ∧ B 110 a ≠ -1 ∧ B 110 a = B 110 b ∧ lowW B a ∧ lowW B b
def nrg (B : Mem) (a b : Nat) : Int := if rgOk B a b ∧ B 87 (14 * a + b) < 99 then B 87 (14 * a + b) + 1 else B 87 (14 * a + b)
theorem rgOk_sym {B : Mem} {a b : Nat} (h : rgOk B a b) : rgOk B b a := ⟨fun e => h.1 e.symm, by rw [← h.2.2.1]; exact h.2.1, h.2.2.1.symm, h.2.2.2.2, h.2.2.2.1⟩
theorem nrg_sym {B : Mem} (h4 : C4 B) {a b : Nat} (ha : a < 14) (hb : b < 14) : nrg B a b = nrg B b a := by
  have e := (h4 a b ha hb).2
  unfold nrg
  rw [e]
  by_cases z : rgOk B a b
  · have y := rgOk_sym z
    by_cases w : B 87 (14 * b + a) < 99
    · rw [if_pos ⟨z, w⟩, if_pos ⟨y, w⟩]
    · rw [if_neg (fun p => w p.2), if_neg (fun p => w p.2)]
  · have y : ¬ rgOk B b a := fun w => z (rgOk_sym w)
    rw [if_neg (fun w => z w.1), if_neg (fun w => y w.1)]
section CLOSE
variable {B M : Mem}
theorem c_badly {a : Nat} (ha : a < 14) (h1 : M 14 a = B 114 a) (h2 : M 15 a = B 115 a) (wd : Wd B) : f_X1_wentBadly a M = some (b2i (lowW B a)) := by
  have w := wd a ha
  refine ok_to ?_
  unfold f_X1_wentBadly
  rw [toN, h1, h2, wrap_of (by omega) (by omega)]
  refine ok_gd (by omega) (ok_ite (fun h => ok_some ?_) (fun h => ok_gd (by omega) (ok_gd (by omega) (ok_ite (fun h5 => ok_some ?_) (fun h5 => ok_some ?_)))))
  · unfold b2i; rw [if_neg (fun z => z.1 h)]
  · unfold b2i; rw [if_neg (fun z => by have := z.2; omega)]
  · unfold b2i; rw [if_pos ⟨h, by omega⟩]
theorem m_low {a : Nat} (ha : a < 14) (h1 : M 114 a = B 114 a) (h2 : M 115 a = B 115 a) (wd : Wd B) : f_X11_isLow a M = some (b2i (lowW B a)) := by
  have w := wd a ha
  refine ok_to ?_
  unfold f_X11_isLow
  rw [toN, h1, h2, wrap_of (by omega) (by omega)]
  refine ok_gd (by omega) (ok_ite (fun h => ok_some ?_) (fun h => ok_gd (by omega) (ok_gd (by omega) (ok_ite (fun h5 => ok_some ?_) (fun h5 => ok_some ?_)))))
  · unfold b2i; rw [if_neg (fun z => z.1 h)]
  · unfold b2i; rw [if_neg (fun z => by have := z.2; omega)]
  · unfold b2i; rw [if_pos ⟨h, by omega⟩]
theorem c_addR {a b : Nat} {v : Int} (ha : a < 14) (hb : b < 14) (hv : 0 ≤ v ∧ v ≤ 99) (h : M 13 (14 * a + b) = v) : Okk (f_X1_addRegret a b M) (fun M' => (∀ c i, ¬ (c = 13 ∧ (i = 14 * a + b ∨ i = 14 * b + a)) → M' c i = M c i) ∧ M' 13 (14 * a + b) = (if v < 99 then v + 1 else v) ∧ M' 13 (14 * b + a) = (if v < 99 then v + 1 else v)) := by
  have eab : wrap ((wrap ((a : Int) * 14)) + b) = ((14 * a + b : Nat) : Int) := by rw [wrap_of (x := (a : Int) * 14) (by omega) (by omega), wrap_of (by omega) (by omega)]; omega
  have eba : wrap ((wrap ((b : Int) * 14)) + a) = ((14 * b + a : Nat) : Int) := by rw [wrap_of (x := (b : Int) * 14) (by omega) (by omega), wrap_of (by omega) (by omega)]; omega
  have ev : (if 99 < wrap (v + 1) then 99 else wrap (v + 1)) = (if v < 99 then v + 1 else v) := by
    rw [wrap_of (by omega) (by omega)]
    by_cases z : v < 99
    · rw [if_neg (by omega), if_pos z]
    · rw [if_pos (by omega), if_neg z]; omega
  unfold f_X1_addRegret
  rw [eab, eba, toN, toN, h, ev]
  generalize (if v < 99 then v + 1 else v) = w
  clear eab eba ev
  obtain ⟨M2, e2, f2, v2⟩ := mup_gen M 13 (14 * a + b) w
  obtain ⟨M3, e3, f3, v3⟩ := mup_gen M2 13 (14 * b + a) w
  refine ok_gd (by omega) (ok_lt (ok_gd (by omega) (ok_lt ?_)))
  rw [e2]
  refine ok_gd (by omega) (ok_lt ?_)
  rw [e3]
  clear e2 e3
  refine ok_some ⟨fun c i q => by rw [f3 c i (by omega), f2 c i (by omega)], ?_, v3⟩
  by_cases z : 14 * a + b = 14 * b + a
  · rw [z]; exact v3
  · rw [f3 _ _ (by omega)]; exact v2
/-- of pairs that are done -/
def dnP (n a j x y : Nat) : Prop := (x < y ∧ y < n ∧ (x < a ∨ (x = a ∧ y < j))) ∨ (y < x ∧ x < n ∧ (y < a ∨ (y = a ∧ x < j)))
def RgI (B : Mem) (n a j : Nat) (M : Mem) : Prop := (∀ c i, ¬ (c = 13 ∧ i < 196) → M c i = B c i) ∧ ∀ x y, x < 14 → y < 14 → (dnP n a j x y → M 13 (14 * x + y) = nrg B x y) ∧ (¬ dnP n a j x y → M 13 (14 * x + y) = B 87 (14 * x + y))
theorem c_part1 {n a : Nat} (hn : n ≤ 14) (ha : a < n) (h3 : B 3 0 = (n : Int)) (h4 : C4 B) (wd : Wd B) (l1 : ∀ i, B 1 i = B 110 i) (l14 : ∀ i, B 14 i = B 114 i) (l15 : ∀ i, B 15 i = B 115 i) (h : RgI B n a (a + 1) M) : Okk (f_X10_partPairs_l17 a ((a + 1 : Nat) : Int) M) (fun q => RgI B n a n q.2) := by
  unfold f_X10_partPairs_l17
  refine ok_whl (n - (a + 1)) (fun k (q : Int × Mem) => q.1 = ((a + 1 + k : Nat) : Int) ∧ RgI B n a (a + 1 + k) q.2) (FU_big (by omega)) ⟨rfl, h⟩ ?_
  rintro k ⟨v, N⟩ hk ⟨rfl, hI⟩
  dsimp only at hI ⊢
  have hI' := hI
  obtain ⟨hf, hR⟩ := hI
  unfold f_X10_partPairs_s17
  rw [hf 3 0 (by omega), h3]
  refine ok_ite (fun z => ok_some ?_) (fun z => ?_)
  · have e : a + 1 + k = n := by omega
    rw [e] at hI'
    exact hI'
  generalize hj : a + 1 + k = j at hI' hR z ⊢
  have hjn : j < n := by omega
  have step : ∀ N2 : Mem, RgI B n a (j + 1) N2 → Okk (lt (wrap ((j : Int) + 1)) fun v => some (Sum.inl (v, N2)) : Option ((Int × Mem) ⊕ (Int × Mem))) (inS (fun s' : Int × Mem => k < n - (a + 1) ∧ s'.1 = ((a + 1 + (k + 1) : Nat) : Int) ∧ RgI B n a (a + 1 + (k + 1)) s'.2) (fun q : Int × Mem => RgI B n a n q.2)) := fun N2 h2 => by
    rw [wrap_n1 (by omega)]
    refine ok_lt (ok_some ⟨by omega, by show ((j + 1 : Nat) : Int) = _; omega, ?_⟩)
    rw [show a + 1 + (k + 1) = j + 1 by omega]
    exact h2
  have dn1 : ∀ x y, dnP n a (j + 1) x y → dnP n a j x y ∨ (x = a ∧ y = j) ∨ (x = j ∧ y = a) := fun x y q => by
    unfold dnP at q ⊢; omega
  have dn2 : ∀ x y, dnP n a j x y → dnP n a (j + 1) x y := fun x y q => by
    unfold dnP at q ⊢; omega
  have dn0 : ¬ dnP n a j a j := by unfold dnP; omega
  have dn3 : dnP n a (j + 1) a j := by unfold dnP; omega
  have dn4 : dnP n a (j + 1) j a := by unfold dnP; omega
  have dn5 : ¬ dnP n a j j a := by unfold dnP; omega
  -- nothing is added
  have none' : ¬ rgOk B a j → RgI B n a (j + 1) N := fun q => by
    have q2 : ¬ rgOk B j a := fun w => q (rgOk_sym w)
    refine ⟨hf, fun x y hx hy => ⟨fun d => ?_, fun d => (hR x y hx hy).2 (fun w => d (dn2 x y w))⟩⟩
    rcases dn1 x y d with w | ⟨rfl, rfl⟩ | ⟨rfl, rfl⟩
    · exact (hR x y hx hy).1 w
    · rw [(hR x y hx hy).2 dn0]; unfold nrg; rw [if_neg (fun w => q w.1)]
    · rw [(hR x y hx hy).2 dn5]; unfold nrg; rw [if_neg (fun w => q2 w.1)]
  have c1 : ∀ i, N 1 i = B 110 i := fun i => by rw [hf 1 i (by omega)]; exact l1 i
  have c14 : ∀ i, N 14 i = B 114 i := fun i => by rw [hf 14 i (by omega)]; exact l14 i
  have c15 : ∀ i, N 15 i = B 115 i := fun i => by rw [hf 15 i (by omega)]; exact l15 i
  rw [toN, toN, c1 a, c1 j]
  refine ok_gd (by omega) (ok_ite (fun q => step N (none' (fun w => w.2.1 q))) (fun q1 => ok_gd (by omega) (ok_gd (by omega) (ok_ite (fun q2 => ?_) (fun q => step N (none' (fun w => q w.2.2.1)))))))
  refine ok_b (c_badly (B := B) (by omega) (c14 a) (c15 a) wd) (fun q3 => ok_ite_f (by decide) ?_) (fun q => ok_ite_t rfl (step N (none' (fun w => q w.2.2.2.1))))
  refine ok_b (c_badly (B := B) (by omega) (c14 j) (c15 j) wd) (fun q4 => ok_ite_f (by decide) ?_) (fun q => ok_ite_t rfl (step N (none' (fun w => q w.2.2.2.2))))
  have yes : rgOk B a j := ⟨by omega, q1, q2, q3, q4⟩
  have yes2 := rgOk_sym yes
  have b4 := h4 a j (by omega) (by omega)
  refine ok_obn (c_addR (v := B 87 (14 * a + j)) (by omega) (by omega) b4.1 ((hR a j (by omega) (by omega)).2 dn0)) (fun N2 hN2 => step N2 ?_)
  obtain ⟨f2, u1, u2⟩ := hN2
  have ea : (if B 87 (14 * a + j) < 99 then B 87 (14 * a + j) + 1 else B 87 (14 * a + j)) = nrg B a j := by
    unfold nrg
    by_cases w : B 87 (14 * a + j) < 99
    · rw [if_pos w, if_pos ⟨yes, w⟩]
    · rw [if_neg w, if_neg (fun p => w p.2)]
  rw [ea] at u1 u2
  refine ⟨fun c i q => by rw [f2 c i (by omega)]; exact hf c i q, fun x y hx hy => ⟨fun d => ?_, fun d => ?_⟩⟩
  · by_cases e1 : x = a ∧ y = j
    · rw [e1.1, e1.2]; exact u1
    · by_cases e2 : x = j ∧ y = a
      · rw [e2.1, e2.2, u2]; exact nrg_sym h4 (by omega) (by omega)
      · have d' : dnP n a j x y := by
          rcases dn1 x y d with w | w | w
          · exact w
          · exact absurd w e1
          · exact absurd w e2
        rw [f2 13 (14 * x + y) (by omega)]
        exact (hR x y hx hy).1 d'
  · have e1 : ¬ (x = a ∧ y = j) := fun e => d (by rw [e.1, e.2]; exact dn3)
    have e2 : ¬ (x = j ∧ y = a) := fun e => d (by rw [e.1, e.2]; exact dn4)
    rw [f2 13 (14 * x + y) (by omega)]
    exact (hR x y hx hy).2 (fun w => d (dn2 x y w))
end CLOSE
