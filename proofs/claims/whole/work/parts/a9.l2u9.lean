/-! lie: the two are alike -/
section LIE
variable {M : Mem}
theorem MBx.congr2 {B M : Mem} {known : Int} {n : Nat} {mem : Nat → Nat} {stay : Nat → Int} {N : Nat} {bm f : Int} (hB : MBx B known n mem stay N bm f B) (fB : Fa B) (fM : Fa M) (h : FE B M) (k45 : M 80 45 = B 80 45) (k109 : ∀ i, M 109 i = B 109 i) : MBx M known n mem stay N bm f M := by
  unfold MBx at hB ⊢
  rw [fe_okW h fB fM, fe_hmW h fB, fe_nC h, fe_nK h, k45, show (fun i => M 109 (mem i)) = fun i => B 109 (mem i) from funext (fun i => k109 _)]
  exact ⟨hB.1, hB.2.1, fun z => ⟨(hB.2.2 z).1, fun c hc hno => by rw [k109 c]; exact (hB.2.2 z).2 c hc hno⟩⟩
theorem inv_t {Y : Mem} (I : Inv M) (f : ∀ x i, ¬ ((x = 80 ∧ (i = 0 ∨ i = 43)) ∨ x = 121) → Y x i = M x i) (h : M 80 43 = 0 → Y 80 43 = 0) : Inv Y := by
  have ff : ∀ c i, isFa c i → Y c i = M c i := fun c i q => f c i (by unfold isFa at q; omega)
  have fY := I.1.congr ff
  refine ⟨fY, I.2.1.congr (fun c i q => f c i (by unfold isO at q; omega)), I.2.2.1.congr I.1 fY (fa_fe ff) (ff 80 14 (by unfold isFa; omega)) (fun c i q => f c i (by unfold isX1 at q; omega)), ?_⟩
  rcases I.2.2.2 with z | ⟨q1, q2, q3, g, q4⟩
  · exact Or.inl (h z)
  · refine Or.inr ?_
    unfold okDay at q1 ⊢
    rw [f 80 44 (by omega), fe_sz (fa_fe ff), f 80 14 (by omega), fe_nC (fa_fe ff)]
    exact ⟨q1, q2, q3, g, q4.congr2 I.1 fY (fa_fe ff) (f 80 45 (by omega)) (fun i => f 109 i (by omega))⟩
/-- no wish to ask about: the model says that it threw -/
theorem m_lie_t (I : Inv M) {A : Mem} (hA : ∀ x i, ¬ (x = 80 ∧ i = 0) → A x i = M x i) (c p : Int) : Okk (f_X11_lie_j41 c p 0 A) (fun q => Inv q.2 ∧ q.2 80 0 = 1) := by
  unfold f_X11_lie_j41
  refine ok_lt ?_
  unfold f_X11_lie_j45
  refine ok_lt ?_
  obtain ⟨A1, e1, f1, -⟩ := mup_gen (mzq A) 121 0 0
  rw [e1]
  refine ok_lt ?_
  obtain ⟨A2, e2, f2, -⟩ := mup_gen A1 121 1 0
  rw [e2]
  refine ok_lt ?_
  obtain ⟨A3, e3, f3, -⟩ := mup_gen A2 121 2 0
  rw [e3]
  have g3 : ∀ x i, ¬ (x = 80 ∧ i = 0) → x ≠ 121 → A3 x i = M x i := fun x i h h2 => by
    rw [f3 x i (by omega), f2 x i (by omega), f1 x i (by omega), show mzq A x i = A x i from if_neg h2, hA x i h]
  refine ok_obn (P := fun s => s = (0, A3)) ?_ (fun s hs => ?_)
  · unfold f_X11_lie_l62
    refine ok_whl 0 (fun k s => s = (0, A3)) (FU_big (by omega)) rfl ?_
    rintro k s hk rfl
    show Okk (f_X11_lie_s62 _ _ _ 0 A3) _
    unfold f_X11_lie_s62
    exact ok_ite_f (by decide) (ok_ite_t rfl (ok_some rfl))
  subst hs
  have fin : ∀ s0 : Int, isZ s0 → (M 80 43 = 0 → s0 = 0) → ∀ A5 : Mem, (∀ x i, ¬ (x = 80 ∧ (i = 0 ∨ i = 43)) → x ≠ 121 → A5 x i = M x i) → Okk (f_X11_lie_j175 c 0 (-1) s0 A5) (fun q => Inv q.2 ∧ q.2 80 0 = 1) := by
    intro s0 hz h0 A5 g5
    unfold f_X11_lie_j175
    refine ok_gd hz (ok_lt ?_)
    obtain ⟨A6, e6, f6, v6⟩ := mup_gen A5 80 43 s0
    rw [e6]
    refine ok_obn (P := fun s => s = (0, A6)) ?_ (fun s hs => ?_)
    · unfold f_X11_lie_l181
      refine ok_whl 0 (fun k s => s = (0, A6)) (FU_big (by omega)) rfl ?_
      rintro k s hk rfl
      show Okk (f_X11_lie_s181 _ _ _ 0 A6) _
      unfold f_X11_lie_s181
      exact ok_ite_f (by decide) (ok_ite_t rfl (ok_some rfl))
    subst hs
    unfold f_X11_lie_j213
    refine ok_ite_f (by decide) ?_
    unfold f_X11_lie_j224
    refine ok_lt ?_
    obtain ⟨A7, e7, f7, v7⟩ := mup_gen A6 80 0 1
    rw [e7]
    refine ok_ite_f (by decide) (ok_some ⟨inv_t I (fun x i q => ?_) (fun z => ?_), v7⟩)
    · show A7 x i = M x i
      rw [f7 x i (by omega), f6 x i (by omega), g5 x i (by omega) (by omega)]
    · show A7 80 43 = 0
      rw [f7 80 43 (by omega), v6]; exact h0 z
  have mid : ∀ s0 : Int, isZ s0 → (M 80 43 = 0 → s0 = 0) → Okk (f_X11_lie_j137 c 0 s0 A3) (fun q => Inv q.2 ∧ q.2 80 0 = 1) := by
    intro s0 hz h0
    unfold f_X11_lie_j137
    refine ok_gd hz (ok_lt ?_)
    obtain ⟨A5, e5, f5, v5⟩ := mup_gen A3 80 43 s0
    rw [e5]
    refine ok_ite_t rfl ?_
    have g5 : ∀ x i, ¬ (x = 80 ∧ (i = 0 ∨ i = 43)) → x ≠ 121 → A5 x i = M x i := fun x i h h2 => by rw [f5 x i (by omega), g3 x i (by omega) h2]
    unfold f_X11_lie_j156
    refine ok_ite (fun z => fin 0 (Or.inl rfl) (fun _ => rfl) A5 g5) (fun z => ok_ite_t rfl (fin 1 (Or.inr rfl) (fun y => ?_) A5 g5))
    rw [v5] at z
    exact absurd (h0 y) z
  unfold f_X11_lie_j120
  refine ok_ite (fun z => mid 0 (Or.inl rfl) (fun _ => rfl)) (fun z => ok_ite_t rfl (mid 1 (Or.inr rfl) (fun y => ?_)))
  replace z : ¬ A3 80 43 = 0 := z
  rw [g3 80 43 (by omega) (by omega)] at z
  exact absurd y z
theorem m_lie_c {c p : Nat} (I : Inv M) (hc : c < nK M) (hp : p < 3) (hw : M 86 (3 * c + p) ≠ -1) {r : Int} {N Z : Mem} (L : LieC M c p r N Z) {Q : Int × Mem → Prop}
    (k0 : ∀ Y : Mem, LieM Z Y → r < 0 → Y 80 0 = 1 → Q (0, Y))
    (k1 : ∀ Y : Mem, LieM Z Y → 0 ≤ r → Y 80 0 = 0 → (∀ b, b < nK M → Y 108 b = Z 47 b ∧ 0 ≤ Z 47 b) → Okk (f_X11_lie_j266 (c : Int) Y) Q) :
    Okk (f_X11_lie (c : Int) (p : Int) Z) Q := by
  have h14 := I.1.n14
  have IZ := L.inv I
  have z4 := L.2.2.2.2.2.2
  have nZ : nK Z = nK M := by unfold nK; rw [z4 80 1 (by omega)]
  unfold f_X11_lie
  obtain ⟨M2, e2, H2, f2, l2, g2⟩ := m_start IZ (lvC.rf Z)
  refine ok_lt ?_
  rw [e2]
  refine ok_b (m2_isChild H2 _) (fun _ => ok_ite_f (by decide) ?_) (fun h => absurd h (by omega))
  refine ok_b (m_within _ _ _ _) (fun _ => ok_ite_f (by decide) ?_) (fun h => absurd h (by omega))
  rw [wrap_of (x := 3 * (c : Int)) (by omega) (by omega), wrap_of (x := 3 * (c : Int) + (p : Int)) (by omega) (by omega), show 3 * (c : Int) + (p : Int) = ((3 * c + p : Nat) : Int) by omega, toN]
  refine ok_gd (by omega) (ok_ite_f (by rw [f2 86 _ (by omega), z4 86 _ (by omega)]; exact hw) ?_)
  unfold f_X11_lie_j41
  refine ok_lt ?_
  unfold f_X11_lie_j45
  refine ok_lt ?_
  obtain ⟨A1, e1, f1, -⟩ := mup_gen (mzq M2) 121 0 0
  rw [e1]
  refine ok_lt ?_
  obtain ⟨A2, e2', f2', -⟩ := mup_gen A1 121 1 0
  rw [e2']
  refine ok_lt ?_
  obtain ⟨A3, e3, f3, -⟩ := mup_gen A2 121 2 0
  rw [e3]
  refine ok_e (m_lieL (by omega) hp) ?_
  refine m_lieB I hc hp L (A := A3) (fun x i h h2 => ?_) k0 k1
  rw [f3 x i (by omega), f2' x i (by omega), f1 x i (by omega), show mzq M2 x i = M2 x i from if_neg h2, f2 x i h]
theorem op_lie (I : Inv M) (c p : Int) : AlkX (f_X10_lie c p M) (f_X11_lie c p) := by
  have h14 := I.1.n14
  have thr : Okk (f_X11_lie c p M) (fun q2 => Inv q2.2 ∧ q2.2 80 0 = 1) → Okk (f_X11_lie c p M) (fun q2 => Inv q2.2 ∧ (((2147483648 : Int), M).1 = 2147483648 ∧ q2.2 80 0 = 1 ∨ q2.2 80 0 = 0 ∧ q2.1 = ((2147483648 : Int), M).1)) := fun h => ok_mono h (fun q2 z => ⟨z.1, Or.inl ⟨rfl, z.2⟩⟩)
  obtain ⟨M2, e2, H2, f2, l2, g2⟩ := m_start I (lvC.rf M)
  by_cases hc : 0 ≤ c ∧ c < (nK M : Int)
  · by_cases hp : 0 ≤ p ∧ p ≤ 2
    · obtain ⟨c, rfl, hc'⟩ := nat_of hc
      obtain ⟨p, rfl⟩ : ∃ k : Nat, p = (k : Int) := ⟨p.toNat, by omega⟩
      have hp' : p < 3 := by omega
      by_cases hw : M 86 (3 * c + p) = -1
      · unfold AlkX f_X10_lie
        refine ok_b (c2_has I.cf c) (fun _ => ok_ite_f (by decide) ?_) (fun h => absurd hc h)
        refine ok_b (c_within _ _ _ _) (fun _ => ok_ite_f (by decide) (ok_lt ?_)) (fun h => absurd h (by omega))
        rw [wrap_of (x := (c : Int) * 3) (by omega) (by omega), wrap_of (x := (c : Int) * 3 + (p : Int)) (by omega) (by omega), show (c : Int) * 3 + (p : Int) = ((3 * c + p : Nat) : Int) by omega, toN]
        refine ok_gd (by omega) (ok_ite_t (by rw [I.1.e9]; exact hw) (ok_some (thr ?_)))
        unfold f_X11_lie
        refine ok_lt ?_
        rw [e2]
        refine ok_b (m2_isChild H2 _) (fun _ => ok_ite_f (by decide) ?_) (fun h => absurd hc h)
        refine ok_b (m_within _ _ _ _) (fun _ => ok_ite_f (by decide) ?_) (fun h => absurd h (by omega))
        rw [wrap_of (x := 3 * (c : Int)) (by omega) (by omega), wrap_of (x := 3 * (c : Int) + (p : Int)) (by omega) (by omega), show 3 * (c : Int) + (p : Int) = ((3 * c + p : Nat) : Int) by omega, toN]
        exact ok_gd (by omega) (ok_ite_t (by rw [f2 86 _ (by omega)]; exact hw) (m_lie_t I f2 _ _))
      · refine c_lie I hc' hp' hw (fun r N Z L => ?_)
        have IZ := L.inv I
        have nZ : nK Z = nK M := by unfold nK; rw [L.2.2.2.2.2.2 80 1 (by omega)]
        refine ok_ite (fun hr => ?_) (fun hr => ok_some ?_)
        · obtain ⟨n9, h35, h36⟩ := L.plan I hr
          refine ok_obn (c_groupOf h35 n9 h36 hc') (fun g hg => ?_)
          refine ok_e (c_bestWish IZ.cf (by rw [nZ]; exact hc') hg) (ok_some ?_)
          refine m_lie_c I hc' hp' hw L (fun Y hY h0 hT => absurd hr (by omega)) (fun Y hY _ hT hpl => ?_)
          have mf : MF Z Y := ⟨IZ.1, fun x i q => hY.1 x i (by unfold isFa at q; omega)⟩
          unfold f_X11_lie_j266
          refine ok_e (m_servedIn mf (by rw [nZ]; exact hc')) (ok_some ⟨hY.inv IZ, Or.inr ⟨hT, ?_⟩⟩)
          obtain ⟨k, hk⟩ : ∃ k : Nat, Z 47 c = (k : Int) := ⟨(Z 47 c).toNat, by have := (hpl c hc').2; omega⟩
          show (servedS Z (planOf Y) c : Int) = (servedG Z _ c : Int)
          rw [served_pg IZ.1 (by rw [nZ]; exact hc') (k := k) (show planOf Y c = (k : Int) by show Y 108 c = _; rw [(hpl c hc').1, hk])]
          congr 2
          funext b
          show (decide (b < nK Z) && decide (Y 108 b = (k : Int))) = (decide (b < nK M) && decide (Z 47 b = Z 47 c))
          rw [nZ, hk]
          by_cases hb : b < nK M
          · rw [(hpl b hb).1]
          · rw [decide_eq_false hb]; rfl
        · exact m_lie_c I hc' hp' hw L (fun Y hY h0 hT => ⟨hY.inv IZ, Or.inl ⟨rfl, hT⟩⟩) (fun Y hY h0 _ _ => absurd h0 hr)
    · unfold AlkX f_X10_lie
      refine ok_b (c2_has I.cf c) (fun _ => ok_ite_f (by decide) ?_) (fun h => absurd hc h)
      refine ok_b (c_within _ _ _ _) (fun h => absurd h hp) (fun _ => ok_ite_t rfl (ok_some (thr ?_)))
      unfold f_X11_lie
      refine ok_lt ?_
      rw [e2]
      refine ok_b (m2_isChild H2 _) (fun _ => ok_ite_f (by decide) ?_) (fun h => absurd hc h)
      refine ok_b (m_within _ _ _ _) (fun h => absurd h hp) (fun _ => ok_ite_t rfl (m_lie_t I f2 _ _))
  · unfold AlkX f_X10_lie
    refine ok_b (c2_has I.cf c) (fun h => absurd h hc) (fun _ => ok_ite_t rfl (ok_some (thr ?_)))
    unfold f_X11_lie
    refine ok_lt ?_
    rw [e2]
    refine ok_b (m2_isChild H2 _) (fun h => absurd h hc) (fun _ => ok_ite_t rfl (m_lie_t I f2 _ _))
end LIE
