/-! lie: the model's run -/
section LIN
variable {M : Mem} {c p : Nat}
theorem m_lieT {K : Mem} {n : Nat} (hn : K 80 1 = (n : Int)) (h14 : n ≤ 14) (hc : c < n) (r : Int) {Q : Int × Mem → Prop}
    (k0 : ∀ Y : Mem, (∀ x i, ¬ ((x = 80 ∧ (i = 0 ∨ i = 43)) ∨ x = 108 ∨ (x = 86 ∧ i / 3 = c)) → Y x i = K x i) → (∀ j, j < 3 → Y 86 (3 * c + j) = K 121 j) → Y 80 43 = 0 → r < 0 → Y 80 0 = 1 → Q (0, Y))
    (k1 : ∀ Y : Mem, (∀ x i, ¬ ((x = 80 ∧ (i = 0 ∨ i = 43)) ∨ x = 108 ∨ (x = 86 ∧ i / 3 = c)) → Y x i = K x i) → (∀ j, j < 3 → Y 86 (3 * c + j) = K 121 j) → Y 80 43 = 0 → 0 ≤ r → Y 80 0 = 0 → (∀ b, b < n → Y 108 b = K 109 b) → Okk (f_X11_lie_j266 (c : Int) Y) Q) :
    Okk (f_X11_lie_j156 (c : Int) 1 r K) Q := by
  have go : Okk (f_X11_lie_j175 (c : Int) 1 r 0 K) Q := by
    unfold f_X11_lie_j175
    refine ok_gd (Or.inl rfl) (ok_lt ?_)
    obtain ⟨K2, e2, f2, v2⟩ := mup_gen K 80 43 0
    rw [e2]
    refine ok_obn (m_lieR (by omega) r) (fun s hs => ?_)
    obtain ⟨fs, ts⟩ := hs
    unfold f_X11_lie_j213
    refine ok_ite (fun h => ?_) (fun h => ?_)
    · unfold f_X11_lie_j224
      refine ok_lt ?_
      obtain ⟨K3, e3, f3, v3⟩ := mup_gen s.2 80 0 0
      rw [e3]
      refine ok_ite_t h (ok_obn (m_copy237 (n := n) (by rw [f3 80 1 (by omega), fs 80 1 (by omega), f2 80 1 (by omega)]; exact hn) h14 (c : Int)) (fun q hq => ?_))
      obtain ⟨fq, tq⟩ := hq
      refine k1 q.2 (fun x i z => ?_) (fun j hj => ?_) ?_ h ?_ (fun b hb => ?_)
      · rw [fq x i (by omega), f3 x i (by omega), fs x i (by omega), f2 x i (by omega)]
      · rw [fq 86 _ (by omega), f3 86 _ (by omega), ts j hj, f2 121 j (by omega)]
      · rw [fq 80 43 (by omega), f3 80 43 (by omega), fs 80 43 (by omega)]; exact v2
      · rw [fq 80 0 (by omega)]; exact v3
      · rw [tq b hb, f3 109 b (by omega), fs 109 b (by omega), f2 109 b (by omega)]
    · unfold f_X11_lie_j224
      refine ok_lt ?_
      obtain ⟨K3, e3, f3, v3⟩ := mup_gen s.2 80 0 1
      rw [e3]
      refine ok_ite_f h (ok_some (k0 K3 (fun x i z => ?_) (fun j hj => ?_) ?_ (by omega) v3))
      · rw [f3 x i (by omega), fs x i (by omega), f2 x i (by omega)]
      · rw [f3 86 _ (by omega), ts j hj, f2 121 j (by omega)]
      · rw [f3 80 43 (by omega), fs 80 43 (by omega)]; exact v2
  unfold f_X11_lie_j156
  exact ok_ite (fun _ => go) (fun _ => ok_ite_f (by decide) go)
/-- what the model leaves -/
def LieM (Z Y : Mem) : Prop := (∀ x i, ¬ ((x = 80 ∧ (i = 0 ∨ (43 ≤ i ∧ i ≤ 45))) ∨ (106 ≤ x ∧ x ≤ 109) ∨ x = 121) → Y x i = Z x i) ∧ Y 80 43 = 0
theorem LieM.inv {Z Y : Mem} (I : Inv Z) (h : LieM Z Y) : Inv Y := by
  obtain ⟨f, h43⟩ := h
  have ff : ∀ c i, isFa c i → Y c i = Z c i := fun c i q => f c i (by unfold isFa at q; omega)
  have fY := I.1.congr ff
  refine ⟨fY, I.2.1.congr (fun c i q => f c i (by unfold isO at q; omega)), ?_, Or.inl h43⟩
  exact I.2.2.1.congr I.1 fY (fa_fe ff) (ff 80 14 (by unfold isFa; omega)) (fun c i q => f c i (by unfold isX1 at q; omega))
theorem m_lieB (I : Inv M) (hc : c < nK M) (hp : p < 3) {r : Int} {N Z : Mem} (L : LieC M c p r N Z) {A : Mem} (hA : ∀ x i, ¬ (x = 80 ∧ i = 0) → x ≠ 121 → A x i = Z x i) {Q : Int × Mem → Prop}
    (k0 : ∀ Y : Mem, LieM Z Y → r < 0 → Y 80 0 = 1 → Q (0, Y))
    (k1 : ∀ Y : Mem, LieM Z Y → 0 ≤ r → Y 80 0 = 0 → (∀ b, b < nK M → Y 108 b = Z 47 b ∧ 0 ≤ Z 47 b) → Okk (f_X11_lie_j266 (c : Int) Y) Q) :
    Okk (f_X11_lie_j120 (c : Int) 1 (lm A c p 3)) Q := by
  have h14 := I.1.n14
  have hn := I.1.n
  have LL := L
  obtain ⟨iN, fN, cN, z1, z2, z3, z4⟩ := L
  have go : Okk (f_X11_lie_j137 (c : Int) 1 0 (lm A c p 3)) Q := by
    unfold f_X11_lie_j137
    refine ok_gd (Or.inl rfl) (ok_lt ?_)
    obtain ⟨E, eE, fE, vE⟩ := mup_gen (lm A c p 3) 80 43 0
    rw [eE]
    refine ok_ite_f (by decide) ?_
    have lmo : ∀ x i, x ≠ 121 → ¬ (x = 86 ∧ i / 3 = c) → lm A c p 3 x i = A x i := fun x i h1 h2 => by
      show (if _ then _ else if _ then _ else _) = _
      rw [if_neg (by omega), if_neg (by omega)]
    have Eo : ∀ x i, ¬ (x = 80 ∧ (i = 0 ∨ i = 43)) → x ≠ 121 → ¬ (x = 86 ∧ i / 3 = c) → E x i = Z x i := fun x i h1 h2 h3 => by
      rw [fE x i (by omega), lmo x i h2 h3, hA x i (by omega) h2]
    have E86 : ∀ i, i / 3 = c → E 86 i = if i % 3 ≠ p then -1 else Z 86 i := fun i hi => by
      rw [fE 86 i (by omega)]
      show (if _ then _ else if _ then _ else _) = _
      rw [if_neg (by omega)]
      by_cases h : i % 3 ≠ p
      · rw [if_pos (by omega), if_pos h]
      · rw [if_neg (by omega), if_neg h, hA 86 i (by omega) (by omega)]
    have E121 : ∀ j, j < 3 → E 121 j = Z 86 (3 * c + j) := fun j hj => by
      rw [fE 121 j (by omega)]
      show (if _ then _ else if _ then _ else _) = _
      rw [if_pos ⟨rfl, hj⟩, hA 86 _ (by omega) (by omega)]
    have e14 : E 80 14 = M 80 14 := by rw [Eo 80 14 (by omega) (by omega) (by omega), z4 80 14 (by omega)]
    rw [e14]
    have eZ : E = ov Z (ov N E) := by
      funext x i
      by_cases h : x < 80
      · rw [ov_lo h]; exact Eo x i (by omega) (by omega) (by omega)
      · rw [ov_hi (by omega), ov_hi (by omega)]
    have hY : ∀ x i, isY x i → ov N E x i = N x i := fun x i q => by
      by_cases h : x < 80
      · exact ov_lo h
      · rw [ov_hi (by omega)]
        have q2 : x ≠ 121 ∧ ¬ (x = 80 ∧ i = 0) ∧ ¬ frB x ∧ ¬ (x = 0 ∧ 16 ≤ i ∧ i ≤ 18) := by unfold isY isFa isX1 isX2 at q; unfold frB; omega
        rw [fN x i q2.2.2.1 q2.2.2.2]
        by_cases w : x = 86 ∧ i / 3 = c
        · obtain ⟨rfl, w⟩ := w
          rw [E86 i w]
          by_cases v : i % 3 ≠ p
          · rw [if_pos v, lib_w ⟨Or.inr rfl, w, v⟩]
          · rw [if_neg v, lib_o (by omega) (by omega), z4 86 i (by omega)]
        · by_cases v : x = 80 ∧ i = 43
          · rw [v.1, v.2, lib_0 (Or.inr ⟨rfl, rfl⟩)]; exact vE
          · rw [Eo x i (by omega) q2.1 w, z4 x i (by omega), lib_o (by omega) (by omega)]
    obtain ⟨q, eq, hq⟩ := m_after (M2 := ov N E) iN.1 iN.2.2.2 cN hY
    obtain ⟨x2, fq, er, fa, mb, cb⟩ := hq
    have run : f_X11_bests (M 80 14) E = some (q.1, ov Z q.2) := by
      rw [eZ, om_X11_bests, eq]; rfl
    rw [run]
    refine ok_bnd (P := fun s => s = (q.1, ov Z q.2)) (ok_some rfl) (fun r1 N1 h1 => ?_)
    cases h1
    refine ok_lt ?_
    have q80 : ∀ x i, 80 ≤ x → ¬ ((x = 80 ∧ 43 ≤ i ∧ i ≤ 45) ∨ (106 ≤ x ∧ x ≤ 109)) → q.2 x i = E x i := fun x i h1 h2 => by rw [fq x i h2, ov_hi h1]
    have Ko : ∀ x i, x ≠ 121 → kq E (ov Z q.2) x i = ov Z q.2 x i := fun x i h => if_neg h
    have K121 : ∀ i, kq E (ov Z q.2) 121 i = E 121 i := fun i => if_pos rfl
    have main : ∀ Y : Mem, (∀ x i, ¬ ((x = 80 ∧ (i = 0 ∨ i = 43)) ∨ x = 108 ∨ (x = 86 ∧ i / 3 = c)) → Y x i = kq E (ov Z q.2) x i) → (∀ j, j < 3 → Y 86 (3 * c + j) = kq E (ov Z q.2) 121 j) → Y 80 43 = 0 → LieM Z Y := by
      intro Y g g86 g43
      refine ⟨fun x i h => ?_, g43⟩
      by_cases w : x = 86 ∧ i / 3 = c
      · obtain ⟨rfl, w⟩ := w
        obtain ⟨j, hj, rfl⟩ : ∃ j : Nat, j < 3 ∧ i = 3 * c + j := ⟨i % 3, by omega, by omega⟩
        rw [g86 j hj, K121, E121 j hj]
      · rw [g x i (by omega), Ko x i (by omega)]
        by_cases h80 : x < 80
        · exact ov_lo h80
        · rw [ov_hi (by omega), q80 x i (by omega) (by omega), Eo x i (by omega) (by omega) w]
    rw [er]
    refine m_lieT (n := nK M) ?_ h14 hc r (fun Y g g86 g43 hr h0 => k0 Y (main Y g g86 g43) hr h0) (fun Y g g86 g43 hr h0 g108 => k1 Y (main Y g g86 g43) hr h0 (fun b hb => ?_))
    · rw [Ko 80 1 (by omega), ov_hi (by omega), q80 80 1 (by omega) (by omega), Eo 80 1 (by omega) (by omega) (by omega), z4 80 1 (by omega)]; exact hn.symm
    · have sz : szOf q.2 (M 80 14) = nK M := lie_sz I (by rw [q80 80 1 (by omega) (by omega), Eo 80 1 (by omega) (by omega) (by omega), z4 80 1 (by omega)]) (fun i => by rw [q80 84 i (by omega) (by omega), Eo 84 i (by omega) (by omega) (by omega), z4 84 i (by omega)])
      have b1 := ((best_one fa cb mb).2 hr).2.2.1 b (by rw [sz]; exact hb)
      have e47 : q.2 109 b = Z 47 b := by rw [← b1.2.1, fq 47 b (by omega), ov_lo (by omega), z1 47 b (by omega) (by omega) (by omega)]
      exact ⟨by rw [g108 b hb, Ko 109 b (by omega), ov_hi (by omega)]; exact e47, by rw [← e47]; exact b1.2.2.1⟩
  unfold f_X11_lie_j120
  exact ok_ite (fun _ => go) (fun _ => ok_ite_f (by decide) go)
end LIN
