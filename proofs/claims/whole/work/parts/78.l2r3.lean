/-! swaps: the model judges an exchange -/
def gainS (B : Mem) (known : Int) (L : Nat → Int) (a b : Nat) : Prop := L a ≠ -1 ∧ L b ≠ -1 ∧ L a ≠ L b ∧ servedS B (swL L a b) a < servedS B L a ∧ servedS B (swL L a b) b < servedS B L b ∧ soundS B known (swL L a b) ∧ lackS B known (swL L a b) = 0
theorem PB_sw {B : Mem} {L : Nat → Int} {a b : Nat} (h : PB B L) (ha : a < nK B) (hb : b < nK B) (hab : a ≠ b) : PB B (swL L a b) := fun c hc => by
  by_cases h1 : c = a
  · rw [h1, swL_a]; exact h b hb
  · by_cases h2 : c = b
    · rw [h2, swL_b hab]; exact h a ha
    · rw [swL_o h1 h2]; exact h c hc
theorem m_swp2 {M : Mem} {L : Nat → Int} {n a b : Nat} (hn : n ≤ 14) (ha : a < n) (hb : b < n) (hab : a ≠ b) (hp : planOf M = L) : Okk (f_X11_swaps a b M) (fun M' => (∀ c i, c ≠ 108 → M' c i = M c i) ∧ planOf M' = swL L a b) := by
  have hp2 : ∀ c, M 108 c = L c := fun c => congrFun hp c
  refine ok_mono (m_swp hn ha hb hab (fun c _ => hp2 c)) (fun M' h => ⟨fun c i q => h.1 c i (by omega), ?_⟩)
  funext c
  show M' 108 c = _
  by_cases z : c < n
  · exact h.2 c z
  · rw [h.1 108 c (by omega), swL_o (by omega) (by omega)]; exact hp2 c
section GAIN
variable {B M : Mem} {known : Int}
theorem m_gain {L : Nat → Int} {a b : Nat} (H : LR B known M) (ha : a < nK B) (hb : b < nK B) (hab : a ≠ b) (hp : planOf M = L) (hL : PB B L) : Okk (f_X11_isGain a b M) (fun q => isB q.1 (gainS B known L a b) ∧ (∀ c i, c ≠ 108 → q.2 c i = M c i) ∧ planOf q.2 = L) := by
  have h14 := H.1.1.n14
  have hp2 : ∀ c, M 108 c = L c := fun c => congrFun hp c
  have no : ¬ gainS B known L a b → Okk (some (0, M) : Option Res) (fun q => isB q.1 (gainS B known L a b) ∧ (∀ c i, c ≠ 108 → q.2 c i = M c i) ∧ planOf q.2 = L) := fun h => ok_some ⟨Or.inr ⟨rfl, h⟩, fun _ _ _ => rfl, hp⟩
  unfold f_X11_isGain
  rw [toN, toN, hp2 a, hp2 b]
  refine ok_gd (by omega) (ok_ite (fun h => no (fun w => w.1 h)) (fun h1 => ok_gd (by omega) (ok_ite (fun h => no (fun w => w.2.1 h)) (fun h2 => ok_gd (by omega) (ok_gd (by omega) (ok_ite (fun h => no (fun w => w.2.2.1 h)) (fun h3 => ?_)))))))
  refine ok_e (m_servedIn H.1 ha) (ok_e (m_servedIn H.1 hb) (ok_obn (m_swp2 h14 ha hb hab hp) (fun M2 hM2 => ?_)))
  rw [hp]
  obtain ⟨f2, p2⟩ := hM2
  have H2 : LR B known M2 := H.fr (fun c i q => f2 c i (by unfold isFa at q; omega))
  have back : ∀ r : Int, isB r (gainS B known L a b) → Okk (obn (f_X11_swaps a b M2) fun M_3 => some (r, M_3)) (fun q => isB q.1 (gainS B known L a b) ∧ (∀ c i, c ≠ 108 → q.2 c i = M c i) ∧ planOf q.2 = L) := fun r hr => by
    refine ok_obn (m_swp2 h14 ha hb hab p2) (fun M3 hM3 => ok_some ⟨hr, fun c i q => by
      try dsimp only
      rw [hM3.1 c i q, f2 c i q], ?_⟩)
    try dsimp only
    rw [hM3.2, swL_sw hab]
  refine ok_e (m_servedIn H2.1 ha) ?_
  rw [p2]
  refine ok_ite (fun h => back 0 (Or.inr ⟨rfl, fun w => by have := w.2.2.2.1; omega⟩)) (fun h4 => ?_)
  refine ok_e (m_servedIn H2.1 hb) ?_
  rw [p2]
  refine ok_ite (fun h => back 0 (Or.inr ⟨rfl, fun w => by have := w.2.2.2.2.1; omega⟩)) (fun h5 => ?_)
  refine ok_obn (m_isSound H2 (by rw [p2]; exact PB_sw hL ha hb hab)) (fun r hr => ?_)
  rw [p2] at hr
  refine ok_ite (fun h => back 0 (Or.inr ⟨rfl, fun w => ?_⟩)) (fun h6 => ?_)
  · rcases hr with hr | hr
    · omega
    · exact hr.2 w.2.2.2.2.2.1
  refine ok_e (m_lack H2) ?_
  rw [p2]
  refine ok_ite (fun h7 => back 1 (Or.inl ⟨rfl, h1, h2, h3, by omega, by omega, ?_, h7⟩)) (fun h7 => back 0 (Or.inr ⟨rfl, fun w => h7 w.2.2.2.2.2.2⟩))
  rcases hr with hr | hr
  · exact hr.2
  · exact absurd hr.1 h6
end GAIN
