/-! rule: a TERM, in the model -/
section TERM
variable {b : Nat → Int} {L T r : Nat} {M N : Mem}
theorem m_j188 {f t : Nat} (Y : PNr b L f N) (ht : t < 256) (w s0 : Int) : Okk (f_X11_takesTerm_j188 t s0 t N) (fun q => (cdE b L (nxE b L f) = -3 ∧ okN b L (nxE b L (nxE b L f)) 103 t N q ∧ q.2 103 t = s0 ∧ q.2 104 t = nmE b L (nxE b L f)) ∨ (cdE b L (nxE b L f) ≠ -3 ∧ noN 103 t N 1 (nxE b L f) q)) := by
  unfold f_X11_takesTerm_j188
  rw [toN]
  obtain ⟨N2, e2, f2, v2⟩ := mup_gen N 103 t s0
  refine ok_gd (by omega) (ok_lt ?_)
  rw [e2]
  have Y2 : PNr b L f N2 := Y.up (fun c i q => f2 c i (by omega))
  refine ok_obn (m_nx2 Y2) (fun N3 hN3 => ?_)
  obtain ⟨s3, Y3⟩ := hN3
  refine ok_ite (fun h => ?_) (fun h => ?_)
  · have h3 := Y3.tk.mp h
    rw [Y3.nm h3]
    obtain ⟨N4, e4, f4, v4⟩ := mup_gen N3 104 t (nmE b L (nxE b L f))
    refine ok_gd (by omega) (ok_lt ?_)
    rw [e4]
    have Y4 : PNr b L (nxE b L f) N4 := Y3.up (fun c i q => f4 c i (by omega))
    refine ok_obn (m_nx2 Y4) (fun N5 hN5 => ?_)
    obtain ⟨s5, Y5⟩ := hN5
    refine ok_some (Or.inl ⟨h3, ⟨rfl, Y5, fun c i q1 q2 => ?_⟩, ?_, ?_⟩)
    · show N5 c i = _
      rw [s5 c i q1, f4 c i (by omega), s3 c i q1, f2 c i (by omega)]
    · show N5 103 t = _
      rw [s5 _ _ (by unfold isMx; omega), f4 _ _ (by omega), s3 _ _ (by unfold isMx; omega)]; exact v2
    · show N5 104 t = _
      rw [s5 _ _ (by unfold isMx; omega)]; exact v4
  · refine ok_bnd (m_wr Y3 1) (fun q N4 hq => ok_gd (Or.inl hq.1) (ok_some (Or.inr ⟨fun z => h (Y3.tk.mpr z), ?_⟩)))
    exact (noN.of (lo := 103) (t := t) hq).lift (Nat.le_refl _) (fun c i q1 q2 => by rw [s3 c i (by unfold isMx; omega), f2 c i (by omega)])
theorem sg60 : isSg 60 := Or.inr (Or.inr (Or.inl rfl))
theorem sg61 : isSg 61 := Or.inr (Or.inr (Or.inr (Or.inl rfl)))
theorem sg62 : isSg 62 := Or.inr (Or.inr (Or.inr (Or.inr rfl)))
theorem sg58 : isSg 58 := Or.inr (Or.inl rfl)
theorem sg59 : isSg 59 := Or.inl rfl
theorem b2i_e {p : Prop} [Decidable p] (h : ¬ b2i p = 0) : p := by
  rw [b2i_0] at h; exact Classical.not_not.mp h
/-- a TERM behind its not, in the model -/
theorem m_t26 {f t : Nat} (Y : PNr b L f N) (ht : t < 256) : Okk (f_X11_takesTerm_j26 t N) (fun q => (trK b L f ≠ 0 ∧ noN 102 t N (trK b L f) (trP b L f) q) ∨ (trK b L f = 0 ∧ okN b L (trP b L f) 102 t N q ∧ q.2 102 t = cdE b L f ∧ (cdE b L f ≠ 7 → q.2 103 t = cdE b L (nxE b L f) - 60) ∧ q.2 104 t = trV b L f)) := by
  unfold f_X11_takesTerm_j26
  refine ok_bnd (m_isWord Y.1 Y.2.1 (k := 7) (i := 15) (by omega) rfl) (fun r1 N1 hr1 => ?_)
  obtain ⟨hr1, hN1⟩ := hr1
  dsimp only at hr1 hN1 ⊢
  subst hN1
  refine ok_ite (fun h0 => ?_) (fun h0 => ?_)
  · have h7 : ¬ cdE b L f = 7 := hr1.f h0
    refine ok_bnd (m_factHere Y.1 Y.2.1) (fun r2 N2 hr2 => ?_)
    obtain ⟨hN2, hr2⟩ := hr2
    dsimp only at hN2 hr2 ⊢
    subst hN2
    rw [toN]
    obtain ⟨N3, e3, f3, v3⟩ := mup_gen N2 102 t r2
    refine ok_gd (by omega) (ok_lt ?_)
    rw [e3, v3]
    have Y3 : PNr b L f N3 := Y.up (fun c i q => f3 c i (by omega))
    refine ok_gd (by omega) (ok_ite (fun h1 => ?_) (fun h1 => ?_))
    · have hw : ¬ (0 ≤ cdE b L f ∧ cdE b L f ≤ 7) := by omega
      have eK : trK b L f = 1 := by unfold trK; rw [if_pos hw]
      have eP : trP b L f = f := by unfold trP; rw [if_pos hw]
      refine ok_bnd (m_wr Y3 1) (fun q N4 hq => ok_gd (Or.inl hq.1) (ok_some (Or.inl ?_)))
      rw [eK, eP]
      exact ⟨by omega, (noN.of (lo := 102) (t := t) hq).lift (Nat.le_refl _) (fun c i q1 q2 => f3 c i (by omega))⟩
    have hw : 0 ≤ cdE b L f ∧ cdE b L f ≤ 7 := by omega
    have er2 : r2 = cdE b L f := by omega
    have eK : trK b L f = if ¬ (60 ≤ cdE b L (nxE b L f) ∧ cdE b L (nxE b L f) ≤ 62) then 1 else if cdE b L (nxE b L (nxE b L f)) ≠ -3 then 1 else 0 := by unfold trK; rw [if_neg (fun z => z hw), if_neg h7]
    have eP : trP b L f = if ¬ (60 ≤ cdE b L (nxE b L f) ∧ cdE b L (nxE b L f) ≤ 62) then nxE b L f else if cdE b L (nxE b L (nxE b L f)) ≠ -3 then nxE b L (nxE b L f) else nxE b L (nxE b L (nxE b L f)) := by unfold trP; rw [if_neg (fun z => z hw), if_neg h7]
    have eV : trV b L f = nmE b L (nxE b L (nxE b L f)) := by unfold trV; rw [if_neg h7]
    refine ok_obn (m_nx2 Y3) (fun N4 hN4 => ?_)
    obtain ⟨s4, Y4⟩ := hN4
    have fr4 : ∀ c i, ¬ isMx c i → ¬ (102 ≤ c ∧ c ≤ 104 ∧ i = t) → N4 c i = N2 c i := fun c i q1 q2 => by rw [s4 c i q1, f3 c i (by omega)]
    have v4 : N4 102 t = cdE b L f := by rw [s4 _ _ (by unfold isMx; omega), v3, er2]
    have sgn : ∀ s0 : Int, (60 ≤ cdE b L (nxE b L f) ∧ cdE b L (nxE b L f) ≤ 62) → s0 = cdE b L (nxE b L f) - 60 → Okk (f_X11_takesTerm_j188 t s0 t N4) (fun q => (trK b L f ≠ 0 ∧ noN 102 t N2 (trK b L f) (trP b L f) q) ∨ (trK b L f = 0 ∧ okN b L (trP b L f) 102 t N2 q ∧ q.2 102 t = cdE b L f ∧ (cdE b L f ≠ 7 → q.2 103 t = cdE b L (nxE b L f) - 60) ∧ q.2 104 t = trV b L f)) := fun s0 hsg hs => by
      rw [if_neg (fun z => z hsg)] at eK eP
      refine ok_mono (m_j188 Y4 ht 0 s0) (fun a ha => ?_)
      rcases ha with ⟨g1, g2, g3, g4⟩ | ⟨g1, g2⟩
      · rw [if_neg (fun z => z g1)] at eK eP
        rw [eK, eP, eV]
        exact Or.inr ⟨rfl, g2.lift (by omega) fr4, by rw [g2.2.2 _ _ (by unfold isMx; omega) (by omega)]; exact v4, fun _ => by rw [g3, hs], g4⟩
      · rw [if_pos g1] at eK eP
        rw [eK, eP]
        exact Or.inl ⟨by omega, g2.lift (by omega) (fun c i q1 q2 => fr4 c i (by unfold isMx; omega) q2)⟩
    have e60 := m_isSign Y4.1 Y4.2.1 sg60
    have e61 := m_isSign Y4.1 Y4.2.1 sg61
    have e62 := m_isSign Y4.1 Y4.2.1 sg62
    by_cases c60 : cdE b L (nxE b L f) = 60
    · rw [b2i_t c60] at e60
      refine ok_e e60 (ok_ite_f (by decide) (ok_e e60 (ok_ite_f (by decide) (sgn 0 (by omega) (by omega)))))
    · rw [b2i_f c60] at e60
      by_cases c61 : cdE b L (nxE b L f) = 61
      · rw [b2i_t c61] at e61
        refine ok_e e60 (ok_ite_t rfl (ok_e e61 (ok_ite_f (by decide) (ok_e e60 (ok_ite_t rfl (ok_e e61 (ok_ite_f (by decide) (sgn 1 (by omega) (by omega)))))))))
      · rw [b2i_f c61] at e61
        by_cases c62 : cdE b L (nxE b L f) = 62
        · rw [b2i_t c62] at e62
          refine ok_e e60 (ok_ite_t rfl (ok_e e61 (ok_ite_t rfl (ok_e e62 (ok_ite_f (by decide) (ok_e e60 (ok_ite_t rfl (ok_e e61 (ok_ite_t rfl (sgn 2 (by omega) (by omega)))))))))))
        · rw [b2i_f c62] at e62
          rw [if_pos (by omega)] at eK eP
          refine ok_e e60 (ok_ite_t rfl (ok_e e61 (ok_ite_t rfl (ok_e e62 (ok_ite_t rfl (ok_bnd (m_wr Y4 1) (fun q N5 hq => ok_gd (Or.inl hq.1) (ok_some (Or.inl ?_)))))))))
          rw [eK, eP]
          exact ⟨by omega, (noN.of (lo := 102) (t := t) hq).lift (Nat.le_refl _) (fun c i q1 q2 => fr4 c i (by unfold isMx; omega) q2)⟩
  · have h7 : cdE b L f = 7 := hr1.t h0
    have hw : 0 ≤ cdE b L f ∧ cdE b L f ≤ 7 := by omega
    have eK : trK b L f = if cdE b L (nxE b L f) ≠ -3 then 1 else if 7 < nmE b L (nxE b L f) then 2 else 0 := by unfold trK; rw [if_neg (fun z => z hw), if_pos h7]
    have eP : trP b L f = if cdE b L (nxE b L f) ≠ -3 then nxE b L f else if 7 < nmE b L (nxE b L f) then nxE b L f else nxE b L (nxE b L f) := by unfold trP; rw [if_neg (fun z => z hw), if_pos h7]
    have eV : trV b L f = nmE b L (nxE b L f) := by unfold trV; rw [if_pos h7]
    refine ok_obn (m_nx2 Y) (fun N2 hN2 => ?_)
    obtain ⟨s2, Y2⟩ := hN2
    refine ok_ite (fun h => ?_) (fun h => ?_)
    · have h3 := Y2.tk.mp h
      rw [if_neg (fun z => z h3)] at eK eP
      rw [Y2.nm h3]
      refine ok_ite (fun h9 => ?_) (fun h9 => ?_)
      · rw [if_neg (by omega)] at eK eP
        rw [toN]
        obtain ⟨N3, e3, f3, v3⟩ := mup_gen N2 102 t 7
        refine ok_gd (by omega) (ok_lt ?_)
        rw [e3, f3 80 37 (by omega), Y2.nm h3]
        obtain ⟨N4, e4, f4, v4⟩ := mup_gen N3 104 t (nmE b L (nxE b L f))
        refine ok_gd (by omega) (ok_lt ?_)
        rw [e4]
        have Y4 : PNr b L (nxE b L f) N4 := (Y2.up (fun c i q => f3 c i (by omega))).up (fun c i q => f4 c i (by omega))
        refine ok_obn (m_nx2 Y4) (fun N5 hN5 => ?_)
        obtain ⟨s5, Y5⟩ := hN5
        rw [eK, eP, eV]
        refine ok_some (Or.inr ⟨rfl, ⟨rfl, Y5, fun c i q1 q2 => ?_⟩, ?_, fun z => absurd h7 z, ?_⟩)
        · show N5 c i = _
          rw [s5 c i q1, f4 c i (by omega), f3 c i (by omega), s2 c i q1]
        · show N5 102 t = _
          rw [s5 _ _ (by unfold isMx; omega), f4 _ _ (by omega), v3, h7]
        · show N5 104 t = _
          rw [s5 _ _ (by unfold isMx; omega)]; exact v4
      · rw [if_pos (by omega)] at eK eP
        refine ok_bnd (m_wr Y2 2) (fun q N4 hq => ok_gd (Or.inl hq.1) (ok_some (Or.inl ?_)))
        rw [eK, eP]
        exact ⟨by omega, (noN.of (lo := 102) (t := t) hq).lift (Nat.le_refl _) (fun c i q1 q2 => s2 c i (by unfold isMx; omega))⟩
    · rw [if_pos (fun z => h (Y2.tk.mpr z))] at eK eP
      refine ok_bnd (m_wr Y2 1) (fun q N4 hq => ok_gd (Or.inl hq.1) (ok_some (Or.inl ?_)))
      rw [eK, eP]
      exact ⟨by omega, (noN.of (lo := 102) (t := t) hq).lift (Nat.le_refl _) (fun c i q1 q2 => s2 c i (by unfold isMx; omega))⟩
end TERM
