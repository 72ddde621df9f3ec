/-! rule: TERMS, in the model -/
section TERMS
variable {b : Nat → Int} {L T r : Nat} {M N : Mem}
theorem m_terms {f R : Nat} (Y : PNr b L f N) (hR : R < 64) : Okk (f_X11_takesTerms R N) (fun q => tsN b L f R N q) := by
  unfold f_X11_takesTerms
  rw [toN]
  obtain ⟨N0, e0, f0, v0⟩ := mup_gen N 100 R 0
  refine ok_gd (by omega) (ok_lt ?_)
  rw [e0]
  have Y0 : PNr b L f N0 := Y.up (fun c i q => f0 c i (by omega))
  -- done, at the end
  refine ok_lpr (P := fun s => tsN b L f R N (1, s.2)) (P2 := fun q => tsN b L f R N q) ?_ (fun s hs => by unfold f_X11_takesTerms_j121; exact ok_some hs) (fun t ht => ok_some ht)
  unfold f_X11_takesTerms_l9
  refine ok_whl 5 (fun t s => (s.1 ≠ 0 ∧ t ≤ 4 ∧ PNr b L (stS b L f t) s.2 ∧ tsR b L 5 0 f = tsR b L (5 - t) t (stS b L f t) ∧ (∀ c i, ¬ isMx c i → ¬ (c = 100 ∧ i = R) → ¬ (101 ≤ c ∧ c ≤ 104 ∧ 4 * R ≤ i ∧ i < 4 * R + 4) → s.2 c i = N c i) ∧ s.2 100 R = (t : Int) ∧ ∀ j, j < t → tdN b L (4 * R + j) (stS b L f j) s.2) ∨ (s.1 = 0 ∧ tsN b L f R N (1, s.2))) (FU_big (by omega)) (Or.inl ⟨by show (1 : Int) ≠ 0; omega, by omega, (show PNr b L (stS b L f 0) N0 from Y0), rfl, fun c i _ q2 _ => f0 c i q2, v0, fun j hj => absurd hj (by omega)⟩) ?_
  rintro t ⟨u, N1⟩ ht hI
  rcases hI with ⟨hu, ht4, Y1, hts, hfr, h100, hdat⟩ | ⟨hu, hd⟩
  rotate_left
  · dsimp only at hu hd ⊢
    unfold f_X11_takesTerms_s9
    exact ok_ite_t hu (ok_some hd)
  dsimp only at hu Y1 hts hfr h100 hdat ⊢
  generalize hg : stS b L f t = g at Y1 hts
  rw [show 5 - t = (4 - t) + 1 by omega] at hts
  have yes : bgT b L g → Okk (f_X11_takesTerms_j46k9 R u 1 N1) (inS (fun s => t < 5 ∧ ((s.1 ≠ 0 ∧ t + 1 ≤ 4 ∧ PNr b L (stS b L f (t + 1)) s.2 ∧ tsR b L 5 0 f = tsR b L (5 - (t + 1)) (t + 1) (stS b L f (t + 1)) ∧ (∀ c i, ¬ isMx c i → ¬ (c = 100 ∧ i = R) → ¬ (101 ≤ c ∧ c ≤ 104 ∧ 4 * R ≤ i ∧ i < 4 * R + 4) → s.2 c i = N c i) ∧ s.2 100 R = ((t + 1 : Nat) : Int) ∧ ∀ j, j < t + 1 → tdN b L (4 * R + j) (stS b L f j) s.2) ∨ (s.1 = 0 ∧ tsN b L f R N (1, s.2)))) (inS (fun s : Int × Mem => tsN b L f R N (1, s.2)) (fun q => tsN b L f R N q))) := fun hb => by
    rw [tsR_go hb] at hts
    unfold f_X11_takesTerms_j46k9
    rw [toN, h100]
    refine ok_ite_f (by decide) (ok_gd (by omega) (ok_ite (fun h4 => ?_) (fun h4 => ok_gd (by omega) ?_)))
    · rw [if_pos (by omega)] at hts
      refine ok_bnd (m_wr Y1 3) (fun q N2 hq => ok_gd (Or.inl hq.1) (ok_some (Or.inl ?_)))
      obtain ⟨n1, n2, n3, n4⟩ := hq
      dsimp only at n1 n2 n3 n4 ⊢
      rw [hts]
      exact ⟨by show (3 : Int) ≠ 0; omega, n1, n2, n3, fun c i q1 q2 q3 => by show N2 c i = _; rw [n4 c i (by omega)]; exact hfr c i (by unfold isMx; omega) q2 q3⟩
    · rw [if_neg (by omega)] at hts
      have ei : wrap ((wrap (4 * (R : Int))) + (t : Int)) = ((4 * R + t : Nat) : Int) := by rw [wrap_of (x := 4 * (R : Int)) (by omega) (by omega), wrap_of (by omega) (by omega)]; omega
      rw [ei]
      refine ok_bnd (m_term Y1 (t := 4 * R + t) (by omega)) (fun q N2 hq => ?_)
      rcases hq with ⟨g1, g2⟩ | ⟨g1, g2, g3⟩
      · obtain ⟨n1, n2, n3, n4⟩ := g2
        dsimp only at n1 n2 n3 n4 ⊢
        rw [if_pos g1] at hts
        refine ok_ite_t n1 (ok_some (Or.inl ⟨by rw [hts]; exact g1, rfl, by rw [hts]; exact n2, by rw [hts]; exact n3, fun c i q1 q2 q3 => by show N2 c i = _; rw [n4 c i q1 (by omega)]; exact hfr c i (by unfold isMx; omega) q2 q3⟩))
      · obtain ⟨n1, Y2, n4⟩ := g2
        dsimp only at n1 Y2 n4 g3 ⊢
        rw [if_neg (fun z => z g1)] at hts
        rw [n4 100 R (by unfold isMx; omega) (by omega), h100, wrap_n1 (by omega)]
        refine ok_ite_f (by omega) (ok_gd (by omega) (ok_gd (by omega) (ok_lt ?_)))
        obtain ⟨N3, e3, f3, v3⟩ := mup_gen N2 100 R ((t + 1 : Nat) : Int)
        rw [e3]
        have Y3 : PNr b L (tmP b L g) N3 := Y2.up (fun c i q => f3 c i (by omega))
        have fr3 : ∀ c i, ¬ isMx c i → ¬ (c = 100 ∧ i = R) → ¬ (101 ≤ c ∧ c ≤ 104 ∧ 4 * R ≤ i ∧ i < 4 * R + 4) → N3 c i = N c i := fun c i q1 q2 q3 => by rw [f3 c i q2, n4 c i q1 (by omega)]; exact hfr c i q1 q2 q3
        have dat3 : ∀ j, j < t + 1 → tdN b L (4 * R + j) (stS b L f j) N3 := fun j hj => by
          by_cases e : j = t
          · rw [e, hg]
            exact g3.fr (fun c c1 c2 => f3 c _ (by omega))
          · exact (hdat j (by omega)).fr (fun c c1 c2 => by rw [f3 c _ (by omega), n4 c _ (by unfold isMx; omega) (by omega)])
        refine ok_bnd (m_isWord Y3.1 Y3.2.1 (k := 20) (i := 23) (by omega) rfl) (fun r2 N4 hr2 => ?_)
        obtain ⟨hr2, hN4⟩ := hr2
        dsimp only at hr2 hN4 ⊢
        subst hN4
        replace hr2 : isB r2 (cdE b L (tmP b L g) = 20) := hr2
        refine ok_ite (fun h0 => ok_some ⟨by omega, Or.inr ⟨h0, ?_⟩⟩) (fun h0 => ?_)
        · rw [if_pos (hr2.f h0)] at hts
          refine Or.inr ⟨by rw [hts], rfl, by rw [hts]; exact Y3, fr3, by rw [hts]; exact v3, fun j hj => ?_⟩
          rw [hts] at hj
          exact dat3 j hj
        · rw [if_neg (fun z => z (hr2.t h0))] at hts
          refine ok_obn (m_nx2 Y3) (fun N5 hN5 => ?_)
          obtain ⟨s5, Y5⟩ := hN5
          have es : stS b L f (t + 1) = nxE b L (tmP b L g) := by show nxE b L (tmP b L (stS b L f t)) = _; rw [hg]
          refine ok_some ⟨by omega, Or.inl ⟨h0, by omega, by rw [es]; exact Y5, by rw [es, hts, show 5 - (t + 1) = 4 - t by omega], fun c i q1 q2 q3 => by show N5 c i = _; rw [s5 c i q1]; exact fr3 c i q1 q2 q3, ?_, fun j hj => (dat3 j hj).fr (fun c c1 c2 => s5 c _ (by unfold isMx; omega))⟩⟩
          show N5 100 R = _
          rw [s5 _ _ (by unfold isMx; omega)]; exact v3
  unfold f_X11_takesTerms_s9
  refine ok_ite_f hu (ok_bnd (m_isWord Y1.1 Y1.2.1 (k := 19) (i := 14) (by omega) rfl) (fun r1 N2 hr1 => ?_))
  obtain ⟨hr1, hN2⟩ := hr1
  dsimp only at hr1 hN2 ⊢
  subst hN2
  replace hr1 : isB r1 (cdE b L g = 19) := hr1
  refine ok_ite (fun h0 => ?_) (fun h0 => yes (Or.inr (hr1.t h0)))
  refine ok_bnd (m_isWord Y1.1 Y1.2.1 (k := 7) (i := 15) (by omega) rfl) (fun r2 N3 hr2 => ?_)
  obtain ⟨hr2, hN3⟩ := hr2
  dsimp only at hr2 hN3 ⊢
  subst hN3
  replace hr2 : isB r2 (cdE b L g = 7) := hr2
  refine ok_ite (fun h1 => ?_) (fun h1 => yes (Or.inl (by have := hr2.t h1; omega)))
  refine ok_bnd (m_factHere Y1.1 Y1.2.1) (fun r3 N4 hr3 => ?_)
  obtain ⟨hN4, hr3⟩ := hr3
  dsimp only at hN4 hr3 ⊢
  subst hN4
  refine ok_ite (fun h2 => ?_) (fun h2 => yes (Or.inl (by omega)))
  have n1 := hr1.f h0
  have n2 := hr2.f h1
  rw [tsR_no (f := g) (n := 4 - t) (fun z => by rcases z with z | z <;> omega)] at hts
  unfold f_X11_takesTerms_j46k9
  refine ok_ite_t rfl (ok_bnd (m_wr Y1 1) (fun q N5 hq => ok_gd (Or.inl hq.1) (ok_some (Or.inl ?_))))
  obtain ⟨n1, n2, n3, n4⟩ := hq
  dsimp only at n1 n2 n3 n4 ⊢
  rw [hts]
  exact ⟨by show (1 : Int) ≠ 0; omega, n1, n2, n3, fun c i q1 q2 q3 => by show N5 c i = _; rw [n4 c i (by omega)]; exact hfr c i (by unfold isMx; omega) q2 q3⟩
end TERMS
