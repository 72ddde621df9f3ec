/-! swaps: both sides -/
section SWAPS
variable {M : Mem}
theorem op_swaps (I : Inv M) : Alk (f_X10_swaps M) f_X11_swaps_ := by
  have h14 := I.1.n14
  refine alk_ro (ans := ((fb_ct (qg (nK M) (gnB M)) 196 : Nat) : Int)) I ?_ (fun M1 h1 => ?_)
  · unfold f_X10_swaps f_X10_searchSwaps
    rw [I.cf.r11, I.cf.td]
    refine ok_bnd (P := fun q => q.1 = ((fb_ct (qg (nK M) (gnB M)) 196 : Nat) : Int) ∧ lvC M q.2) ?_ (fun r N hr => ok_some ⟨hr.2, hr.1⟩)
    refine ok_gd I.cf.ru (ok_obn (c_list I) (fun M1 hM1 => ok_obn hM1.2.2 (fun M2 hM2 => ?_)))
    obtain ⟨J2, lv2, -, g2⟩ := hM2
    have l1 : ∀ c, M2 1 c = M 110 c := fun c => by rw [lv2 1 c (Or.inl (Or.inr (Or.inl (by unfold isO; omega))))]; exact I.l1 c
    refine ok_lpr (c_rows (Good := GdC M M2) (g := gnB M) (p := -1) h14 (fun N hN => hN.1.c.n) (gdc_step I l1) ⟨J2, fun _ _ _ => rfl, g2⟩) (fun s hs => ?_) (fun t ht => ?_)
    · unfold f_X10_searchSwaps_j89
      refine ok_ite_f (by decide) (ok_some ⟨hs.1, fun c i q => ?_⟩)
      by_cases e : c = 2
      · unfold isS isFa isO isX1 isX2 at q; omega
      · try dsimp only
        rw [hs.2.1.2.1 c i e]; exact lv2 c i q
    · obtain ⟨⟨x, -, -, -, hx⟩, -⟩ := ht
      exact absurd hx (by omega)
  · unfold f_X11_swaps_
    obtain ⟨M2, e2, H2, f2, l2, g2⟩ := m_start I h1
    refine ok_lt ?_
    rw [e2]
    refine ok_obn (m_list I H2 l2 g2) (fun M3 hM3 => ?_)
    obtain ⟨L3, l3, gp3, pb3, p3⟩ := hM3
    refine ok_obn (m_rows (Good := GdM M M3) (g := gnB M) h14 (fun N hN => ?_) (gdm_step I p3 pb3) ⟨L3, fun _ _ _ => rfl, rfl⟩) (fun s hs => ?_)
    · rw [hN.1.1.2 80 1 (by unfold isFa; omega)]; exact I.1.n.symm
    · unfold f_X11_swaps__j62
      refine ok_some ⟨fun c i q => ?_, hs.1⟩
      try dsimp only
      rw [hs.2.2.1 c i (by unfold isS isFa isO isX1 isX2 at q; omega)]
      exact l3 c i q
end SWAPS
