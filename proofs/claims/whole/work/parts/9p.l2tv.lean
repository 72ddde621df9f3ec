/-! rule: both parsers in step: a STATEMENT -/
section STMT
variable {b : Nat → Int} {L T r : Nat} {M N : Mem}
theorem bd_fin {s : Nat} {k : Int} {x y : Option Res} (h : Okk x (fun a => Okk y (fun c => BD b L T r s k M N a c))) : Okk (bnd x fun r_1 M_1 => if r_1 = 0 then (some (0, M_1) : Option Res) else some (1, M_1)) (fun a => Okk y (fun c => BD b L T r s k M N a c)) := by
  refine ok_bnd h (fun ra Ma hra => ?_)
  refine ok_ite (fun z => ok_some (ok_mono hra (fun c2 hc2 => ?_))) (fun z => ok_some (ok_mono hra (fun c2 hc2 => ?_)))
  · rcases hc2 with h | ⟨g, -⟩
    · exact Or.inl ⟨rfl, h.2⟩
    · dsimp only at g; omega
  · rcases hc2 with h | ⟨g, h⟩
    · exact absurd h.1 z
    · exact Or.inr ⟨rfl, h⟩
theorem bd_fz {s : Nat} {k : Int} {x y : Option Res} (h : Okk x (fun a => Okk y (fun c => BD b L T r s k M N a c))) : Okk (bnd x fun r_1 M_1 => gd (isZ r_1) <| (some (r_1, M_1) : Option Res)) (fun a => Okk y (fun c => BD b L T r s k M N a c)) := by
  refine ok_bnd h (fun ra Ma hra => ?_)
  have hz : isZ ra := by
    obtain ⟨c, -, hc⟩ := hra
    rcases hc with h | ⟨g, -⟩
    · exact Or.inl h.1
    · exact Or.inr g
  exact ok_gd hz (ok_some hra)
/-- sum -/
theorem bd_sum {f s : Nat} (X : PCr b L T r f M) (Y : PNr b L f N) (hs : s < 16) (h0 : noTm r s M N) :
    Okk (f_X6_readBody s 9 M) (fun a => Okk (f_X11_isBody ((16 + s : Nat) : Int) 1 N) (fun c => BD b L T r s 1 M N a c)) := by
  have hr := X.1
  obtain ⟨n1, n2, n3, n4⟩ := h0
  unfold f_X6_readBody f_X11_isBody
  refine ok_ite_f (by omega) (ok_ite_f (by omega) (ok_ite_t rfl (ok_sw ?_)))
  refine ok_ite_f (by omega) (ok_ite_f (by omega) (ok_ite_t rfl (ok_sw ?_)))
  -- the class's word
  have cls : Okk (f_X6_readTrait s M) (fun a => ((0 ≤ cdE b L f ∧ cdE b L f ≤ 6) ∧ a.1 = 1 ∧ PCr b L T r (nxE b L f) a.2 ∧ a.2 (r + 3) s = cdE b L f ∧ ∀ c i, ¬ (c = 29 ∧ 4 ≤ i ∧ i ≤ 7) → ¬ (c = r + 3 ∧ i = s) → a.2 c i = M c i) ∨ (¬ (0 ≤ cdE b L f ∧ cdE b L f ≤ 6) ∧ a.1 = 0 ∧ a.2 29 0 = 1 ∧ a.2 29 1 = (f : Int) ∧ ∀ c i, c ≠ 29 → ¬ (c = r + 3 ∧ i = s) → a.2 c i = M c i)) := by
    unfold f_X6_readTrait
    rw [X.rn, X.cd, toN]
    obtain ⟨M2, e2, f2, v2⟩ := mup_gen M (r + 3) s (cdE b L f)
    refine ok_gd X.ru (ok_gd (by omega) (ok_lt ?_))
    rw [e2]
    have X2 : PCr b L T r f M2 := X.up (fun c i q => f2 c i (by omega))
    rw [X2.cd]
    refine ok_b (c_within _ _ _ _) (fun hw => ok_ite_f (by decide) ?_) (fun hw => ok_ite_t rfl ?_)
    · refine ok_bnd (c_code X2 (cdE b L f)) (fun q M3 hq => ?_)
      rcases hq with ⟨h1, h2, h3, h4⟩ | ⟨h1, h2, h3⟩
      · refine ok_gd (Or.inr h2) (ok_some (Or.inl ⟨hw, h2, h4, ?_, fun c i q1 q2 => ?_⟩))
        · rw [h3 _ _ (by omega)]; exact v2
        · rw [h3 c i q1, f2 c i q2]
      · exact absurd rfl h1
    · refine ok_bnd (c_code X2 0) (fun q M3 hq => ?_)
      rcases hq with ⟨h1, h2, h3, h4⟩ | ⟨h1, h2, h3⟩
      · omega
      · exact ok_gd (Or.inl h2) (ok_some (Or.inr ⟨hw, h2, h3.1, h3.2.1, fun c i q1 q2 => by rw [h3.2.2 c i q1, f2 c i q2]⟩))
  refine ok_bnd cls (fun q M3 hq => ok_sw ?_)
  refine ok_bnd (m_factHere Y.1 Y.2.1) (fun r2 N2 hr2 => ?_)
  obtain ⟨hN2, hr2⟩ := hr2
  dsimp only at hN2 hr2 ⊢
  subst hN2
  rw [toN]
  obtain ⟨N3, e3, k3, w3⟩ := mup_gen N2 99 (16 + s) r2
  refine ok_gd (by omega) (ok_lt ?_)
  rw [e3, w3]
  have Y3 : PNr b L f N3 := Y.up (fun c i q => k3 c i (by omega))
  refine ok_gd (by omega) ?_
  rcases hq with ⟨h1, h2, h3, h4, h5⟩ | ⟨h1, h2, h3, h4, h5⟩
  · dsimp only at h2 h3 h4 h5 ⊢
    have er : r2 = cdE b L f := by omega
    refine ok_ite_f (by omega) (ok_obn (m_nx2 Y3) (fun N4 hN4 => ok_sw (ok_ite_f (by omega) ?_)))
    obtain ⟨s4, Y4⟩ := hN4
    refine bd_fin (bd_wt h3 Y4 hs (fun c i q1 q2 q3 q4 => h5 c i q1 (by omega)) (fun c i q1 q2 q3 q4 => by rw [s4 c i q1, k3 c i (by omega)]) (by omega) (fun _ => ?_) (fun w hw => ⟨fun z => by unfold hasTm at z; omega, fun _ => ?_⟩))
    · rw [s4 _ _ (by unfold isMx; omega), w3, h4]; omega
    · rw [s4 _ _ (by unfold isMx; omega), k3 _ _ (by omega), h5 _ _ (by omega) (by omega)]
      rcases w01 hw with rfl | rfl
      · exact ⟨n3, n1⟩
      · rw [show 32 + (2 * s + 1) = 33 + 2 * s by omega]; exact ⟨n4, n2⟩
  · dsimp only at h2 h3 h4 h5 ⊢
    refine ok_ite_t (by omega) (ok_bnd (m_wr Y3 1) (fun q N4 hq => ok_gd (Or.inl hq.1) (ok_some (ok_ite_t h2 (ok_some (Or.inl ?_))))))
    exact ⟨rfl, hq.1, by show M3 29 0 = N4 80 33; exact h3.trans hq.2.1.symm, by show 1 ≤ M3 29 0 ∧ M3 29 0 ≤ 3; omega, by show M3 29 1 = N4 80 34; exact h4.trans hq.2.2.1.symm, fun c i q1 q2 => h5 c i q1 (by omega), fun c i q1 q2 q3 q4 => (hq.2.2.2 c i (by omega)).trans (k3 c i (by omega))⟩
/-- even -/
theorem bd_even {f s : Nat} (X : PCr b L T r f M) (Y : PNr b L f N) (hs : s < 16) (h0 : noTm r s M N) :
    Okk (f_X6_readBody s 8 M) (fun a => Okk (f_X11_isBody ((16 + s : Nat) : Int) 0 N) (fun c => BD b L T r s 0 M N a c)) := by
  have hr := X.1
  obtain ⟨n1, n2, n3, n4⟩ := h0
  unfold f_X6_readBody f_X11_isBody
  refine ok_ite_f (by omega) (ok_ite_t rfl (ok_sw ?_))
  refine ok_ite_f (by omega) (ok_ite_t rfl ?_)
  rw [r2v s hs, toN]
  obtain ⟨N2, e2, k2, w2⟩ := mup_gen N 100 (32 + 2 * s) 0
  refine ok_gd (by omega) (ok_lt ?_)
  rw [e2]
  have Y2 : PNr b L f N2 := Y.up (fun c i q => k2 c i (by omega))
  have hV : frV s N N2 := fun c i q1 q2 q3 q4 => k2 c i (by omega)
  have e := m_isSign Y2.1 Y2.2.1 sg58
  rw [X.cd]
  by_cases h : cdE b L f = 58
  · rw [b2i_t h] at e
    refine ok_e e (ok_ite_f (by decide) (ok_sw (ok_ite_t h (bd_fin (bd_wt X Y2 hs frBo.rf hV (by omega) (fun z => by omega) (fun w hw => ⟨fun z => ?_, fun z => ?_⟩))))))
    · have e : w = 0 := by unfold hasTm at z; omega
      subst e
      exact ⟨0, by omega, n1, w2, fun j hj => absurd hj (by omega)⟩
    · rcases w01 hw with rfl | rfl
      · exact absurd (Or.inr ⟨rfl, Or.inl rfl⟩) z
      · rw [k2 _ _ (by omega), show 32 + (2 * s + 1) = 33 + 2 * s by omega]; exact ⟨n4, n2⟩
  · rw [b2i_f h] at e
    rw [r2w s hs]
    exact ok_e e (ok_ite_t rfl (ok_sw (ok_ite_f h (bd_tw X Y2 hs n2 (by rw [k2 _ _ (by omega)]; exact n4) (Or.inl rfl) hV))))
/-- what stands in a STATEMENT of sort k -/
theorem lk_body {f s : Nat} {k : Int} (X : PCr b L T r f M) (Y : PNr b L f N) (hs : s < 16) (h0 : noTm r s M N) (hk : 0 ≤ k ∧ k ≤ 8) :
    Okk (f_X6_readBody s (k + 8) M) (fun a => Okk (f_X11_isBody ((16 + s : Nat) : Int) k N) (fun c => BD b L T r s k M N a c)) := by
  have kk : k = 0 ∨ k = 1 ∨ k = 2 ∨ k = 3 ∨ k = 4 ∨ k = 5 ∨ k = 6 ∨ k = 7 ∨ k = 8 := by omega
  have h0' := h0
  obtain ⟨n1, n2, n3, n4⟩ := h0'
  rcases kk with rfl | rfl | rfl | rfl | rfl | rfl | rfl | rfl | rfl
  · exact bd_even X Y hs h0
  · exact bd_sum X Y hs h0
  · unfold f_X6_readBody f_X11_isBody
    refine ok_ite_f (by omega) (ok_ite_f (by omega) (ok_ite_f (by omega) (ok_ite_t rfl (ok_sw ?_))))
    refine ok_ite_f (by omega) (ok_ite_f (by omega) (ok_ite_f (by omega) (ok_ite_t rfl (ok_sw ?_))))
    exact bd_fz (bd_plain X Y hs h0 (Or.inl rfl))
  · unfold f_X6_readBody f_X11_isBody
    refine ok_ite_f (by omega) (ok_ite_f (by omega) (ok_ite_f (by omega) (ok_ite_f (by omega) (ok_ite_t rfl (ok_sw ?_)))))
    refine ok_ite_f (by omega) (ok_ite_f (by omega) (ok_ite_f (by omega) (ok_ite_f (by omega) (ok_ite_t rfl (ok_sw ?_)))))
    rw [r2w s hs, r2v s hs]
    exact bd_tw X Y hs n2 n4 (Or.inr rfl) frV.rf
  · unfold f_X6_readBody f_X11_isBody
    refine ok_ite_f (by omega) (ok_ite_f (by omega) (ok_ite_f (by omega) (ok_ite_f (by omega) (ok_ite_f (by omega) (ok_ite_t rfl (ok_sw ?_))))))
    refine ok_ite_f (by omega) (ok_ite_f (by omega) (ok_ite_f (by omega) (ok_ite_f (by omega) (ok_ite_f (by omega) (ok_ite_t rfl (ok_sw ?_))))))
    exact bd_fz (bd_plain X Y hs h0 (Or.inr rfl))
  · exact bd_apart X Y hs
  · unfold f_X6_readBody f_X11_isBody
    refine ok_ite_f (by omega) (ok_ite_f (by omega) (ok_ite_f (by omega) (ok_ite_f (by omega) (ok_ite_f (by omega) (ok_ite_f (by omega) (ok_ite_f (by omega) (ok_ite_t rfl (ok_sw ?_))))))))
    refine ok_ite_f (by omega) (ok_ite_f (by omega) (ok_ite_f (by omega) (ok_ite_f (by omega) (ok_ite_f (by omega) (ok_ite_f (by omega) (ok_ite_f (by omega) (ok_ite_t rfl (ok_sw ?_))))))))
    exact bd_nt X Y hs n2 n4 (Or.inl rfl)
  · unfold f_X6_readBody f_X11_isBody
    refine ok_ite_f (by omega) (ok_ite_f (by omega) (ok_ite_f (by omega) (ok_ite_f (by omega) (ok_ite_f (by omega) (ok_ite_f (by omega) (ok_ite_f (by omega) (ok_ite_f (by omega) (ok_ite_t rfl (ok_sw ?_)))))))))
    refine ok_ite_f (by omega) (ok_ite_f (by omega) (ok_ite_f (by omega) (ok_ite_f (by omega) (ok_ite_f (by omega) (ok_ite_f (by omega) (ok_ite_f (by omega) (ok_ite_f (by omega) (ok_ite_t rfl (ok_sw ?_)))))))))
    exact bd_nt X Y hs n2 n4 (Or.inr rfl)
  · unfold f_X6_readBody
    refine ok_ite_f (by omega) (ok_ite_f (by omega) (ok_ite_f (by omega) (ok_ite_f (by omega) (ok_ite_f (by omega) (ok_ite_f (by omega) (ok_ite_f (by omega) (ok_ite_f (by omega) (ok_ite_f (by omega) (ok_ite_t rfl ?_)))))))))
    exact bd_fz (bd_twins X Y hs h0)
end STMT
