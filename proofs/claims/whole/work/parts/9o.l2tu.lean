/-! rule: both parsers in step: all sorts of STATEMENTS -/
section BODY
variable {b : Nat → Int} {L T r : Nat} {M N : Mem}
theorem r2w (s : Nat) (hs : s < 16) : wrap (2 * (s : Int)) = ((2 * s : Nat) : Int) := by rw [wrap_of (by omega) (by omega)]; omega
theorem r2v (s : Nat) (hs : s < 16) : wrap (2 * ((16 + s : Nat) : Int)) = ((32 + 2 * s : Nat) : Int) := by rw [wrap_of (by omega) (by omega)]; omega
theorem rf_k {M' : Mem} {k : Int} {f : Nat} (h : rfC M M' k f) : BC r M M' → True := fun _ => trivial
/-- apart: TERMS from TERMS -/
theorem bd_apart {f s : Nat} (X : PCr b L T r f M) (Y : PNr b L f N) (hs : s < 16) :
    Okk (f_X6_readBody s 13 M) (fun a => Okk (f_X11_isBody ((16 + s : Nat) : Int) 5 N) (fun c => BD b L T r s 5 M N a c)) := by
  have hr := X.1
  unfold f_X6_readBody f_X11_isBody
  refine ok_ite_f (by omega) (ok_ite_f (by omega) (ok_ite_f (by omega) (ok_ite_f (by omega) (ok_ite_f (by omega) (ok_ite_f (by omega) (ok_ite_t rfl (ok_sw ?_)))))))
  refine ok_ite_f (by omega) (ok_ite_f (by omega) (ok_ite_f (by omega) (ok_ite_f (by omega) (ok_ite_f (by omega) (ok_ite_f (by omega) (ok_ite_t rfl (ok_sw ?_)))))))
  rw [r2w s hs, r2v s hs]
  refine ok_2 (lk_terms X Y (R := 2 * s) (by omega)) (fun a c h => ?_)
  rcases h with h | ⟨g1, g2, f', X2, Y2, s2, t2, d⟩
  · exact ok_ite_t h.1 (ok_some (ok_ite_t h.2.1 (ok_some (Or.inl ⟨rfl, rfl, h.2.2⟩))))
  have b1 : BC r M a.2 := fun x i q1 q2 => s2 x i (by omega) (by omega) (by omega)
  have b2 : BN N c.2 := fun x i q1 q2 q3 q4 => t2 x i (by unfold isMx; omega) (by omega) (by omega)
  refine ok_ite_f (by omega) (ok_sw (ok_ite_f (by omega) (ok_sw ?_)))
  refine ok_bnd (c_code X2 21) (fun q M3 hq => ?_)
  refine ok_sw (ok_bnd (m_isWord Y2.1 Y2.2.1 (k := 21) (i := 24) (by omega) rfl) (fun r1 N3 hr1 => ok_sw ?_))
  obtain ⟨hr1, hN3⟩ := hr1
  dsimp only at hr1 hN3 ⊢
  subst hN3
  replace hr1 : isB r1 (cdE b L f' = 21) := hr1
  rcases hq with ⟨h1, h2, h3, h4⟩ | ⟨h1, h2, h3⟩
  · dsimp only at h2 h3 h4 ⊢
    have e1 : ¬ r1 = 0 := fun z => hr1.f z h1
    refine ok_ite_f (by omega) (ok_sw (ok_ite_f e1 (ok_obn (m_nx2 Y2) (fun N4 hN4 => ok_sw ?_))))
    obtain ⟨s4, Y4⟩ := hN4
    rw [wrap_of (x := ((2 * s : Nat) : Int) + 1) (by omega) (by omega), wrap_of (x := ((32 + 2 * s : Nat) : Int) + 1) (by omega) (by omega), show ((2 * s : Nat) : Int) + 1 = ((2 * s + 1 : Nat) : Int) by omega, show ((32 + 2 * s : Nat) : Int) + 1 = ((32 + (2 * s + 1) : Nat) : Int) by omega]
    refine ok_2 (lk_terms h4 Y4 (R := 2 * s + 1) (by omega)) (fun a2 c2 h => ?_)
    rcases h with h | ⟨g1', g2', f2, X5, Y5, s5, t5, d5⟩
    · have h' : FL r M N a2 c2 := h.tr (fun x i q1 q2 => by rw [h3 x i (by omega)]; exact b1 x i q1 q2) (fun x i q1 q2 q3 q4 => by rw [s4 x i (by unfold isMx; omega)]; exact b2 x i q1 q2 q3 q4)
      exact ok_ite_t h.1 (ok_some (ok_gd (Or.inl h.2.1) (ok_some (Or.inl ⟨rfl, h'.2⟩))))
    · refine ok_ite_f (by omega) (ok_some (ok_gd (Or.inr g2') (ok_some (Or.inr ⟨rfl, g2', f2, X5, Y5, fun x i q1 q2 q3 q4 => ?_, fun x i q1 q2 q3 q4 => ?_, fun z => absurd rfl z, fun z => by omega, fun z => by omega, fun w hw => ⟨fun _ => ?_, fun z => absurd (Or.inl rfl) z⟩⟩))))
      · show a2.2 x i = _
        rw [s5 x i q1 (by omega) (by omega), h3 x i q1, s2 x i q1 (by omega) (by omega)]
      · show c2.2 x i = _
        rw [t5 x i q1 (by omega) (by omega), s4 x i q1, t2 x i q1 (by omega) (by omega)]
      · rcases w01 hw with rfl | rfl
        · exact d.fr (fun x i q => by show a2.2 x i = _; rw [s5 x i (by omega) (by omega) (by omega), h3 x i (by omega)]) (fun x i q => by show c2.2 x i = _; rw [t5 x i (by unfold isMx; omega) (by omega) (by omega), s4 x i (by unfold isMx; omega)])
        · exact d5
  · dsimp only at h2 h3 ⊢
    have e1 : r1 = 0 := by
      rcases hr1 with z | z
      · exact absurd z.2 h1
      · exact z.1
    refine ok_ite_t h2 (ok_some (ok_ite_t e1 (ok_bnd (m_wr Y2 1) (fun q N4 hq => ok_gd (Or.inl hq.1) (ok_some (Or.inl ?_))))))
    exact FL.mk2 (k := 1) (by omega) rfl hq.1 h3 hq.2 b1 b2
/-- most, least: a NUMBER, TERMS -/
theorem bd_nt {f s : Nat} {k : Int} (X : PCr b L T r f M) (Y : PNr b L f N) (hs : s < 16) (n2 : M (r + 4) (2 * s + 1) = 0) (n4 : N 100 (33 + 2 * s) = -1) (hk : k = 6 ∨ k = 7) :
    Okk (bnd (f_X6_readNumber s M) fun r_14 M_15 => if r_14 = 0 then (some (0, M_15) : Option Res) else bnd (f_X6_readTerms (wrap (2 * (s : Int))) M_15) fun r_15 M_16 => if r_15 = 0 then (some (0, M_16) : Option Res) else some (1, M_16)) (fun a => Okk (bnd (f_X11_takesNumber ((16 + s : Nat) : Int) N) fun r_25 M_29 => if r_25 = 0 then (some (0, M_29) : Option Res) else bnd (f_X11_takesTerms (wrap (2 * ((16 + s : Nat) : Int))) M_29) fun r_26 M_30 => if r_26 = 0 then (some (0, M_30) : Option Res) else some (1, M_30)) (fun c => BD b L T r s k M N a c)) := by
  have hr := X.1
  rw [r2w s hs, r2v s hs]
  refine ok_2 (lk_num X Y hs) (fun a c h => ?_)
  rcases h with h | ⟨g1, g2, X2, Y2, s2, t2, d1, d2, d3⟩
  · exact ok_ite_t h.1 (ok_some (ok_ite_t h.2.1 (ok_some (Or.inl ⟨rfl, rfl, h.2.2⟩))))
  have b1 : BC r M a.2 := fun x i q1 q2 => s2 x i (by omega) (by omega)
  have b2 : BN N c.2 := fun x i q1 q2 q3 q4 => t2 x i (by unfold isMx; omega) (by omega)
  refine ok_ite_f (by omega) (ok_sw (ok_ite_f (by omega) (ok_sw ?_)))
  refine ok_2 (lk_terms X2 Y2 (R := 2 * s) (by omega)) (fun a2 c2 h => ?_)
  rcases h with h | ⟨g1', g2', f2, X5, Y5, s5, t5, d5⟩
  · have h' : FL r M N a2 c2 := h.tr b1 b2
    exact ok_ite_t h.1 (ok_some (ok_ite_t h.2.1 (ok_some (Or.inl ⟨rfl, rfl, h'.2.2⟩))))
  · refine ok_ite_f (by omega) (ok_some (ok_ite_f (by omega) (ok_some (Or.inr ⟨rfl, rfl, f2, X5, Y5, fun x i q1 q2 q3 q4 => ?_, fun x i q1 q2 q3 q4 => ?_, fun _ _ => ?_, fun z => by omega, fun z => by omega, fun w hw => ⟨fun z => ?_, fun z => ?_⟩⟩))))
    · show a2.2 x i = _
      rw [s5 x i q1 (by omega) (by omega), s2 x i q1 (by omega)]
    · show c2.2 x i = _
      rw [t5 x i q1 (by omega) (by omega), t2 x i q1 (by omega)]
    · show 0 ≤ c2.2 98 (16 + s) ∧ c2.2 98 (16 + s) ≤ 99 ∧ a2.2 (r + 2) s = c2.2 98 (16 + s)
      rw [s5 (r + 2) s (by omega) (by omega) (by omega), t5 98 (16 + s) (by unfold isMx; omega) (by omega) (by omega)]
      exact ⟨d2, d3, d1⟩
    · have e : w = 0 := by unfold hasTm at z; omega
      subst e; exact d5
    · rcases w01 hw with rfl | rfl
      · exact absurd (Or.inr ⟨rfl, by omega⟩) z
      · show c2.2 100 (32 + (2 * s + 1)) = -1 ∧ a2.2 (r + 4) (2 * s + 1) = 0
        rw [t5 _ _ (by unfold isMx; omega) (by omega) (by omega), t2 _ _ (by unfold isMx; omega) (by omega), s5 _ _ (by omega) (by omega) (by omega), s2 _ _ (by omega) (by omega), show 32 + (2 * s + 1) = 33 + 2 * s by omega]
        exact ⟨n4, n2⟩
/-- twins: how -/
theorem bd_twins {f s : Nat} (X : PCr b L T r f M) (Y : PNr b L f N) (hs : s < 16) (h0 : noTm r s M N) :
    Okk (f_X6_readHow s M) (fun a => Okk (f_X11_isBody ((16 + s : Nat) : Int) 8 N) (fun c => BD b L T r s 8 M N a c)) := by
  have hr := X.1
  obtain ⟨n1, n2, n3, n4⟩ := h0
  unfold f_X6_readHow
  rw [X.rn, X.cd, toN]
  obtain ⟨M2, e2, f2, v2⟩ := mup_gen M (r + 3) s (cdE b L f)
  refine ok_gd X.ru (ok_gd (by omega) (ok_lt ?_))
  rw [e2]
  have X2 : PCr b L T r f M2 := X.up (fun c i q => f2 c i (by omega))
  rw [X2.cd]
  -- the class, all told
  have cls : Okk (if cdE b L f = 13 then bnd (f_X6_readCode (cdE b L f) M2) fun r_1 M_3 => gd (isZ r_1) <| (some (r_1, M_3) : Option Res) else if cdE b L f = 17 then bnd (f_X6_readCode (cdE b L f) M2) fun r_3 M_5 => gd (isZ r_3) <| (some (r_3, M_5) : Option Res) else bnd (f_X6_readCode 18 M2) fun r_2 M_4 => gd (isZ r_2) <| (some (r_2, M_4) : Option Res)) (fun a => ((cdE b L f = 13 ∨ cdE b L f = 17 ∨ cdE b L f = 18) ∧ a.1 = 1 ∧ smC M2 a.2 ∧ PCr b L T r (nxE b L f) a.2) ∨ (¬ (cdE b L f = 13 ∨ cdE b L f = 17 ∨ cdE b L f = 18) ∧ a.1 = 0 ∧ rfC M2 a.2 1 f)) := by
    have key : ∀ k : Int, (cdE b L f = k → (cdE b L f = 13 ∨ cdE b L f = 17 ∨ cdE b L f = 18)) → (cdE b L f ≠ k → ¬ (cdE b L f = 13 ∨ cdE b L f = 17 ∨ cdE b L f = 18)) → Okk (bnd (f_X6_readCode k M2) fun r_1 M_3 => gd (isZ r_1) <| (some (r_1, M_3) : Option Res)) (fun a => ((cdE b L f = 13 ∨ cdE b L f = 17 ∨ cdE b L f = 18) ∧ a.1 = 1 ∧ smC M2 a.2 ∧ PCr b L T r (nxE b L f) a.2) ∨ (¬ (cdE b L f = 13 ∨ cdE b L f = 17 ∨ cdE b L f = 18) ∧ a.1 = 0 ∧ rfC M2 a.2 1 f)) := fun k k1 k2 => by
      refine ok_bnd (c_code X2 k) (fun q M3 hq => ?_)
      rcases hq with ⟨h1, h2, h3, h4⟩ | ⟨h1, h2, h3⟩
      · exact ok_gd (Or.inr h2) (ok_some (Or.inl ⟨k1 h1, h2, h3, h4⟩))
      · exact ok_gd (Or.inl h2) (ok_some (Or.inr ⟨k2 h1, h2, h3⟩))
    exact ok_ite (fun z => key _ (fun _ => Or.inl z) (fun y => absurd rfl y)) (fun z => ok_ite (fun z2 => key _ (fun _ => Or.inr (Or.inl z2)) (fun y => absurd rfl y)) (fun z2 => key 18 (fun y => Or.inr (Or.inr y)) (fun y => by omega)))
  refine ok_mono cls (fun a ha => ?_)
  -- the model
  have mod : ∀ x : Int, x = (if cdE b L f = 13 then 1 else if cdE b L f = 17 then 2 else if cdE b L f = 18 then 0 else -1) → Okk (f_X11_isBody_j323 ((16 + s : Nat) : Int) x ((16 + s : Nat) : Int) N) (fun c => BD b L T r s 8 M N a c) := fun x hx => by
    unfold f_X11_isBody_j323
    rw [toN]
    obtain ⟨N2, g2, k2, w2⟩ := mup_gen N 98 (16 + s) x
    refine ok_gd (by omega) (ok_lt ?_)
    rw [g2, w2]
    have Y2 : PNr b L f N2 := Y.up (fun c i q => k2 c i (by omega))
    refine ok_gd (by omega) ?_
    rcases ha with ⟨h1, h2, h3, h4⟩ | ⟨h1, h2, h3⟩
    · have hx0 : ¬ x = -1 := by rw [hx]; repeat' split
                                all_goals omega
      refine ok_ite_f hx0 (ok_obn (m_nx2 Y2) (fun N3 hN3 => ok_some (Or.inr ⟨h2, rfl, _, h4, hN3.2, fun c i q1 q2 q3 q4 => ?_, fun c i q1 q2 q3 q4 => ?_, fun _ z => absurd rfl z, fun _ => ?_, fun z => by omega, fun w hw => ⟨fun z => by unfold hasTm at z; omega, fun _ => ?_⟩⟩)))
      · rw [h3 c i q1, f2 c i (by omega)]
      · show N3 c i = _
        rw [hN3.1 c i q1, k2 c i (by omega)]
      · show (N3 98 (16 + s) = 0 ∧ a.2 (r + 3) s = 18) ∨ (N3 98 (16 + s) = 1 ∧ a.2 (r + 3) s = 13) ∨ (N3 98 (16 + s) = 2 ∧ a.2 (r + 3) s = 17)
        rw [hN3.1 _ _ (by unfold isMx; omega), w2, h3 _ _ (by omega), v2, hx]
        rcases h1 with z | z | z
        · rw [if_pos z]; omega
        · rw [if_neg (by omega), if_pos z]; omega
        · rw [if_neg (by omega), if_neg (by omega), if_pos z]; omega
      · show N3 100 (32 + (2 * s + w)) = -1 ∧ a.2 (r + 4) (2 * s + w) = 0
        rw [hN3.1 _ _ (by unfold isMx; omega), k2 _ _ (by omega), h3 _ _ (by omega), f2 _ _ (by omega)]
        rcases w01 hw with rfl | rfl
        · exact ⟨n3, n1⟩
        · rw [show 32 + (2 * s + 1) = 33 + 2 * s by omega]; exact ⟨n4, n2⟩
    · have hx0 : x = -1 := by rw [hx, if_neg (by omega), if_neg (by omega), if_neg (by omega)]
      refine ok_ite_t hx0 (ok_bnd (m_wr Y2 1) (fun q N4 hq => ok_gd (Or.inl hq.1) (ok_some (Or.inl ?_))))
      exact FL.mk2 (k := 1) (by omega) h2 hq.1 h3 hq.2 (fun c i q1 q2 => f2 c i (by omega)) (fun c i q1 q2 q3 q4 => k2 c i (by omega))
  unfold f_X11_isBody
  refine ok_ite_t (by omega) (ok_bnd (m_isWord Y.1 Y.2.1 (k := 13) (i := 10) (by omega) rfl) (fun r1 N1 hr1 => ?_))
  obtain ⟨hr1, hN1⟩ := hr1
  dsimp only at hr1 hN1 ⊢
  subst hN1
  replace hr1 : isB r1 (cdE b L f = 13) := hr1
  refine ok_ite (fun z1 => ?_) (fun z1 => mod 1 (by rw [if_pos (hr1.t z1)]))
  refine ok_bnd (m_isWord Y.1 Y.2.1 (k := 17) (i := 25) (by omega) rfl) (fun r2 N2 hr2 => ?_)
  obtain ⟨hr2, hN2⟩ := hr2
  dsimp only at hr2 hN2 ⊢
  subst hN2
  replace hr2 : isB r2 (cdE b L f = 17) := hr2
  refine ok_ite (fun z2 => ?_) (fun z2 => mod 2 (by rw [if_neg (hr1.f z1), if_pos (hr2.t z2)]))
  refine ok_bnd (m_isWord Y.1 Y.2.1 (k := 18) (i := 26) (by omega) rfl) (fun r3 N3 hr3 => ?_)
  obtain ⟨hr3, hN3⟩ := hr3
  dsimp only at hr3 hN3 ⊢
  subst hN3
  replace hr3 : isB r3 (cdE b L f = 18) := hr3
  exact ok_ite (fun z3 => mod (-1) (by rw [if_neg (hr1.f z1), if_neg (hr2.f z2), if_neg (hr3.f z3)])) (fun z3 => mod 0 (by rw [if_neg (hr1.f z1), if_neg (hr2.f z2), if_pos (hr3.t z3)]))
end BODY
