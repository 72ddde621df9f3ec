/-! rule: both parsers in step: NUMBERS, SIGNS, TERMS -/
section STEP
variable {b : Nat → Int} {L T r : Nat} {M N : Mem}
theorem PNr.hb {f : Nat} (Y : PNr b L f N) : ∀ i, i < L → 0 ≤ b i ∧ b i ≤ 255 := fun i hi => (Y.1.2.2 i hi).2
theorem tr_b (hb : ∀ i, i < L → 0 ≤ b i ∧ b i ≤ 255) {f : Nat} (h : trK b L f = 0) : (0 ≤ cdE b L f ∧ cdE b L f ≤ 7) ∧ (cdE b L f ≠ 7 → 60 ≤ cdE b L (nxE b L f) ∧ cdE b L (nxE b L f) ≤ 62) ∧ (0 ≤ trV b L f ∧ trV b L f ≤ 99) ∧ (cdE b L f = 7 → trV b L f ≤ 7) := by
  unfold trK at h
  unfold trV
  by_cases h1 : 0 ≤ cdE b L f ∧ cdE b L f ≤ 7
  · rw [if_neg (fun z => z h1)] at h
    by_cases h7 : cdE b L f = 7
    · rw [if_pos h7] at h ⊢
      by_cases h3 : cdE b L (nxE b L f) = -3
      · rw [if_neg (fun z => z h3)] at h
        have q := nm_b hb h3
        by_cases h9 : 7 < nmE b L (nxE b L f)
        · rw [if_pos h9] at h; omega
        · exact ⟨h1, fun z => absurd h7 z, q, fun _ => by omega⟩
      · rw [if_pos h3] at h; omega
    · rw [if_neg h7] at h ⊢
      by_cases h6 : 60 ≤ cdE b L (nxE b L f) ∧ cdE b L (nxE b L f) ≤ 62
      · rw [if_neg (fun z => z h6)] at h
        by_cases h3 : cdE b L (nxE b L (nxE b L f)) = -3
        · exact ⟨h1, fun _ => h6, nm_b hb h3, fun z => absurd z h7⟩
        · rw [if_pos h3] at h; omega
      · rw [if_pos h6] at h; omega
  · rw [if_pos h1] at h; omega
theorem tmD_of (hb : ∀ i, i < L → 0 ≤ b i ∧ b i ≤ 255) {t p : Nat} (h0 : tmK b L p = 0) (h1 : tdC b L r t p M) (h2 : tdN b L (128 + t) p N) : tmD r t M N := by
  obtain ⟨q1, q2, q3, q4⟩ := tr_b hb h0
  obtain ⟨a1, a2, a3, a4⟩ := h1
  obtain ⟨c1, c2, c3, c4⟩ := h2
  refine ⟨⟨?_, by rw [a1, c1]⟩, ⟨by omega, by omega, by omega⟩, fun z => ?_, by omega, fun z => ?_, by omega⟩
  · rw [c1]; unfold isZ; split <;> omega
  · have z2 : cdE b L (tmB b L p) ≠ 7 := by rw [← c2]; exact z
    have := a3 z2
    have := c3 z2
    have := q2 z2
    omega
  · have := q4 (by rw [← c2]; exact z)
    omega
theorem BC.rf : BC r M M := fun _ _ _ _ => rfl
theorem BN.rf : BN N N := fun _ _ _ _ _ _ => rfl
/-- TERMS of a row, on both sides -/
def tsD (r R : Nat) (M N : Mem) : Prop := ∃ n : Nat, n ≤ 4 ∧ M (r + 4) R = (n : Int) ∧ N 100 (32 + R) = (n : Int) ∧ ∀ j, j < n → tmD r (4 * R + j) M N
def frT (r R : Nat) (M M' : Mem) : Prop := ∀ c i, ¬ (c = 29 ∧ 4 ≤ i ∧ i ≤ 7) → ¬ (c = r + 4 ∧ i = R) → ¬ (r + 5 ≤ c ∧ c ≤ r + 8 ∧ 4 * R ≤ i ∧ i < 4 * R + 4) → M' c i = M c i
def frU (R : Nat) (N N' : Mem) : Prop := ∀ c i, ¬ isMx c i → ¬ (c = 100 ∧ i = 32 + R) → ¬ (101 ≤ c ∧ c ≤ 104 ∧ 4 * (32 + R) ≤ i ∧ i < 4 * (32 + R) + 4) → N' c i = N c i
theorem lk_terms {f R : Nat} (X : PCr b L T r f M) (Y : PNr b L f N) (hR : R < 32) : Okk (f_X6_readTerms R M) (fun a => Okk (f_X11_takesTerms ((32 + R : Nat) : Int) N) (fun c => FL r M N a c ∨ (a.1 = 1 ∧ c.1 = 1 ∧ ∃ f', PCr b L T r f' a.2 ∧ PNr b L f' c.2 ∧ frT r R M a.2 ∧ frU R N c.2 ∧ tsD r R a.2 c.2))) := by
  have hr := X.1
  refine ok_mono (c_terms X hR) (fun a ha => ok_mono (m_terms Y (R := 32 + R) (by omega)) (fun c hc => ?_))
  rcases ha with ⟨a0, a1, a2, a3, a4⟩ | ⟨a0, a1, a2, a3, a4, a5, a6⟩
  · rcases hc with ⟨c0, c1, c2, c3, c4⟩ | ⟨c0, c1, c2, c3, c4, c5⟩
    · refine Or.inl ⟨a1, c1, by rw [a2, c2], ?_, by rw [a3, c3], fun x i q1 q2 => a4 x i q1 (by omega) (by omega), fun x i q1 q2 q3 q4 => c4 x i (by omega) (by omega) (by omega)⟩
      rw [a2]
      have key : ∀ n t g, (tsR b L n t g).1 ≠ 0 → 1 ≤ (tsR b L n t g).1 ∧ (tsR b L n t g).1 ≤ 3 := by
        intro n
        induction n with
        | zero => intro t g _; show 1 ≤ (1 : Int) ∧ (1 : Int) ≤ 3; omega
        | succ n ih =>
          intro t g h
          by_cases hbg : bgT b L g
          · rw [tsR_go hbg] at h ⊢
            by_cases h4 : 4 ≤ t
            · rw [if_pos h4]; show 1 ≤ (3 : Int) ∧ (3 : Int) ≤ 3; omega
            · rw [if_neg h4] at h ⊢
              by_cases hk : tmK b L g ≠ 0
              · rw [if_pos hk]
                show 1 ≤ tmK b L g ∧ tmK b L g ≤ 3
                unfold tmK trK at hk ⊢
                repeat' split
                all_goals first
                  | omega
                  | simp_all
              · rw [if_neg hk] at h ⊢
                by_cases h20 : cdE b L (tmP b L g) ≠ 20
                · rw [if_pos h20] at h
                  exact absurd rfl h
                · rw [if_neg h20] at h ⊢
                  exact ih _ _ h
          · rw [tsR_no hbg]; show 1 ≤ (1 : Int) ∧ (1 : Int) ≤ 3; omega
      exact key _ _ _ a0
    · exact absurd c0 a0
  · rcases hc with ⟨c0, c1, c2, c3, c4⟩ | ⟨c0, c1, c2, c3, c4, c5⟩
    · exact absurd a0 c0
    · refine Or.inr ⟨a1, c1, _, a2, c2, a3, c3, _, a5, a4, c4, fun j hj => ?_⟩
      obtain ⟨d1, d2⟩ := a6 j hj
      have := c5 j hj
      rw [show 4 * (32 + R) + j = 128 + (4 * R + j) by omega] at this
      exact tmD_of Y.hb d1 d2 this
/-- a SIGN -/
theorem lk_sign {f : Nat} (X : PCr b L T r f M) (Y : PNr b L f N) {k : Int} (hk : isSg k) : Okk (f_X6_readCode k M) (fun a => Okk (f_X11_takesSign k N) (fun c => FL r M N a c ∨ (a.1 = 1 ∧ c.1 = 1 ∧ PCr b L T r (nxE b L f) a.2 ∧ PNr b L (nxE b L f) c.2 ∧ smC M a.2 ∧ smN N c.2))) := by
  refine ok_mono (c_code X k) (fun a ha => ?_)
  unfold f_X11_takesSign
  have e := m_isSign Y.1 Y.2.1 hk
  rcases ha with ⟨h1, h2, h3, h4⟩ | ⟨h1, h2, h3⟩
  · rw [b2i_t h1] at e
    exact ok_e e (ok_ite_f (by decide) (ok_obn (m_nx2 Y) (fun N' hN' => ok_some (Or.inr ⟨h2, rfl, h4, hN'.2, h3, hN'.1⟩))))
  · rw [b2i_f h1] at e
    refine ok_e e (ok_ite_t rfl (ok_bnd (m_wr Y 1) (fun q N' hq => ok_gd (Or.inl hq.1) (ok_some (Or.inl ?_)))))
    exact FL.mk2 (k := 1) (by omega) h2 hq.1 h3 hq.2 BC.rf BN.rf
/-- a NUMBER of a STATEMENT -/
theorem lk_num {f s : Nat} (X : PCr b L T r f M) (Y : PNr b L f N) (hs : s < 16) : Okk (f_X6_readNumber s M) (fun a => Okk (f_X11_takesNumber ((16 + s : Nat) : Int) N) (fun c => FL r M N a c ∨ (a.1 = 1 ∧ c.1 = 1 ∧ PCr b L T r (nxE b L f) a.2 ∧ PNr b L (nxE b L f) c.2 ∧ (∀ x i, ¬ (x = 29 ∧ 4 ≤ i ∧ i ≤ 7) → ¬ (x = r + 2 ∧ i = s) → a.2 x i = M x i) ∧ (∀ x i, ¬ isMx x i → ¬ (x = 98 ∧ i = 16 + s) → c.2 x i = N x i) ∧ a.2 (r + 2) s = c.2 98 (16 + s) ∧ 0 ≤ c.2 98 (16 + s) ∧ c.2 98 (16 + s) ≤ 99))) := by
  have hr := X.1
  unfold f_X6_readNumber
  rw [X.rn, X.nm, toN]
  obtain ⟨M2, e2, f2, v2⟩ := mup_gen M (r + 2) s (nmE b L f)
  refine ok_gd X.ru (ok_gd (by omega) (ok_lt ?_))
  rw [e2]
  have X2 : PCr b L T r f M2 := X.up (fun c i q => f2 c i (by omega))
  refine ok_bnd (c_code X2 (-3)) (fun q M3 hq => ?_)
  unfold f_X11_takesNumber
  rw [toN]
  rcases hq with ⟨h1, h2, h3, h4⟩ | ⟨h1, h2, h3⟩
  · dsimp only at h2 h3 h4 ⊢
    refine ok_gd (Or.inr h2) (ok_some (ok_ite_t (Y.tk.mpr h1) (ok_gd (by omega) (ok_lt ?_))))
    rw [Y.nm h1]
    obtain ⟨N2, g2, k2, w2⟩ := mup_gen N 98 (16 + s) (nmE b L f)
    rw [g2]
    have Y2 : PNr b L f N2 := Y.up (fun c i q => k2 c i (by omega))
    refine ok_obn (m_nx2 Y2) (fun N3 hN3 => ok_some (Or.inr ⟨h2, rfl, h4, hN3.2, fun x i q1 q2 => ?_, fun x i q1 q2 => ?_, ?_, ?_, ?_⟩))
    · show M3 x i = _; rw [h3 x i q1, f2 x i q2]
    · show N3 x i = _; rw [hN3.1 x i q1, k2 x i q2]
    · show M3 (r + 2) s = N3 98 (16 + s); rw [h3 _ _ (by omega), v2, hN3.1 _ _ (by unfold isMx; omega), w2]
    · show 0 ≤ N3 98 (16 + s); rw [hN3.1 _ _ (by unfold isMx; omega), w2]; exact (nm_b Y.hb h1).1
    · show N3 98 (16 + s) ≤ 99; rw [hN3.1 _ _ (by unfold isMx; omega), w2]; exact (nm_b Y.hb h1).2
  · dsimp only at h2 h3 ⊢
    refine ok_gd (Or.inl h2) (ok_some (ok_ite_f (fun z => h1 (Y.tk.mp z)) (ok_bnd (m_wr Y 1) (fun q N' hq => ok_gd (Or.inl hq.1) (ok_some (Or.inl ?_))))))
    exact FL.mk2 (k := 1) (by omega) h2 hq.1 h3 hq.2 (fun x i q1 q2 => f2 x i (by omega)) BN.rf
/-- a SIGN and a NUMBER -/
theorem lk_wt {f s : Nat} (X : PCr b L T r f M) (Y : PNr b L f N) (hs : s < 16) : Okk (f_X6_readWeight s M) (fun a => Okk (bnd (f_X11_takesSign 58 N) fun r_1 M_1 => if r_1 = 0 then (some (0, M_1) : Option Res) else bnd (f_X11_takesNumber ((16 + s : Nat) : Int) M_1) fun r_2 M_2 => if r_2 = 0 then (some (0, M_2) : Option Res) else some (1, M_2)) (fun c => FL r M N a c ∨ (a.1 = 1 ∧ c.1 = 1 ∧ ∃ f', PCr b L T r f' a.2 ∧ PNr b L f' c.2 ∧ (∀ x i, ¬ (x = 29 ∧ 4 ≤ i ∧ i ≤ 7) → ¬ (x = r + 2 ∧ i = s) → a.2 x i = M x i) ∧ (∀ x i, ¬ isMx x i → ¬ (x = 98 ∧ i = 16 + s) → c.2 x i = N x i) ∧ a.2 (r + 2) s = c.2 98 (16 + s) ∧ 0 ≤ c.2 98 (16 + s) ∧ c.2 98 (16 + s) ≤ 99))) := by
  have hr := X.1
  unfold f_X6_readWeight
  refine ok_2 (lk_sign X Y sg58) (fun a c h => ?_)
  rcases h with h | ⟨h1, h2, X1, Y1, s1, t1⟩
  · exact ok_ite_t h.1 (ok_some (ok_ite_t h.2.1 (ok_some (Or.inl ⟨rfl, rfl, h.2.2⟩))))
  · refine ok_ite_f (by omega) (ok_sw (ok_ite_f (by omega) (ok_sw (ok_2 (lk_num X1 Y1 hs) (fun a2 c2 h => ?_)))))
    rcases h with h | ⟨g1, g2, X2, Y2, s2, t2, d1, d2, d3⟩
    · have h' : FL r M N a2 c2 := h.tr (fun x i q1 q2 => s1 x i (by omega)) (fun x i q1 q2 q3 q4 => t1 x i (by unfold isMx; omega))
      exact ok_ite_t h.1 (ok_some (ok_ite_t h.2.1 (ok_some (Or.inl ⟨rfl, rfl, h'.2.2⟩))))
    · exact ok_ite_f (by omega) (ok_some (ok_ite_f (by omega) (ok_some (Or.inr ⟨rfl, rfl, _, X2, Y2, fun x i q1 q2 => by show a2.2 x i = _; rw [s2 x i q1 q2, s1 x i q1], fun x i q1 q2 => by show c2.2 x i = _; rw [t2 x i q1 q2, t1 x i q1], d1, d2, d3⟩))))
end STEP
