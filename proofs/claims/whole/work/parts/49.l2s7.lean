/-! the search: all ways -/
theorem wrap_n1 {k : Nat} (h : k < 1000000) : wrap ((k : Int) + 1) = ((k + 1 : Nat) : Int) := by rw [wrap_of (by omega) (by omega)]; rfl
theorem blk (C x e : Nat) : x * C ^ (e + 1) = (C * x) * C ^ e := by rw [Nat.pow_succ, Nat.mul_comm (C ^ e), ← Nat.mul_assoc, Nat.mul_comm x]
theorem blk0 (C x e : Nat) : x * C ^ (e + 1) = (C * x + 0) * C ^ e := by rw [blk, Nat.add_zero]
theorem blk1 (C x e : Nat) : (x + 1) * C ^ (e + 1) = (C * x + C) * C ^ e := by rw [blk, Nat.mul_succ]
section ASG
variable {B : Mem} {known : Int} {n : Nat} {mem : Nat → Nat} {stay : Nat → Int}
theorem chp_chg {c i : Nat} (h : ¬ Chg c i) : ¬ ChP c i := by
  unfold Chg at h
  unfold ChP
  omega
theorem c_asg (hst : (∀ i, i < n → stay i = -1) ∨ (∀ i, i < n → stay i ≠ -1)) : ∀ (e d a : Nat) (s : Nat → Nat) (M : Mem), a + e = n → e < d → ST B known n mem stay M → DS B known mem stay s a M → LG B known n mem s a → (e = 0 → M 35 17 = 0 ∨ M 35 16 ≤ M 35 18) → Best B known n mem stay M (cod (nC B) s a * nC B ^ e) →
    Okk (f_X8_asg d a M) (fun M' => ST B known n mem stay M' ∧ DS B known mem stay s a M' ∧ Best B known n mem stay M' ((cod (nC B) s a + 1) * nC B ^ e) ∧ ∀ c i, ¬ Chg c i → M' c i = M c i)
  | 0, d, a, s, M, hn, hd, X, D, L, hmv, hB => by
    obtain ⟨d, rfl⟩ : ∃ d', d = d' + 1 := ⟨d - 1, by omega⟩
    have hn2 : a = n := by omega
    subst hn2
    rw [Nat.pow_zero, Nat.mul_one] at hB ⊢
    unfold f_X8_asg f_X8_assign_b
    rw [X.2.1.2.2.2.1]
    refine ok_ite_f (by omega) (ok_obn (c_weigh X D L (hmv rfl) hB) (fun M' hM => ok_some ?_))
    obtain ⟨f, hB'⟩ := hM
    have fr : ∀ c i, ¬ Chg c i → M' c i = M c i := fun c i q => f c i (by unfold Chg at q; omega)
    refine ⟨X.fr fr, ⟨fun k hk => by rw [f 45 k (by omega)]; exact D.1 k hk, fun i hi => by rw [f 46 i (by omega)]; exact D.2.1 i hi, by rw [f 35 16 (by omega)]; exact D.2.2.1, fun t ht hsp k hk => by rw [f 44 _ (by omega)]; exact D.2.2.2 t ht hsp k hk⟩, hB', fr⟩
  | e + 1, d, a, s, M, hn, hd, X, D, L, hmv, hB => by
    obtain ⟨d, rfl⟩ : ∃ d', d = d' + 1 := ⟨d - 1, by omega⟩
    have h9 := X.2.1.1
    have h3 := X.1.c.1.k23
    have hC : 0 < nC B := by omega
    rw [blk0] at hB
    rw [blk1]
    unfold f_X8_asg f_X8_assign_b
    rw [X.2.1.2.2.2.1]
    refine ok_ite_t (by omega) (ok_obn (P := fun v => ST B known n mem stay v.2 ∧ DS B known mem stay s a v.2 ∧ Best B known n mem stay v.2 ((nC B * cod (nC B) s a + nC B) * nC B ^ e) ∧ ∀ c i, ¬ Chg c i → v.2 c i = M c i) ?_ (fun v hv => ok_some hv))
    unfold f_X8_assign_l15
    refine ok_whl (nC B) (fun k v => v.1 = (k : Int) ∧ ST B known n mem stay v.2 ∧ DS B known mem stay s a v.2 ∧ Best B known n mem stay v.2 ((nC B * cod (nC B) s a + k) * nC B ^ e) ∧ ∀ c i, ¬ Chg c i → v.2 c i = M c i) (FU_big (by omega)) ⟨rfl, X, D, hB, fun _ _ _ => rfl⟩ ?_
    rintro k ⟨v, M1⟩ hk ⟨hv, X1, D1, B1, F1⟩
    dsimp only at hv X1 D1 B1 F1 ⊢
    subst hv
    unfold f_X8_assign_s15
    rw [X1.1.c.k]
    refine ok_ite (fun h => ?_) (fun h => ?_)
    · have ek : k = nC B := by omega
      rw [ek] at B1
      exact ok_some ⟨X1, D1, B1, F1⟩
    have hkC : k < nC B := by omega
    have step : ∀ (x y : Nat), x ≤ y → (nC B * cod (nC B) s a + x) * nC B ^ e ≤ (nC B * cod (nC B) s a + y) * nC B ^ e := fun x y h => Nat.mul_le_mul_right _ (by omega)
    have agree : ∀ t, Vd (nC B) n t → (nC B * cod (nC B) s a + k) * nC B ^ e ≤ cod (nC B) t n → cod (nC B) t n < (nC B * cod (nC B) s a + (k + 1)) * nC B ^ e → ∀ i, i < a + 1 → t i = ext s a k i := by
      intro t ht h1 h2
      have hn2 : a + 1 + e = n := by omega
      have c1 : cod (nC B) t (a + 1) = nC B * cod (nC B) s a + k := block_cod (a := a + 1) (e := e) (by rw [hn2]; exact ht) (by rw [hn2]; exact h1) (by rw [hn2]; exact h2)
      have c2 : cod (nC B) (ext s a k) (a + 1) = nC B * cod (nC B) s a + k := by
        show nC B * cod (nC B) (ext s a k) a + ext s a k a = _
        rw [ext_at, cod_congr (fun i hi => ext_lt s hi)]
      refine cod_inj (ht.le (by omega)) (fun i hi => ?_) (by rw [c1, c2])
      by_cases e2 : i = a
      · subst e2; rw [ext_at]; exact hkC
      · rw [ext_lt s (by omega)]; exact L.1 i (by omega)
    have skip : (∀ t, Vd (nC B) n t → (∀ i, i < a + 1 → t i = ext s a k i) → okW B known mem n t → M1 35 17 = 1 ∧ (M1 35 18 < mvW stay n t ∨ (M1 35 18 = mvW stay n t ∧ M1 35 19 ≤ hmW B known mem n t))) → Best B known n mem stay M1 ((nC B * cod (nC B) s a + (k + 1)) * nC B ^ e) := by
      intro hs
      unfold Best at B1 ⊢
      exact B1.skip (step _ _ (by omega)) (fun t ht h1 h2 ho => hs t ht (agree t ht h1 h2) ho)
    refine ok_obn c_isPerfect (fun r hr => ?_)
    refine ok_ite (fun hr0 => ?_) (fun hr0 => ?_)
    · refine ok_obn (c_isRepeat X1 D1 (by omega) hkC) (fun r2 hr2 => ?_)
      refine ok_ite (fun h20 => ?_) (fun h20 => ?_)
      · refine ok_obn (c_mayJoin X1 D1 (by omega) hkC L) (fun r3 hr3 => ?_)
        refine ok_ite (fun h30 => ?_) (fun h30 => ?_)
        · rw [wrap_n1 (by omega)]
          refine ok_lt (ok_some ⟨hkC, rfl, X1, D1, skip (fun t ht hag ho => ?_), F1⟩)
          rcases hr3 with ⟨-, hp⟩ | ⟨h1, -⟩
          · rcases hp with hp | hp | hp
            · exact absurd ho (prune_stand hkC hp (by omega) hag)
            · exact absurd ho (prune_twins X1.2.1 hkC hp (by omega) ht hag)
            · have m1 := mvW_mono stay t (a + 1) e
              rw [show a + 1 + e = n by omega, mvW_congr hag] at m1
              refine ⟨?_, Or.inl (by omega)⟩
              unfold Best at B1
              rcases B1 with h | h
              · exact absurd h.1 hp.1
              · exact h.1
          · omega
        · rcases hr3 with ⟨h1, -⟩ | ⟨-, hst2, htw, hmv2⟩
          · exact absurd h1 h30
          · have ea : wrap ((a : Int) + 1) = ((a + 1 : Nat) : Int) := by rw [wrap_of (by omega) (by omega)]; rfl
            refine ok_obn (c_put_in X1 D1 (by omega) hkC) (fun M2 hM2 => ?_)
            obtain ⟨p2, D2⟩ := hM2
            have X2 : ST B known n mem stay M2 := X1.fr (fun c i q => p2 c i (chp_chg q))
            have L2 : LG B known n mem (ext s a k) (a + 1) := by
              refine ⟨fun i hi => ?_, fun k2 hk2 => ?_, fun i hi j hj hb => ?_⟩
              · by_cases e2 : i = a
                · subst e2; rw [ext_at]; exact hkC
                · rw [ext_lt s (by omega)]; exact L.1 i (by omega)
              · by_cases e2 : k2 = k
                · subst e2; exact hst2
                · rw [show chG mem (grp (ext s a k) (a + 1) k2) n = chG mem (grp s a k2) n from funext (fun c => chG_congr (fun i _ => grp_ext_o s e2 i))]
                  exact L.2.1 k2 hk2
              · by_cases e2 : i = a
                · subst e2
                  rw [ext_at, ext_lt s hj]
                  exact (htw j hj hb).symm
                · rw [ext_lt s (by omega), ext_lt s (by omega)]
                  exact L.2.2 i (by omega) j hj hb
            have c2 : cod (nC B) (ext s a k) (a + 1) = nC B * cod (nC B) s a + k := by
              show nC B * cod (nC B) (ext s a k) a + ext s a k a = _
              rw [ext_at, cod_congr (fun i hi => ext_lt s hi)]
            have B2 : Best B known n mem stay M2 (cod (nC B) (ext s a k) (a + 1) * nC B ^ e) := by
              rw [c2]
              exact B1.fr (fun i hi => p2 35 i (by unfold ChP; omega)) (fun i => p2 47 i (by unfold ChP; omega))
            rw [wrap_n1 (k := a) (by omega)]
            refine ok_obn (c_asg hst e d (a + 1) (ext s a k) M2 (by omega) (by omega) X2 D2 L2 (fun _ => ?_) B2) (fun M3 hM3 => ?_)
            · rw [p2 35 17 (by unfold ChP; omega), p2 35 18 (by unfold ChP; omega), D2.2.2.1]
              exact hmv2
            obtain ⟨X3, D3, B3, F3⟩ := hM3
            rw [c2] at B3
            refine ok_obn (c_put_out X3 D3 (by omega) hkC) (fun M4 hM4 => ?_)
            obtain ⟨p4, D4⟩ := hM4
            rw [wrap_n1 (by omega)]
            refine ok_lt (ok_some ⟨hkC, rfl, X3.fr (fun c i q => p4 c i (chp_chg q)), D4, ?_, fun c i q => ?_⟩)
            · exact B3.fr (fun i hi => p4 35 i (by unfold ChP; omega)) (fun i => p4 47 i (by unfold ChP; omega))
            · try dsimp only
              rw [p4 c i (chp_chg q), F3 c i q, p2 c i (chp_chg q), F1 c i q]
      · rw [wrap_n1 (by omega)]
        refine ok_lt (ok_some ⟨hkC, rfl, X1, D1, skip (fun t ht hag ho => ?_), F1⟩)
        rcases hr2 with h | ⟨-, hs0, b, hlike⟩
        · exact absurd h h20
        · have hall : ∀ i, i < n → stay i = -1 := by
            rcases hst with h | h
            · exact h
            · exact absurd hs0 (h 0 (by omega))
          exact prune_repeat X1.1.c.1 (by omega) hkC hall hlike ht hag L.1 B1 ho
    · refine ok_some ⟨X1, D1, ?_, F1⟩
      have hp := hr.t hr0
      unfold Best at B1 ⊢
      refine B1.skip (step _ _ (by omega)) (fun t ht h1 h2 ho => ?_)
      have m1 := mvW_b stay t n
      have m2 := hmW_nn (known := known) (n := n) (mem := mem) X1.1.c t
      refine ⟨?_, by omega⟩
      rcases B1 with h | h
      · exact absurd h.1 hp.1
      · exact h.1
theorem c_run {M : Mem} (H : JP B known M) (S : SU B n mem stay M) (h0 : 0 < n) (hf : M 35 17 = 0) (hst : (∀ i, i < n → stay i = -1) ∨ (∀ i, i < n → stay i ≠ -1)) :
    Okk (f_X8_run M) (fun M' => Best B known n mem stay M' (nC B ^ n) ∧ SU B n mem stay M' ∧ ∀ c i, ¬ ((c = 35 ∧ 9 ≤ i) ∨ (38 ≤ c ∧ c ≤ 47)) → M' c i = M c i) := by
  have h9 := S.1
  have h3 := H.c.1.k23
  unfold f_X8_run
  refine ok_obn (c_readSets H S) (fun M2 hM2 => ?_)
  obtain ⟨f2, t2⟩ := hM2
  have H2 : JP B known M2 := H.fr (fun c i q => f2 c i (by unfold isC at q; omega))
  have S2 : SU B n mem stay M2 := S.fr (f2 35 2 (by omega)) (fun c i h1 h2 => f2 c i (by omega))
  refine ok_obn (c_readTwins H2 S2) (fun M3 hM3 => ?_)
  obtain ⟨f3, t3⟩ := hM3
  have H3 : JP B known M3 := H2.fr (fun c i q => f3 c i (by unfold isC at q; omega))
  have S3 : SU B n mem stay M3 := S2.fr (f3 35 2 (by omega)) (fun c i h1 h2 => f3 c i (by omega))
  refine ok_obn (c_readSpreads H3 S3) (fun M4 hM4 => ?_)
  obtain ⟨f4, z4, e4, t4⟩ := hM4
  refine ok_obn (c_fill 45 (by decide +kernel) 0 M4) (fun M5 hM5 => ?_)
  have ha : aln 45 = 3 := by decide +kernel
  rw [ha] at hM5
  refine ok_lt (ok_lt (ok_lt ?_))
  have f8 : ∀ c i, ¬ ((c = 35 ∧ (i = 16 ∨ i = 18 ∨ i = 19)) ∨ c = 45) → mup (mup (mup M5 35 16 0) 35 18 0) 35 19 0 c i = M4 c i := fun c i q => by
    rw [mup_o _ _ (by omega), mup_o _ _ (by omega), mup_o _ _ (by omega), hM5]
    exact if_neg (by omega)
  have e45 : ∀ k, k < 3 → mup (mup (mup M5 35 16 0) 35 18 0) 35 19 0 45 k = 0 := fun k hk => by
    rw [mup_o _ _ (by omega), mup_o _ _ (by omega), mup_o _ _ (by omega), hM5]
    exact if_pos ⟨rfl, hk⟩
  have e16 : mup (mup (mup M5 35 16 0) 35 18 0) 35 19 0 35 16 = 0 := by rw [mup_o _ _ (by omega), mup_o _ _ (by omega), mup_s]
  generalize mup (mup (mup M5 35 16 0) 35 18 0) 35 19 0 = M8 at f8 e45 e16 ⊢
  have H8 : JP B known M8 := H3.fr (fun c i q => by rw [f8 c i (by unfold isC at q; omega), f4 c i (by unfold isC at q; omega)])
  have S8 : SU B n mem stay M8 := S3.fr (by rw [f8 35 2 (by omega), f4 35 2 (by omega)]) (fun c i h1 h2 => by rw [f8 c i (by omega), f4 c i (by omega)])
  have hsp := spN_le B (nS B)
  have h16 := H.c.1.s16
  have X8 : ST B known n mem stay M8 := by
    refine ⟨H8, S8, fun v hv => ?_, fun i hi => ?_, by rw [f8 35 9 (by omega)]; exact e4, fun t ht hs => ?_⟩
    · have := t2 v hv
      unfold tabOK at this ⊢
      rw [f8 39 v (by omega), f8 40 v (by omega), f8 41 v (by omega), f4 39 v (by omega), f4 40 v (by omega), f4 41 v (by omega), f3 39 v (by omega), f3 40 v (by omega), f3 41 v (by omega)]
      exact this
    · rw [f8 38 i (by omega), f4 38 i (by omega)]; exact t3 i hi
    · have := t4 t ht hs
      rw [f8 42 _ (by omega)]
      exact ⟨this.1, fun i hi => by rw [f8 43 _ (by omega)]; exact this.2 i hi⟩
  let s0 : Nat → Nat := fun _ => 0
  have g0 : ∀ k i, grp s0 0 k i = false := fun k i => by unfold grp; rw [decide_eq_false (by omega)]; rfl
  have D8 : DS B known mem stay s0 0 M8 := by
    refine ⟨fun k hk => ?_, fun i hi => absurd hi (by omega), e16, fun t ht hs k hk => ?_⟩
    · rw [e45 k (by omega)]
      exact mIs_0.congr (fun c _ => (g0 k c).symm)
    · have := spN_lt B ht hs
      rw [f8 44 _ (by omega), z4 _ (by omega)]
      rfl
  have L8 : LG B known n mem s0 0 := by
    refine ⟨fun i hi => absurd hi (by omega), fun k hk => ?_, fun i hi => absurd hi (by omega)⟩
    refine stand_none H.c.1 known (by omega) (fun c hc => ?_) H.c.nb6
    unfold chG
    rw [anyB_f]
    intro i hi
    rw [g0, Bool.false_and]
  have B8 : Best B known n mem stay M8 (cod (nC B) s0 0 * nC B ^ n) := by
    have e : cod (nC B) s0 0 * nC B ^ n = 0 := Nat.zero_mul _
    rw [e]
    unfold Best
    have e17 : M8 35 17 = 0 := by rw [f8 35 17 (by omega), f4 35 17 (by omega), f3 35 17 (by omega), f2 35 17 (by omega)]; exact hf
    rw [e17]
    exact BestLt.init _ _ _
  refine ok_obn (c_asg hst n 11 0 s0 M8 (by omega) (by omega) X8 D8 L8 (fun z => absurd z (by omega)) B8) (fun M9 hM9 => ok_some ?_)
  obtain ⟨X9, -, B9, F9⟩ := hM9
  have e : (cod (nC B) s0 0 + 1) * nC B ^ n = nC B ^ n := by
    show (0 + 1) * _ = _
    rw [Nat.zero_add, Nat.one_mul]
  rw [e] at B9
  refine ⟨B9, X9.2.1, fun c i q => ?_⟩
  rw [F9 c i (by unfold Chg; omega), f8 c i (by omega), f4 c i (by omega), f3 c i (by omega), f2 c i (by omega)]
end ASG
