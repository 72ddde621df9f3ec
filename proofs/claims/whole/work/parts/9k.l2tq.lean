/-! rule: a TERM with its not, TERMS -/
section TERMS
variable (b : Nat → Int) (L : Nat)
noncomputable def tmB (f : Nat) : Nat := if cdE b L f = 19 then nxE b L f else f
noncomputable def tmK (f : Nat) : Int := trK b L (tmB b L f)
noncomputable def tmP (f : Nat) : Nat := trP b L (tmB b L f)
def bgT (f : Nat) : Prop := (0 ≤ cdE b L f ∧ cdE b L f ≤ 7) ∨ cdE b L f = 19
noncomputable def stS (f : Nat) : Nat → Nat
  | 0 => f
  | j + 1 => nxE b L (tmP b L (stS f j))
/-- TERMS from the t-th on: 0 or the kind of the FAULT, its place or what stands behind, how many -/
noncomputable def tsR : Nat → Nat → Nat → Int × Nat × Nat
  | 0, t, f => (1, f, t)
  | n + 1, t, f => @ite _ (bgT b L f) (Classical.propDecidable _) (if 4 ≤ t then (3, f, t) else if tmK b L f ≠ 0 then (tmK b L f, tmP b L f, t) else if cdE b L (tmP b L f) ≠ 20 then (0, tmP b L f, t + 1) else tsR n (t + 1) (nxE b L (tmP b L f))) (1, f, t)
end TERMS
section TERMS
variable {b : Nat → Int} {L T r : Nat} {M N : Mem}
def tdC (b : Nat → Int) (L r t p : Nat) (M : Mem) : Prop := M (r + 5) t = (if cdE b L p = 19 then 1 else 0) ∧ M (r + 6) t = cdE b L (tmB b L p) ∧ (cdE b L (tmB b L p) ≠ 7 → M (r + 7) t = cdE b L (nxE b L (tmB b L p))) ∧ M (r + 8) t = trV b L (tmB b L p)
def tdN (b : Nat → Int) (L t p : Nat) (N : Mem) : Prop := N 101 t = (if cdE b L p = 19 then 1 else 0) ∧ N 102 t = cdE b L (tmB b L p) ∧ (cdE b L (tmB b L p) ≠ 7 → N 103 t = cdE b L (nxE b L (tmB b L p)) - 60) ∧ N 104 t = trV b L (tmB b L p)
theorem c_term {f t : Nat} (X : PCr b L T r f M) (ht : t < 128) : Okk (f_X6_readTerm t M) (fun q => (tmK b L f ≠ 0 ∧ noC r 5 t M (tmK b L f) (tmP b L f) q) ∨ (tmK b L f = 0 ∧ okC b L T r (tmP b L f) 5 t M q ∧ tdC b L r t f q.2)) := by
  have hr := X.1
  have key : ∀ (s0 : Int), s0 = (if cdE b L f = 19 then 1 else 0) → Okk (f_X6_readTerm_j22 t s0 t (M 29 3) M) (fun q => (tmK b L f ≠ 0 ∧ noC r 5 t M (tmK b L f) (tmP b L f) q) ∨ (tmK b L f = 0 ∧ okC b L T r (tmP b L f) 5 t M q ∧ tdC b L r t f q.2)) := fun s0 hs => by
    have hz : isZ s0 := by rw [hs]; unfold isZ; split <;> omega
    unfold f_X6_readTerm_j22
    rw [X.rn, toN]
    obtain ⟨M2, e2, f2, v2⟩ := mup_gen M (r + 5) t s0
    refine ok_gd (by omega) (ok_gd hz (ok_lt ?_))
    rw [e2]
    have X2 : PCr b L T r f M2 := X.up (fun c i q => f2 c i (by omega))
    -- behind the not
    have fin : ∀ (M3 : Mem), PCr b L T r (tmB b L f) M3 → smC M2 M3 → Okk (f_X6_readTerm_j36 t M3) (fun q => (tmK b L f ≠ 0 ∧ noC r 5 t M (tmK b L f) (tmP b L f) q) ∨ (tmK b L f = 0 ∧ okC b L T r (tmP b L f) 5 t M q ∧ tdC b L r t f q.2)) := fun M3 X3 s3 => by
      refine ok_mono (c_t36 X3 ht) (fun a ha => ?_)
      rcases ha with ⟨g1, g2⟩ | ⟨g1, g2, g3, g4, g5⟩
      · exact Or.inl ⟨g1, g2.lift (by omega) (fun c i q1 q2 => by rw [s3 c i (by omega), f2 c i (by omega)])⟩
      · refine Or.inr ⟨g1, g2.lift (by omega) (fun c i q1 q2 => by rw [s3 c i q1, f2 c i (by omega)]), ?_, g3, g4, g5⟩
        rw [g2.2.2 _ _ (by omega) (by omega), s3 _ _ (by omega), v2, hs]
    refine ok_ite (fun h => ?_) (fun h => ?_)
    · rw [X2.cd] at h
      refine ok_obn (c_nx X2) (fun M3 hM3 => fin M3 ?_ hM3.1)
      have e : tmB b L f = nxE b L f := by unfold tmB; rw [if_pos h]
      rw [e]; exact hM3.2
    · rw [X2.cd] at h
      have e : tmB b L f = f := by unfold tmB; rw [if_neg h]
      have := fin M2 (by rw [e]; exact X2) (fun _ _ _ => rfl)
      unfold f_X6_readTerm_j36 at this
      rw [toN] at this
      exact this
  unfold f_X6_readTerm
  rw [X.cd]
  exact ok_gd X.ru (ok_ite (fun h => key 1 (by rw [if_pos h])) (fun h => key 0 (by rw [if_neg h])))
theorem m_term {f t : Nat} (Y : PNr b L f N) (ht : t < 256) : Okk (f_X11_takesTerm t N) (fun q => (tmK b L f ≠ 0 ∧ noN 101 t N (tmK b L f) (tmP b L f) q) ∨ (tmK b L f = 0 ∧ okN b L (tmP b L f) 101 t N q ∧ tdN b L t f q.2)) := by
  unfold f_X11_takesTerm
  refine ok_bnd (m_isWord Y.1 Y.2.1 (k := 19) (i := 14) (by omega) rfl) (fun r1 N1 hr1 => ?_)
  obtain ⟨hr1, hN1⟩ := hr1
  dsimp only at hr1 hN1 ⊢
  subst hN1
  replace hr1 : isB r1 (cdE b L f = 19) := hr1
  rw [toN]
  have es : r1 = if cdE b L f = 19 then 1 else 0 := by
    rcases hr1 with ⟨a1, a2⟩ | ⟨a1, a2⟩
    · rw [if_pos a2]; exact a1
    · rw [if_neg a2]; exact a1
  obtain ⟨N2, e2, f2, v2⟩ := mup_gen N1 101 t r1
  refine ok_gd (by omega) (ok_gd hr1.z (ok_lt ?_))
  rw [e2, v2]
  have Y2 : PNr b L f N2 := Y.up (fun c i q => f2 c i (by omega))
  have fin : ∀ (N3 : Mem), PNr b L (tmB b L f) N3 → smN N2 N3 → Okk (f_X11_takesTerm_j26 t N3) (fun q => (tmK b L f ≠ 0 ∧ noN 101 t N1 (tmK b L f) (tmP b L f) q) ∨ (tmK b L f = 0 ∧ okN b L (tmP b L f) 101 t N1 q ∧ tdN b L t f q.2)) := fun N3 Y3 s3 => by
    refine ok_mono (m_t26 Y3 ht) (fun a ha => ?_)
    rcases ha with ⟨g1, g2⟩ | ⟨g1, g2, g3, g4, g5⟩
    · exact Or.inl ⟨g1, g2.lift (by omega) (fun c i q1 q2 => by rw [s3 c i (by unfold isMx; omega), f2 c i (by omega)])⟩
    · refine Or.inr ⟨g1, g2.lift (by omega) (fun c i q1 q2 => by rw [s3 c i q1, f2 c i (by omega)]), ?_, g3, g4, g5⟩
      rw [g2.2.2 _ _ (by unfold isMx; omega) (by omega), s3 _ _ (by unfold isMx; omega), v2, es]
  refine ok_gd (by omega) (ok_ite (fun h => ?_) (fun h => ?_))
  · have e : tmB b L f = f := by unfold tmB; rw [if_neg (hr1.f h)]
    have := fin N2 (by rw [e]; exact Y2) (fun _ _ _ => rfl)
    unfold f_X11_takesTerm_j26 at this
    rw [toN] at this
    exact this
  · refine ok_obn (m_nx2 Y2) (fun N3 hN3 => fin N3 ?_ hN3.1)
    have e : tmB b L f = nxE b L f := by unfold tmB; rw [if_pos (hr1.t h)]
    rw [e]; exact hN3.2
theorem tsR_no {n t f : Nat} (h : ¬ bgT b L f) : tsR b L (n + 1) t f = (1, f, t) := by
  show @ite _ (bgT b L f) (Classical.propDecidable _) _ _ = _
  rw [if_neg h]
theorem tsR_go {n t f : Nat} (h : bgT b L f) : tsR b L (n + 1) t f = (if 4 ≤ t then (3, f, t) else if tmK b L f ≠ 0 then (tmK b L f, tmP b L f, t) else if cdE b L (tmP b L f) ≠ 20 then (0, tmP b L f, t + 1) else tsR b L n (t + 1) (nxE b L (tmP b L f))) := by
  show @ite _ (bgT b L f) (Classical.propDecidable _) _ _ = _
  rw [if_pos h]
/-- what TERMS' reading leaves: a FAULT of kind k at p; or what stands at f' behind n TERMS -/
def tsC (b : Nat → Int) (L T r f R : Nat) (M : Mem) (q : Res) : Prop := ((tsR b L 5 0 f).1 ≠ 0 ∧ q.1 = 0 ∧ q.2 29 0 = (tsR b L 5 0 f).1 ∧ q.2 29 1 = ((tsR b L 5 0 f).2.1 : Int) ∧ ∀ c i, c ≠ 29 → ¬ (c = r + 4 ∧ i = R) → ¬ (r + 5 ≤ c ∧ c ≤ r + 8 ∧ 4 * R ≤ i ∧ i < 4 * R + 4) → q.2 c i = M c i) ∨ ((tsR b L 5 0 f).1 = 0 ∧ q.1 = 1 ∧ PCr b L T r (tsR b L 5 0 f).2.1 q.2 ∧ (∀ c i, ¬ (c = 29 ∧ 4 ≤ i ∧ i ≤ 7) → ¬ (c = r + 4 ∧ i = R) → ¬ (r + 5 ≤ c ∧ c ≤ r + 8 ∧ 4 * R ≤ i ∧ i < 4 * R + 4) → q.2 c i = M c i) ∧ q.2 (r + 4) R = ((tsR b L 5 0 f).2.2 : Int) ∧ (tsR b L 5 0 f).2.2 ≤ 4 ∧ ∀ j, j < (tsR b L 5 0 f).2.2 → tmK b L (stS b L f j) = 0 ∧ tdC b L r (4 * R + j) (stS b L f j) q.2)
def tsN (b : Nat → Int) (L f R : Nat) (N : Mem) (q : Res) : Prop := ((tsR b L 5 0 f).1 ≠ 0 ∧ q.1 = 0 ∧ q.2 80 33 = (tsR b L 5 0 f).1 ∧ q.2 80 34 = ((tsR b L 5 0 f).2.1 : Int) ∧ ∀ c i, ¬ (c = 80 ∧ 33 ≤ i ∧ i ≤ 38) → ¬ (c = 100 ∧ i = R) → ¬ (101 ≤ c ∧ c ≤ 104 ∧ 4 * R ≤ i ∧ i < 4 * R + 4) → q.2 c i = N c i) ∨ ((tsR b L 5 0 f).1 = 0 ∧ q.1 = 1 ∧ PNr b L (tsR b L 5 0 f).2.1 q.2 ∧ (∀ c i, ¬ isMx c i → ¬ (c = 100 ∧ i = R) → ¬ (101 ≤ c ∧ c ≤ 104 ∧ 4 * R ≤ i ∧ i < 4 * R + 4) → q.2 c i = N c i) ∧ q.2 100 R = ((tsR b L 5 0 f).2.2 : Int) ∧ ∀ j, j < (tsR b L 5 0 f).2.2 → tdN b L (4 * R + j) (stS b L f j) q.2)
theorem tdC.fr {t p : Nat} {M' : Mem} (h : tdC b L r t p M) (k : ∀ c, r + 5 ≤ c → c ≤ r + 8 → M' c t = M c t) : tdC b L r t p M' := by
  unfold tdC at h ⊢
  rw [k (r + 5) (by omega) (by omega), k (r + 6) (by omega) (by omega), k (r + 7) (by omega) (by omega), k (r + 8) (by omega) (by omega)]
  exact h
theorem tdN.fr {t p : Nat} {N' : Mem} (h : tdN b L t p N) (k : ∀ c, 101 ≤ c → c ≤ 104 → N' c t = N c t) : tdN b L t p N' := by
  unfold tdN at h ⊢
  rw [k 101 (by omega) (by omega), k 102 (by omega) (by omega), k 103 (by omega) (by omega), k 104 (by omega) (by omega)]
  exact h
theorem c_terms {f R : Nat} (X : PCr b L T r f M) (hR : R < 32) : Okk (f_X6_readTerms R M) (fun q => tsC b L T r f R M q) := by
  have hr := X.1
  unfold f_X6_readTerms
  refine ok_lpr (P := fun _ => False) (P2 := fun q => tsC b L T r f R M q) ?_ (fun s hs => hs.elim) (fun t ht => ok_some ht)
  unfold f_X6_readTerms_l2
  refine ok_whl 4 (fun t s => s.1 = (t : Int) ∧ PCr b L T r (stS b L f t) s.2 ∧ tsR b L 5 0 f = tsR b L (5 - t) t (stS b L f t) ∧ (∀ c i, ¬ (c = 29 ∧ 4 ≤ i ∧ i ≤ 7) → ¬ (c = r + 4 ∧ i = R) → ¬ (r + 5 ≤ c ∧ c ≤ r + 8 ∧ 4 * R ≤ i ∧ i < 4 * R + 4) → s.2 c i = M c i) ∧ ∀ j, j < t → tmK b L (stS b L f j) = 0 ∧ tdC b L r (4 * R + j) (stS b L f j) s.2) (FU_big (by omega)) ⟨rfl, (show PCr b L T r (stS b L f 0) M from X), rfl, fun _ _ _ _ _ => rfl, fun j hj => absurd hj (by omega)⟩ ?_
  rintro t ⟨u, M1⟩ ht ⟨hu, X1, hts, hfr, hdat⟩
  dsimp only at hu X1 hts hfr hdat ⊢
  subst hu
  generalize hg : stS b L f t = g at X1 hts
  rw [show 5 - t = (4 - t) + 1 by omega] at hts
  -- when a TERM may begin
  have go : bgT b L g → t < 4 → Okk (bnd (f_X6_readTerm (wrap ((wrap ((R : Int) * 4)) + (t : Int))) M1) fun r M_2 => if r = 0 then (some (.inr (.inr (0, M_2))) : Option ((Int × Mem) ⊕ ((Int × Mem) ⊕ (Int × Mem)))) else gd (isRu (M_2 29 3)) <| gd ((0 : Int) ≤ (R : Int) ∧ ((R : Int) : Int) < 32) <| lt (mup M_2 ((M_2 29 3).toNat + 4) (R : Int).toNat (wrap ((t : Int) + 1))) fun M_3 => if (M_3 29 5) = 20 then obn (f_X6_next M_3) fun M_4 => lt (wrap ((t : Int) + 1)) fun v2_2 => some (.inl (v2_2, M_4)) else some (.inr (.inr (1, M_3)))) (inS (fun s => t < 4 ∧ s.1 = ((t + 1 : Nat) : Int) ∧ PCr b L T r (stS b L f (t + 1)) s.2 ∧ tsR b L 5 0 f = tsR b L (5 - (t + 1)) (t + 1) (stS b L f (t + 1)) ∧ (∀ c i, ¬ (c = 29 ∧ 4 ≤ i ∧ i ≤ 7) → ¬ (c = r + 4 ∧ i = R) → ¬ (r + 5 ≤ c ∧ c ≤ r + 8 ∧ 4 * R ≤ i ∧ i < 4 * R + 4) → s.2 c i = M c i) ∧ ∀ j, j < t + 1 → tmK b L (stS b L f j) = 0 ∧ tdC b L r (4 * R + j) (stS b L f j) s.2) (inS (fun _ => False) (fun q => tsC b L T r f R M q))) := fun hb h4 => by
    rw [tsR_go hb, if_neg (by omega)] at hts
    have ei : wrap ((wrap ((R : Int) * 4)) + (t : Int)) = ((4 * R + t : Nat) : Int) := by rw [wrap_of (x := (R : Int) * 4) (by omega) (by omega), wrap_of (by omega) (by omega)]; omega
    rw [ei, toN]
    refine ok_bnd (c_term X1 (t := 4 * R + t) (by omega)) (fun q M2 hq => ?_)
    rcases hq with ⟨g1, g2⟩ | ⟨g1, g2, g3⟩
    · obtain ⟨n1, n2, n3, n4⟩ := g2
      dsimp only at n1 n2 n3 n4 ⊢
      rw [if_pos g1] at hts
      refine ok_ite_t n1 (ok_some (Or.inl ⟨by rw [hts]; exact g1, rfl, by rw [hts]; exact n2, by rw [hts]; exact n3, fun c i q1 q2 q3 => by show M2 c i = _; rw [n4 c i q1 (by omega)]; exact hfr c i (by omega) q2 q3⟩))
    · obtain ⟨n1, X2, n4⟩ := g2
      dsimp only at n1 X2 n4 g3 ⊢
      rw [if_neg (fun z => z g1)] at hts
      refine ok_ite_f (by omega) ?_
      rw [X2.rn, wrap_n1 (by omega)]
      obtain ⟨M3, e3, f3, v3⟩ := mup_gen M2 (r + 4) R ((t + 1 : Nat) : Int)
      refine ok_gd X2.ru (ok_gd (by omega) (ok_lt ?_))
      rw [e3]
      have X3 : PCr b L T r (tmP b L g) M3 := X2.up (fun c i q => f3 c i (by omega))
      have fr3 : ∀ c i, ¬ (c = 29 ∧ 4 ≤ i ∧ i ≤ 7) → ¬ (c = r + 4 ∧ i = R) → ¬ (r + 5 ≤ c ∧ c ≤ r + 8 ∧ 4 * R ≤ i ∧ i < 4 * R + 4) → M3 c i = M c i := fun c i q1 q2 q3 => by rw [f3 c i q2, n4 c i q1 (by omega)]; exact hfr c i q1 q2 q3
      have dat3 : ∀ j, j < t + 1 → tmK b L (stS b L f j) = 0 ∧ tdC b L r (4 * R + j) (stS b L f j) M3 := fun j hj => by
        by_cases e : j = t
        · rw [e, hg]
          exact ⟨g1, g3.fr (fun c c1 c2 => f3 c _ (by omega))⟩
        · obtain ⟨d1, d2⟩ := hdat j (by omega)
          exact ⟨d1, d2.fr (fun c c1 c2 => by rw [f3 c _ (by omega), n4 c _ (by omega) (by omega)])⟩
      rw [X3.cd]
      refine ok_ite (fun h20 => ?_) (fun h20 => ok_some ?_)
      · rw [if_neg (fun z => z h20)] at hts
        refine ok_obn (c_nx X3) (fun M4 hM4 => ?_)
        obtain ⟨s4, X4⟩ := hM4
        have es : stS b L f (t + 1) = nxE b L (tmP b L g) := by show nxE b L (tmP b L (stS b L f t)) = _; rw [hg]
        refine ok_lt (ok_some ⟨h4, rfl, by rw [es]; exact X4, by rw [es, hts, show 5 - (t + 1) = 4 - t by omega], fun c i q1 q2 q3 => by show M4 c i = _; rw [s4 c i q1]; exact fr3 c i q1 q2 q3, fun j hj => ?_⟩)
        obtain ⟨d1, d2⟩ := dat3 j hj
        exact ⟨d1, d2.fr (fun c c1 c2 => s4 c _ (by omega))⟩
      · rw [if_pos h20] at hts
        refine Or.inr ⟨by rw [hts], rfl, by rw [hts]; exact X3, fr3, by rw [hts]; exact v3, by rw [hts]; show t + 1 ≤ 4; omega, fun j hj => ?_⟩
        rw [hts] at hj
        exact dat3 j hj
  have over : bgT b L g → ¬ t < 4 → Okk (bnd (f_X6_refuse 3 M1) fun r_2 M_5 => gd (isZ r_2) <| (some (.inr (.inr (r_2, M_5))) : Option ((Int × Mem) ⊕ ((Int × Mem) ⊕ (Int × Mem))))) (inS (fun s => t < 4 ∧ s.1 = ((t + 1 : Nat) : Int) ∧ PCr b L T r (stS b L f (t + 1)) s.2 ∧ tsR b L 5 0 f = tsR b L (5 - (t + 1)) (t + 1) (stS b L f (t + 1)) ∧ (∀ c i, ¬ (c = 29 ∧ 4 ≤ i ∧ i ≤ 7) → ¬ (c = r + 4 ∧ i = R) → ¬ (r + 5 ≤ c ∧ c ≤ r + 8 ∧ 4 * R ≤ i ∧ i < 4 * R + 4) → s.2 c i = M c i) ∧ ∀ j, j < t + 1 → tmK b L (stS b L f j) = 0 ∧ tdC b L r (4 * R + j) (stS b L f j) s.2) (inS (fun _ => False) (fun q => tsC b L T r f R M q))) := fun hb h4 => by
    rw [tsR_go hb, if_pos (by omega)] at hts
    refine ok_bnd (c_ref X1 3) (fun q M2 hq => ok_gd (Or.inl hq.1) (ok_some (Or.inl ?_)))
    obtain ⟨n1, n2, n3, n4⟩ := hq
    dsimp only at n1 n2 n3 n4 ⊢
    rw [hts]
    exact ⟨by show (3 : Int) ≠ 0; omega, n1, n2, n3, fun c i q1 q2 q3 => by show M2 c i = _; rw [n4 c i q1]; exact hfr c i (by omega) q2 q3⟩
  unfold f_X6_readTerms_s2
  rw [X1.cd]
  refine ok_ite_f (by omega) (ok_ite (fun h19 => ?_) (fun h19 => ?_))
  · exact ok_ite (fun h4 => go (Or.inr h19) (by omega)) (fun h4 => over (Or.inr h19) (by omega))
  · refine ok_b (c_within _ _ _ _) (fun hw => ok_ite_f (by decide) ?_) (fun hw => ok_ite_t rfl ?_)
    · exact ok_ite (fun h4 => go (Or.inl hw) (by omega)) (fun h4 => over (Or.inl hw) (by omega))
    · rw [tsR_no (f := g) (n := 4 - t) (fun z => by rcases z with z | z <;> contradiction)] at hts
      refine ok_bnd (c_ref X1 1) (fun q M2 hq => ok_gd (Or.inl hq.1) (ok_some (Or.inl ?_)))
      obtain ⟨n1, n2, n3, n4⟩ := hq
      dsimp only at n1 n2 n3 n4 ⊢
      rw [hts]
      exact ⟨by show (1 : Int) ≠ 0; omega, n1, n2, n3, fun c i q1 q2 q3 => by show M2 c i = _; rw [n4 c i q1]; exact hfr c i (by omega) q2 q3⟩
end TERMS
