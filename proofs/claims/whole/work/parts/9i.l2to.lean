/-! rule: a TERM, what it is -/
section TERM
variable (b : Nat → Int) (L : Nat)
/-- of a TERM behind its not: 0 or the kind of its FAULT; the place of it, or what stands behind the TERM -/
noncomputable def trK (f : Nat) : Int := if ¬ (0 ≤ cdE b L f ∧ cdE b L f ≤ 7) then 1 else if cdE b L f = 7 then (if cdE b L (nxE b L f) ≠ -3 then 1 else if 7 < nmE b L (nxE b L f) then 2 else 0) else if ¬ (60 ≤ cdE b L (nxE b L f) ∧ cdE b L (nxE b L f) ≤ 62) then 1 else if cdE b L (nxE b L (nxE b L f)) ≠ -3 then 1 else 0
noncomputable def trP (f : Nat) : Nat := if ¬ (0 ≤ cdE b L f ∧ cdE b L f ≤ 7) then f else if cdE b L f = 7 then (if cdE b L (nxE b L f) ≠ -3 then nxE b L f else if 7 < nmE b L (nxE b L f) then nxE b L f else nxE b L (nxE b L f)) else if ¬ (60 ≤ cdE b L (nxE b L f) ∧ cdE b L (nxE b L f) ≤ 62) then nxE b L f else if cdE b L (nxE b L (nxE b L f)) ≠ -3 then nxE b L (nxE b L f) else nxE b L (nxE b L (nxE b L f))
noncomputable def trV (f : Nat) : Int := if cdE b L f = 7 then nmE b L (nxE b L f) else nmE b L (nxE b L (nxE b L f))
end TERM
section TERM
variable {b : Nat → Int} {L T r : Nat} {M N : Mem}
def okC (b : Nat → Int) (L T r f' lo t : Nat) (M : Mem) (q : Res) : Prop := q.1 = 1 ∧ PCr b L T r f' q.2 ∧ ∀ c i, ¬ (c = 29 ∧ 4 ≤ i ∧ i ≤ 7) → ¬ (r + lo ≤ c ∧ c ≤ r + 8 ∧ i = t) → q.2 c i = M c i
def noC (r lo t : Nat) (M : Mem) (k : Int) (p : Nat) (q : Res) : Prop := q.1 = 0 ∧ q.2 29 0 = k ∧ q.2 29 1 = (p : Int) ∧ ∀ c i, c ≠ 29 → ¬ (r + lo ≤ c ∧ c ≤ r + 8 ∧ i = t) → q.2 c i = M c i
def okN (b : Nat → Int) (L f' lo t : Nat) (N : Mem) (q : Res) : Prop := q.1 = 1 ∧ PNr b L f' q.2 ∧ ∀ c i, ¬ isMx c i → ¬ (lo ≤ c ∧ c ≤ 104 ∧ i = t) → q.2 c i = N c i
def noN (lo t : Nat) (N : Mem) (k : Int) (p : Nat) (q : Res) : Prop := q.1 = 0 ∧ q.2 80 33 = k ∧ q.2 80 34 = (p : Int) ∧ ∀ c i, ¬ (c = 80 ∧ 33 ≤ i ∧ i ≤ 38) → ¬ (lo ≤ c ∧ c ≤ 104 ∧ i = t) → q.2 c i = N c i
theorem okC.lift {f' lo lo' t : Nat} {M1 : Mem} {q : Res} (h : okC b L T r f' lo t M q) (hl : lo' ≤ lo) (hM : ∀ c i, ¬ (c = 29 ∧ 4 ≤ i ∧ i ≤ 7) → ¬ (r + lo' ≤ c ∧ c ≤ r + 8 ∧ i = t) → M c i = M1 c i) : okC b L T r f' lo' t M1 q := ⟨h.1, h.2.1, fun c i q1 q2 => by rw [h.2.2 c i q1 (by omega)]; exact hM c i q1 q2⟩
theorem noC.lift {lo lo' t : Nat} {M1 : Mem} {k : Int} {p : Nat} {q : Res} (h : noC r lo t M k p q) (hl : lo' ≤ lo) (hM : ∀ c i, c ≠ 29 → ¬ (r + lo' ≤ c ∧ c ≤ r + 8 ∧ i = t) → M c i = M1 c i) : noC r lo' t M1 k p q := ⟨h.1, h.2.1, h.2.2.1, fun c i q1 q2 => by rw [h.2.2.2 c i q1 (by omega)]; exact hM c i q1 q2⟩
theorem okN.lift {f' lo lo' t : Nat} {N1 : Mem} {q : Res} (h : okN b L f' lo t N q) (hl : lo' ≤ lo) (hM : ∀ c i, ¬ isMx c i → ¬ (lo' ≤ c ∧ c ≤ 104 ∧ i = t) → N c i = N1 c i) : okN b L f' lo' t N1 q := ⟨h.1, h.2.1, fun c i q1 q2 => by rw [h.2.2 c i q1 (by omega)]; exact hM c i q1 q2⟩
theorem noN.lift {lo lo' t : Nat} {N1 : Mem} {k : Int} {p : Nat} {q : Res} (h : noN lo t N k p q) (hl : lo' ≤ lo) (hM : ∀ c i, ¬ (c = 80 ∧ 33 ≤ i ∧ i ≤ 38) → ¬ (lo' ≤ c ∧ c ≤ 104 ∧ i = t) → N c i = N1 c i) : noN lo' t N1 k p q := ⟨h.1, h.2.1, h.2.2.1, fun c i q1 q2 => by rw [h.2.2.2 c i q1 (by omega)]; exact hM c i q1 q2⟩
theorem noC.of {lo t : Nat} {k : Int} {p : Nat} {q : Res} (h : q.1 = 0 ∧ rfC M q.2 k p) : noC r lo t M k p q := ⟨h.1, h.2.1, h.2.2.1, fun c i q1 _ => h.2.2.2 c i q1⟩
theorem noN.of {lo t : Nat} {k : Int} {p : Nat} {q : Res} (h : q.1 = 0 ∧ rfN N q.2 k p) : noN lo t N k p q := ⟨h.1, h.2.1, h.2.2.1, fun c i q1 _ => h.2.2.2 c i (by omega)⟩
/-- the NUMBER at the end of a TERM, in the class -/
theorem c_tNum {f t : Nat} (X : PCr b L T r f M) (ht : t < 128) : Okk (gd (isRu (M 29 3)) <| gd ((0 : Int) ≤ (t : Int) ∧ ((t : Int) : Int) < 128) <| lt (mup M ((M 29 3).toNat + 8) (t : Int).toNat (M 29 7)) fun M_3 => bnd (f_X6_readCode (-3) M_3) fun r_2 M_4 => gd (isZ r_2) <| (some (r_2, M_4) : Option Res)) (fun q => (cdE b L f = -3 ∧ okC b L T r (nxE b L f) 8 t M q ∧ q.2 (r + 8) t = nmE b L f) ∨ (cdE b L f ≠ -3 ∧ noC r 8 t M 1 f q)) := by
  have hr := X.1
  rw [X.rn, X.nm, toN]
  obtain ⟨M2, e2, f2, v2⟩ := mup_gen M (r + 8) t (nmE b L f)
  refine ok_gd X.ru (ok_gd (by omega) (ok_lt ?_))
  rw [e2]
  have X2 : PCr b L T r f M2 := X.up (fun c i q => f2 c i (by omega))
  refine ok_bnd (c_code X2 (-3)) (fun q M3 hq => ?_)
  rcases hq with ⟨h1, h2, h3, h4⟩ | ⟨h1, h2, h3⟩
  · dsimp only at h2 h3 h4 ⊢
    exact ok_gd (Or.inr h2) (ok_some (Or.inl ⟨h1, ⟨h2, h4, fun c i q1 q2 => by show M3 c i = _; rw [h3 c i q1, f2 c i (by omega)]⟩, by show M3 (r + 8) t = _; rw [h3 _ _ (by omega)]; exact v2⟩))
  · dsimp only at h2 h3 ⊢
    exact ok_gd (Or.inl h2) (ok_some (Or.inr ⟨h1, h2, h3.1, h3.2.1, fun c i q1 q2 => by show M3 c i = _; rw [h3.2.2 c i q1, f2 c i (by omega)]⟩))
theorem c_j118 {f t : Nat} (X : PCr b L T r f M) (ht : t < 128) {w s0 : Int} (hw : w ≠ 7) : Okk (f_X6_readTerm_j118 t w s0 M) (fun q => (cdE b L f ≠ s0 ∧ noC r 8 t M 1 f q) ∨ (cdE b L f = s0 ∧ cdE b L (nxE b L f) ≠ -3 ∧ noC r 8 t M 1 (nxE b L f) q) ∨ (cdE b L f = s0 ∧ cdE b L (nxE b L f) = -3 ∧ okC b L T r (nxE b L (nxE b L f)) 8 t M q ∧ q.2 (r + 8) t = nmE b L (nxE b L f))) := by
  unfold f_X6_readTerm_j118
  refine ok_bnd (c_code X s0) (fun q M2 hq => ?_)
  rcases hq with ⟨h1, h2, h3, h4⟩ | ⟨h1, h2, h3⟩
  · dsimp only at h2 h3 h4 ⊢
    refine ok_ite_f (by omega) (ok_ite_f hw (ok_mono (c_tNum h4 ht) (fun a ha => ?_)))
    rcases ha with ⟨g1, g2, g3⟩ | ⟨g1, g2⟩
    · exact Or.inr (Or.inr ⟨h1, g1, g2.lift (Nat.le_refl _) (fun c i q1 _ => h3 c i q1), g3⟩)
    · exact Or.inr (Or.inl ⟨h1, g1, g2.lift (Nat.le_refl _) (fun c i q1 _ => h3 c i (by omega))⟩)
  · dsimp only at h2 h3 ⊢
    exact ok_ite_t h2 (ok_some (Or.inl ⟨h1, noC.of ⟨rfl, h3⟩⟩))
/-- a TERM behind its not, in the class -/
theorem c_t36 {f t : Nat} (X : PCr b L T r f M) (ht : t < 128) : Okk (f_X6_readTerm_j36 t M) (fun q => (trK b L f ≠ 0 ∧ noC r 6 t M (trK b L f) (trP b L f) q) ∨ (trK b L f = 0 ∧ okC b L T r (trP b L f) 6 t M q ∧ q.2 (r + 6) t = cdE b L f ∧ (cdE b L f ≠ 7 → q.2 (r + 7) t = cdE b L (nxE b L f)) ∧ q.2 (r + 8) t = trV b L f)) := by
  have hr := X.1
  unfold f_X6_readTerm_j36
  rw [X.cd]
  refine ok_lt (ok_b (c_within _ _ _ _) (fun hw => ?_) (fun hw => ?_))
  · rw [X.rn, toN]
    refine ok_ite_f (by decide) (ok_gd X.ru (ok_gd (by omega) (ok_lt ?_)))
    obtain ⟨M2, e2, f2, v2⟩ := mup_gen M (r + 6) t (cdE b L f)
    rw [e2]
    have X2 : PCr b L T r f M2 := X.up (fun c i q => f2 c i (by omega))
    refine ok_obn (c_nx X2) (fun M3 hM3 => ?_)
    obtain ⟨s3, X3⟩ := hM3
    have fr3 : ∀ c i, ¬ (c = 29 ∧ 4 ≤ i ∧ i ≤ 7) → ¬ (r + 6 ≤ c ∧ c ≤ r + 8 ∧ i = t) → M3 c i = M c i := fun c i q1 q2 => by rw [s3 c i q1, f2 c i (by omega)]
    have v3 : M3 (r + 6) t = cdE b L f := by rw [s3 _ _ (by omega)]; exact v2
    refine ok_ite (fun h7 => ?_) (fun h7 => ?_)
    · refine ok_ite_t h7 ?_
      rw [X3.cd]
      have eK : trK b L f = if cdE b L (nxE b L f) ≠ -3 then 1 else if 7 < nmE b L (nxE b L f) then 2 else 0 := by unfold trK; rw [if_neg (fun z => z hw), if_pos h7]
      have eP : trP b L f = if cdE b L (nxE b L f) ≠ -3 then nxE b L f else if 7 < nmE b L (nxE b L f) then nxE b L f else nxE b L (nxE b L f) := by unfold trP; rw [if_neg (fun z => z hw), if_pos h7]
      have eV : trV b L f = nmE b L (nxE b L f) := by unfold trV; rw [if_pos h7]
      refine ok_ite (fun h8 => ?_) (fun h8 => ?_)
      · rw [if_neg (fun z => z h8)] at eK eP
        rw [X3.nm]
        refine ok_ite (fun h9 => ?_) (fun h9 => ?_)
        · rw [if_neg (by omega)] at eK eP
          have := c_tNum X3 ht
          rw [X3.nm] at this
          refine ok_mono this (fun a ha => ?_)
          rcases ha with ⟨g1, g2, g3⟩ | ⟨g1, g2⟩
          · rw [eK, eP, eV]
            exact Or.inr ⟨rfl, g2.lift (by omega) fr3, by rw [g2.2.2 _ _ (by omega) (by omega)]; exact v3, fun z => absurd h7 z, g3⟩
          · exact absurd h8 g1
        · rw [if_pos (by omega)] at eK eP
          refine ok_bnd (c_ref X3 2) (fun q M4 hq => ok_gd (Or.inl hq.1) (ok_some (Or.inl ⟨by rw [eK]; omega, ?_⟩)))
          rw [eK, eP]
          exact (noC.of (lo := 6) hq).lift (Nat.le_refl _) (fun c i q1 q2 => fr3 c i (by omega) q2)
      · rw [if_pos h8] at eK eP
        refine ok_mono (c_tNum X3 ht) (fun a ha => ?_)
        rcases ha with ⟨g1, g2, g3⟩ | ⟨g1, g2⟩
        · exact absurd g1 h8
        · rw [eK, eP]
          exact Or.inl ⟨by omega, g2.lift (by omega) (fun c i q1 q2 => fr3 c i (by omega) q2)⟩
    · rw [X3.rn, X3.cd]
      obtain ⟨M4, e4, f4, v4⟩ := mup_gen M3 (r + 7) t (cdE b L (nxE b L f))
      refine ok_gd X3.ru (ok_gd (by omega) (ok_lt ?_))
      rw [e4]
      have X4 : PCr b L T r (nxE b L f) M4 := X3.up (fun c i q => f4 c i (by omega))
      rw [X4.cd]
      have fr4 : ∀ c i, ¬ (c = 29 ∧ 4 ≤ i ∧ i ≤ 7) → ¬ (r + 6 ≤ c ∧ c ≤ r + 8 ∧ i = t) → M4 c i = M c i := fun c i q1 q2 => by rw [f4 c i (by omega)]; exact fr3 c i q1 q2
      have eK : trK b L f = if ¬ (60 ≤ cdE b L (nxE b L f) ∧ cdE b L (nxE b L f) ≤ 62) then 1 else if cdE b L (nxE b L (nxE b L f)) ≠ -3 then 1 else 0 := by unfold trK; rw [if_neg (fun z => z hw), if_neg h7]
      have eP : trP b L f = if ¬ (60 ≤ cdE b L (nxE b L f) ∧ cdE b L (nxE b L f) ≤ 62) then nxE b L f else if cdE b L (nxE b L (nxE b L f)) ≠ -3 then nxE b L (nxE b L f) else nxE b L (nxE b L (nxE b L f)) := by unfold trP; rw [if_neg (fun z => z hw), if_neg h7]
      have eV : trV b L f = nmE b L (nxE b L (nxE b L f)) := by unfold trV; rw [if_neg h7]
      have fin : ∀ s0 : Int, (s0 = cdE b L (nxE b L f) ∧ (60 ≤ s0 ∧ s0 ≤ 62)) ∨ (s0 = 61 ∧ cdE b L (nxE b L f) ≠ 60 ∧ cdE b L (nxE b L f) ≠ 62) → Okk (f_X6_readTerm_j118 t (cdE b L f) s0 M4) (fun q => (trK b L f ≠ 0 ∧ noC r 6 t M (trK b L f) (trP b L f) q) ∨ (trK b L f = 0 ∧ okC b L T r (trP b L f) 6 t M q ∧ q.2 (r + 6) t = cdE b L f ∧ (cdE b L f ≠ 7 → q.2 (r + 7) t = cdE b L (nxE b L f)) ∧ q.2 (r + 8) t = trV b L f)) := fun s0 hs => by
        refine ok_mono (c_j118 X4 ht (s0 := s0) h7) (fun a ha => ?_)
        rcases ha with ⟨g1, g2⟩ | ⟨g1, g2, g3⟩ | ⟨g1, g2, g3, g4⟩
        · rw [if_pos (by omega)] at eK eP
          rw [eK, eP]
          exact Or.inl ⟨by omega, g2.lift (by omega) (fun c i q1 q2 => fr4 c i (by omega) q2)⟩
        · rw [if_neg (by omega), if_pos g2] at eK eP
          rw [eK, eP]
          exact Or.inl ⟨by omega, g3.lift (by omega) (fun c i q1 q2 => fr4 c i (by omega) q2)⟩
        · rw [if_neg (by omega), if_neg (fun z => z g2)] at eK eP
          rw [eK, eP, eV]
          exact Or.inr ⟨rfl, g3.lift (by omega) fr4, by rw [g3.2.2 _ _ (by omega) (by omega), f4 _ _ (by omega)]; exact v3, fun _ => by rw [g3.2.2 _ _ (by omega) (by omega)]; exact v4, g4⟩
      exact ok_ite (fun z => fin _ (Or.inl ⟨rfl, by omega⟩)) (fun z => ok_ite (fun z2 => fin _ (Or.inl ⟨rfl, by omega⟩)) (fun z2 => fin 61 (Or.inr ⟨rfl, z, z2⟩)))
  · refine ok_ite_t rfl (ok_bnd (c_ref X 1) (fun q M4 hq => ok_gd (Or.inl hq.1) (ok_some (Or.inl ?_))))
    have eK : trK b L f = 1 := by unfold trK; rw [if_pos hw]
    have eP : trP b L f = f := by unfold trP; rw [if_pos hw]
    rw [eK, eP]
    exact ⟨by omega, noC.of hq⟩
end TERM
