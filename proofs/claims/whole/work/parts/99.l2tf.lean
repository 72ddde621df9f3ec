/-! make: the model's STEPS -/
section STEPS
variable {B M : Mem} {known : Int}
/-- the model's plan is P -/
def MPl (B : Mem) (known : Int) (P : Nat → Int) (M0 M : Mem) : Prop := LR B known M ∧ (∀ x i, x ≠ 108 → M x i = M0 x i) ∧ ∀ x, x < nK B → M 108 x = P x
theorem MPl.set {P : Nat → Int} {M0 M2 : Mem} (X : MPl B known P M0 M) {c : Nat} {v : Int} (f2 : ∀ x i, ¬ (x = 108 ∧ i = c) → M2 x i = M x i) (v2 : M2 108 c = v) : MPl B known (upP P c v) M0 M2 := by
  refine ⟨X.1.fr (fun x i q => f2 x i (by unfold isFa at q; omega)), fun x i q => by rw [f2 x i (by omega)]; exact X.2.1 x i q, fun x hx => ?_⟩
  by_cases e : x = c
  · rw [e, upP_at, v2]
  · rw [upP_ne _ _ e, f2 108 x (by omega)]; exact X.2.2 x hx
theorem MPl.pl {P : Nat → Int} {M0 : Mem} (X : MPl B known P M0 M) (hP : PB B P) : GP B (planOf M) = GP B P ∧ PB B (planOf M) := ⟨GP_congr (fun x hx => X.2.2 x hx), fun x hx => by show -1 ≤ M 108 x ∧ M 108 x < _; rw [X.2.2 x hx]; exact hP x hx⟩
theorem upP_up {P : Nat → Int} {c : Nat} {u v : Int} : upP (upP P c u) c v = upP P c v := by
  funext x
  by_cases e : x = c
  · rw [e, upP_at, upP_at]
  · rw [upP_ne _ _ e, upP_ne _ _ e, upP_ne _ _ e]
theorem upP_id {P : Nat → Int} {c : Nat} : upP P c (P c) = P := by
  funext x
  by_cases e : x = c
  · rw [e, upP_at]
  · rw [upP_ne _ _ e]
theorem VP.pb {P : Nat → Int} (h : VP B P) : PB B P := fun x hx => by have := h x hx; omega
theorem VP.up {P : Nat → Int} (h : VP B P) {c k : Nat} (hk : k < nC B) : VP B (upP P c (k : Int)) := fun x hx => by
  by_cases e : x = c
  · rw [e, upP_at]; omega
  · rw [upP_ne _ _ e]; exact h x hx
theorem VP.sw {P : Nat → Int} (h : VP B P) {a b : Nat} (ha : a < nK B) (hb : b < nK B) : VP B (swL P a b) := fun x hx => by
  unfold swL
  split
  · exact h b hb
  · split
    · exact h a ha
    · exact h x hx
theorem m_isBetter {P Q : Nat → Int} {M0 : Mem} (X : MPl B known Q M0 M) (hQ : PB B Q) {wl wh : Int} (hl : wl = lackGG B known (GP B P)) (hh : wh = harmGG B known (GP B P)) : Okk (f_X11_isBetter wl wh M) (fun r => isB r (btP B known P Q)) := by
  obtain ⟨eg, pb⟩ := X.pl hQ
  have eS := sound_pg (known := known) X.1.1.1 pb
  have eL : lackS B known (planOf M) = lackGG B known (GP B (planOf M)) := lack_pg
  have eH := harm_pg (known := known) X.1.1.1 pb
  rw [eg] at eS eL eH
  unfold f_X11_isBetter
  refine ok_obn (m_isSound X.1 pb) (fun r hr => ?_)
  refine ok_ite (fun h0 => ok_some (isB.zero (fun z => hr.f h0 (eS.mpr z.1)))) (fun h0 => ?_)
  have hs := eS.mp (hr.t h0)
  refine ok_e (m_lack X.1) ?_
  rw [eL, hl]
  refine ok_ite (fun h1 => ok_some (isB.one ⟨hs, Or.inl h1⟩)) (fun h1 => ok_ite (fun h2 => ?_) (fun h2 => ok_some (isB.zero (fun z => by have := z.2; omega))))
  refine ok_e (m_allHarm X.1 pb) ?_
  rw [eH, hh]
  exact ok_ite (fun h3 => ok_some (isB.zero (fun z => by have := z.2; omega))) (fun h3 => ok_some (isB.one ⟨hs, Or.inr ⟨h2, by omega⟩⟩))
theorem m_byMove {P : Nat → Int} {M0 : Mem} (X : MPl B known P M0 M) (hV : VP B P) {wl wh : Int} (hl : wl = lackGG B known (GP B P)) (hh : wh = harmGG B known (GP B P)) :
    Okk (f_X11_betters_l12 wl wh 0 M) (inS (fun s => noMv B known P ∧ MPl B known P M0 s.2) (fun q => q.1 = 1 ∧ ∃ c k, isMv B known P c k ∧ MPl B known (upP P c (k : Int)) M0 q.2)) := by
  have h3 := X.1.1.1.k23
  have h14 := X.1.1.1.n14
  unfold f_X11_betters_l12
  refine ok_whl (nK B) (fun c s => s.1 = (c : Int) ∧ MPl B known P M0 s.2 ∧ ∀ c', c' < c → ∀ k', ¬ mvOK B known P c' k') (FU_big (by omega)) ⟨rfl, X, fun c' h => absurd h (by omega)⟩ ?_
  rintro c ⟨u, N⟩ hc ⟨hu, XN, hno⟩
  dsimp only at hu XN hno ⊢
  subst hu
  unfold f_X11_betters_s12
  rw [XN.1.1.n, toN]
  refine ok_ite (fun h => ?_) (fun h => ?_)
  · have e : c = nK B := by omega
    subst e; exact ok_some ⟨hno, XN⟩
  have hcn : c < nK B := by omega
  have hv := hV c hcn
  rw [XN.2.2 c hcn]
  refine ok_gd (by omega) (ok_lt (ok_lpr (P := fun s => (∃ z : Int, MPl B known (upP P c z) M0 s.2) ∧ ∀ k', ¬ mvOK B known P c k') (P2 := fun q => q.1 = 1 ∧ ∃ c k, isMv B known P c k ∧ MPl B known (upP P c (k : Int)) M0 q.2) ?_ (fun s hs => ?_) (fun t ht => by exact ok_some ht)))
  · unfold f_X11_betters_l31
    refine ok_whl (nC B) (fun k s => s.1 = (k : Int) ∧ (∃ z : Int, MPl B known (upP P c z) M0 s.2) ∧ ∀ k', k' < k → ¬ mvOK B known P c k') (FU_big (by omega)) ⟨rfl, ⟨P c, by rw [upP_id]; exact XN⟩, fun k' h => absurd h (by omega)⟩ ?_
    rintro k ⟨u, N1⟩ hk ⟨hu, ⟨z, XN1⟩, hnk⟩
    dsimp only at hu XN1 hnk ⊢
    subst hu
    unfold f_X11_betters_s31
    rw [XN1.1.1.k, wrap_n1 (by omega), toN]
    refine ok_ite (fun h => ?_) (fun h => ?_)
    · have e : k = nC B := by omega
      subst e
      refine ok_some ⟨⟨z, XN1⟩, fun k' y => ?_⟩
      by_cases w : k' < nC B
      · exact hnk k' w y
      · exact w y.1
    have hkC : k < nC B := by omega
    have nx : ¬ mvOK B known P c k → ∀ k', k' < k + 1 → ¬ mvOK B known P c k' := fun z k' hk' => by
      by_cases e : k' = k
      · rw [e]; exact z
      · exact hnk k' (by omega)
    refine ok_ite (fun h5 => ok_lt (ok_some ⟨hkC, rfl, ⟨z, XN1⟩, nx (fun y => y.2.1 h5.symm)⟩)) (fun h5 => ?_)
    obtain ⟨N2, e2, f2, v2⟩ := mup_gen N1 108 c (k : Int)
    refine ok_gd (by omega) (ok_lt ?_)
    rw [e2]
    have X2 := XN1.set f2 v2
    rw [upP_up] at X2
    refine ok_obn (m_isBetter X2 (hV.up hkC).pb hl hh) (fun r hr => ?_)
    refine ok_ite (fun h6 => ok_lt (ok_some ⟨hkC, rfl, ⟨_, X2⟩, nx (fun y => hr.f h6 y.2.2)⟩)) (fun h6 => ok_some ⟨rfl, c, k, ⟨hcn, ⟨hkC, fun y => h5 y.symm, hr.t h6⟩, hnk, hno⟩, X2⟩)
  · obtain ⟨⟨z, Xz⟩, hs2⟩ := hs
    unfold f_X11_betters_j75k12
    rw [wrap_n1 (by omega), toN]
    obtain ⟨N2, e2, f2, v2⟩ := mup_gen s.2 108 c (P c)
    refine ok_gd (by omega) (ok_lt ?_)
    rw [e2]
    have X2 := Xz.set f2 v2
    rw [upP_up, upP_id] at X2
    refine ok_lt (ok_some ⟨hcn, rfl, X2, fun c' hc' => ?_⟩)
    by_cases e : c' = c
    · rw [e]; exact hs2
    · exact hno c' (by omega)
theorem MPl.swp {P : Nat → Int} {M0 M2 : Mem} (X : MPl B known P M0 M) {a b : Nat} (h : (∀ c i, ¬ (c = 108 ∧ i < nK B) → M2 c i = M c i) ∧ ∀ c, c < nK B → M2 108 c = swL P a b c) : MPl B known (swL P a b) M0 M2 :=
  ⟨X.1.fr (fun x i q => h.1 x i (by unfold isFa at q; omega)), fun x i q => by rw [h.1 x i (by omega)]; exact X.2.1 x i q, h.2⟩
theorem m_bySwap {P : Nat → Int} {M0 : Mem} (X : MPl B known P M0 M) (hV : VP B P) {wl wh : Int} (hl : wl = lackGG B known (GP B P)) (hh : wh = harmGG B known (GP B P)) :
    Okk (f_X11_betters_l91 wl wh 0 M) (inS (fun s => noSw B known P ∧ MPl B known P M0 s.2) (fun q => q.1 = 1 ∧ ∃ a b, isSw B known P a b ∧ MPl B known (swL P a b) M0 q.2)) := by
  have h3 := X.1.1.1.k23
  have h14 := X.1.1.1.n14
  unfold f_X11_betters_l91
  refine ok_whl (nK B) (fun a s => s.1 = (a : Int) ∧ MPl B known P M0 s.2 ∧ ∀ a', a' < a → ∀ b', a' < b' → b' < nK B → ¬ swOK B known P a' b') (FU_big (by omega)) ⟨rfl, X, fun c' h => absurd h (by omega)⟩ ?_
  rintro a ⟨u, N⟩ hc ⟨hu, XN, hno⟩
  dsimp only at hu XN hno ⊢
  subst hu
  unfold f_X11_betters_s91
  rw [XN.1.1.n]
  refine ok_ite (fun h => ?_) (fun h => ?_)
  · have e : a = nK B := by omega
    subst e; exact ok_some ⟨fun a' b' h1 h2 => hno a' (by omega) b' h1 h2, XN⟩
  have han : a < nK B := by omega
  rw [wrap_n1 (by omega)]
  refine ok_lt (ok_lpr (P := fun s => MPl B known P M0 s.2 ∧ ∀ b', a < b' → b' < nK B → ¬ swOK B known P a b') (P2 := fun q => q.1 = 1 ∧ ∃ a b, isSw B known P a b ∧ MPl B known (swL P a b) M0 q.2) ?_ (fun s hs => ?_) (fun t ht => by exact ok_some ht))
  · unfold f_X11_betters_l104
    refine ok_whl (nK B - (a + 1)) (fun j s => s.1 = ((a + 1 + j : Nat) : Int) ∧ MPl B known P M0 s.2 ∧ ∀ b', a < b' → b' < a + 1 + j → ¬ swOK B known P a b') (FU_big (by omega)) ⟨rfl, XN, fun b' h1 h2 => absurd h1 (by omega)⟩ ?_
    rintro j ⟨u, N1⟩ hj ⟨hu, XN1, hnb⟩
    dsimp only at hu XN1 hnb ⊢
    subst hu
    unfold f_X11_betters_s104
    rw [XN1.1.1.n, toN, toN, wrap_n1 (by omega)]
    refine ok_ite (fun h => ?_) (fun h => ?_)
    · have e : a + 1 + j = nK B := by omega
      rw [e] at hnb
      exact ok_some ⟨XN1, hnb⟩
    have hbn : a + 1 + j < nK B := by omega
    have hab : a ≠ a + 1 + j := by omega
    rw [XN1.2.2 a han, XN1.2.2 _ hbn]
    have nx : ¬ swOK B known P a (a + 1 + j) → ∀ b', a < b' → b' < a + 1 + (j + 1) → ¬ swOK B known P a b' := fun z b' h1 h2 => by
      by_cases e : b' = a + 1 + j
      · rw [e]; exact z
      · exact hnb b' h1 (by omega)
    refine ok_gd (by omega) (ok_gd (by omega) ?_)
    refine ok_ite (fun h5 => ok_lt (ok_some ⟨by omega, by show ((a + 1 + j + 1 : Nat) : Int) = _; omega, XN1, nx (fun z => z.1 h5)⟩)) (fun h5 => ?_)
    refine ok_obn (m_swp (L := P) h14 han hbn hab XN1.2.2) (fun N2 hN2 => ?_)
    have X2 := XN1.swp hN2
    refine ok_obn (m_isBetter X2 (hV.sw han hbn).pb hl hh) (fun r hr => ?_)
    refine ok_ite (fun h6 => ?_) (fun h6 => ok_some ⟨rfl, a, a + 1 + j, ⟨by omega, hbn, ⟨h5, hr.t h6⟩, hnb, hno⟩, X2⟩)
    refine ok_obn (m_swp (L := swL P a (a + 1 + j)) h14 han hbn hab X2.2.2) (fun N3 hN3 => ?_)
    have X3 := X2.swp hN3
    rw [swL_sw hab] at X3
    exact ok_lt (ok_some ⟨by omega, by show ((a + 1 + j + 1 : Nat) : Int) = _; omega, X3, nx (fun z => hr.f h6 z.2)⟩)
  · unfold f_X11_betters_j163k91
    rw [wrap_n1 (by omega)]
    refine ok_lt (ok_some ⟨han, rfl, hs.1, fun a' ha' => ?_⟩)
    by_cases e : a' = a
    · rw [e]; exact hs.2
    · exact hno a' (by omega)
theorem m_betters {P : Nat → Int} {M0 : Mem} (X : MPl B known P M0 M) (hV : VP B P) :
    Okk (f_X11_betters M) (fun q => (q.1 = 0 ∧ noMv B known P ∧ noSw B known P ∧ MPl B known P M0 q.2) ∨ (q.1 = 1 ∧ ((∃ c k, isMv B known P c k ∧ MPl B known (upP P c (k : Int)) M0 q.2) ∨ (noMv B known P ∧ ∃ a b, isSw B known P a b ∧ MPl B known (swL P a b) M0 q.2)))) := by
  obtain ⟨eg, pb⟩ := X.pl hV.pb
  have eL : lackS B known (planOf M) = lackGG B known (GP B (planOf M)) := lack_pg
  have eH := harm_pg (known := known) X.1.1.1 pb
  rw [eg] at eL eH
  unfold f_X11_betters
  refine ok_e (m_lack X.1) (ok_e (m_allHarm X.1 pb) ?_)
  refine ok_lpr (m_byMove X hV eL eH) (fun s hs => ?_) (fun t ht => ok_some (Or.inr ⟨ht.1, Or.inl ht.2⟩))
  unfold f_X11_betters_j89
  refine ok_lpr (m_bySwap hs.2 hV eL eH) (fun s2 hs2 => ?_) (fun t ht => ok_some (Or.inr ⟨ht.1, Or.inr ⟨hs.1, ht.2⟩⟩))
  unfold f_X11_betters_j169
  exact ok_some (Or.inl ⟨rfl, hs.1, hs2.1, hs2.2⟩)
end STEPS
