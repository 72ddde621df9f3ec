/-! rule: both parsers, a TERM -/
theorem ok_sw {α β : Type} {x : Option α} {y : Option β} {R : α → β → Prop} (h : Okk y (fun c => Okk x (fun a => R a c))) : Okk x (fun a => Okk y (fun c => R a c)) := by
  obtain ⟨c, h1, a, h2, h3⟩ := h
  exact ⟨a, h2, c, h1, h3⟩
theorem ok_2 {α β : Type} {x1 y1 : Option Res} {R1 : Res → Res → Prop} {f : Int → Mem → Option α} {g : Int → Mem → Option β} {R : α → β → Prop} (h : Okk x1 (fun a => Okk y1 (fun c => R1 a c))) (k : ∀ a c, R1 a c → Okk (f a.1 a.2) (fun a' => Okk (g c.1 c.2) (fun c' => R a' c'))) : Okk (bnd x1 f) (fun a' => Okk (bnd y1 g) (fun c' => R a' c')) := by
  obtain ⟨a, h1, c, h2, h3⟩ := h
  obtain ⟨a', g1, c', g2, g3⟩ := k a c h3
  refine ⟨a', ?_, c', ?_, g3⟩
  · rw [h1]; exact g1
  · rw [h2]; exact g2
section PARSE
variable {b : Nat → Int} {L T r : Nat} {M N : Mem}
def PCr (b : Nat → Int) (L T r f : Nat) (M : Mem) : Prop := (r = 62 ∨ r = 71) ∧ PC b L T f M ∧ M 29 3 = (r : Int)
def PNr (b : Nat → Int) (L f : Nat) (N : Mem) : Prop := TM b L N ∧ ML b L f N ∧ N 80 33 = 0
/-- little changes: the TOKEN at hand alone -/
def smC (M M' : Mem) : Prop := ∀ c i, ¬ (c = 29 ∧ 4 ≤ i ∧ i ≤ 7) → M' c i = M c i
def smN (N N' : Mem) : Prop := ∀ c i, ¬ isMx c i → N' c i = N c i
/-- a refusal -/
def rfC (M M' : Mem) (k : Int) (f : Nat) : Prop := M' 29 0 = k ∧ M' 29 1 = (f : Int) ∧ ∀ c i, c ≠ 29 → M' c i = M c i
def rfN (N N' : Mem) (k : Int) (f : Nat) : Prop := N' 80 33 = k ∧ N' 80 34 = (f : Int) ∧ ∀ c i, ¬ (c = 80 ∧ (i = 33 ∨ i = 34)) → N' c i = N c i
theorem PCr.up {f : Nat} {M' : Mem} (X : PCr b L T r f M) (h : ∀ c i, (c = 24 ∨ (26 ≤ c ∧ c ≤ 29)) → M' c i = M c i) : PCr b L T r f M' := by
  obtain ⟨h0, ⟨l, t, t1, t2, t3, t4, t5, t6⟩, h3⟩ := X
  refine ⟨h0, ⟨l.fr (h 24 2 (by omega)) (fun c i a1 a2 => h c i (by omega)), t, t1, t2, ?_, ?_, ?_, ?_⟩, ?_⟩
  · rw [h 29 4 (by omega)]; exact t3
  · rw [h 29 5 (by omega)]; exact t4
  · rw [h 29 6 (by omega)]; exact t5
  · rw [h 29 7 (by omega)]; exact t6
  · rw [h 29 3 (by omega)]; exact h3
theorem PNr.up {f : Nat} {N' : Mem} (X : PNr b L f N) (h : ∀ c i, (c = 105 ∨ (c = 80 ∧ 32 ≤ i)) → N' c i = N c i) : PNr b L f N' := by
  obtain ⟨h0, ⟨a1, a2, a3, a4, a5⟩, h3⟩ := X
  refine ⟨h0.fr (h 80 32 (by omega)) (fun i => h 105 i (by omega)), ⟨a1, ?_, ?_, ?_, fun z => ?_⟩, ?_⟩
  · rw [h 80 35 (by omega)]; exact a2
  · rw [h 80 36 (by omega)]; exact a3
  · rw [h 80 38 (by omega)]; exact a4
  · rw [h 80 37 (by omega)]; exact a5 z
  · rw [h 80 33 (by omega)]; exact h3
theorem PCr.cd {f : Nat} (X : PCr b L T r f M) : M 29 5 = cdE b L f := X.2.1.2.choose_spec.2.2.2.1
theorem PCr.fr {f : Nat} (X : PCr b L T r f M) : M 29 6 = (f : Int) := X.2.1.2.choose_spec.2.2.2.2.1
theorem PCr.nm {f : Nat} (X : PCr b L T r f M) : M 29 7 = nmE b L f := X.2.1.2.choose_spec.2.2.2.2.2
theorem PCr.ru {f : Nat} (X : PCr b L T r f M) : isRu (M 29 3) := by rw [X.2.2]; unfold isRu; have := X.1; omega
theorem PCr.rn {f : Nat} (X : PCr b L T r f M) : (M 29 3).toNat = r := by rw [X.2.2, toN]
theorem PNr.tk {f : Nat} (X : PNr b L f N) : N 80 38 = 2 ↔ cdE b L f = -3 := by rw [X.2.1.2.2.2.1]; exact tk2 f
theorem PNr.nm {f : Nat} (X : PNr b L f N) (h : cdE b L f = -3) : N 80 37 = nmE b L f := X.2.1.2.2.2.2 ((tk2 f).mpr h)
theorem c_nx {f : Nat} (X : PCr b L T r f M) : Okk (f_X6_next M) (fun M' => smC M M' ∧ PCr b L T r (nxE b L f) M') :=
  ok_mono (c_next X.2.1) (fun M' h => ⟨h.1, X.1, h.2, by rw [h.1 29 3 (by omega)]; exact X.2.2⟩)
theorem m_nx2 {f : Nat} (X : PNr b L f N) : Okk (f_X11_next N) (fun N' => smN N N' ∧ PNr b L (nxE b L f) N') :=
  ok_mono (m_nx X.1 X.2.1) (fun N' h => ⟨h.1, X.1.fr (h.1 80 32 (by unfold isMx; omega)) (fun i => h.1 105 i (by unfold isMx; omega)), h.2, by rw [h.1 80 33 (by unfold isMx; omega)]; exact X.2.2⟩)
theorem c_ref {f : Nat} (X : PCr b L T r f M) (k : Int) : Okk (f_X6_refuse k M) (fun q => q.1 = 0 ∧ rfC M q.2 k f) := by
  unfold f_X6_refuse
  obtain ⟨M2, e2, f2, v2⟩ := mup_gen M 29 0 k
  refine ok_lt ?_
  rw [e2, f2 29 6 (by omega), X.fr]
  obtain ⟨M3, e3, f3, v3⟩ := mup_gen M2 29 1 (f : Int)
  refine ok_lt ?_
  rw [e3]
  exact ok_some ⟨rfl, by show M3 29 0 = k; rw [f3 29 0 (by omega)]; exact v2, v3, fun c i q => by show M3 c i = _; rw [f3 c i (by omega), f2 c i (by omega)]⟩
theorem m_wr {f : Nat} (X : PNr b L f N) (k : Int) : Okk (f_X11_wrong k N) (fun q => q.1 = 0 ∧ rfN N q.2 k f) := by
  unfold f_X11_wrong
  rw [X.2.2]
  obtain ⟨N2, e2, f2, v2⟩ := mup_gen N 80 33 k
  refine ok_ite_t rfl (ok_lt ?_)
  rw [e2, f2 80 35 (by omega), X.2.1.2.1]
  obtain ⟨N3, e3, f3, v3⟩ := mup_gen N2 80 34 (f : Int)
  refine ok_lt ?_
  rw [e3]
  exact ok_some ⟨rfl, by show N3 80 33 = k; rw [f3 80 33 (by omega)]; exact v2, v3, fun c i q => by show N3 c i = _; rw [f3 c i (by omega), f2 c i (by omega)]⟩
theorem c_code {f : Nat} (X : PCr b L T r f M) (k : Int) : Okk (f_X6_readCode k M) (fun q => (cdE b L f = k ∧ q.1 = 1 ∧ smC M q.2 ∧ PCr b L T r (nxE b L f) q.2) ∨ (cdE b L f ≠ k ∧ q.1 = 0 ∧ rfC M q.2 1 f)) := by
  unfold f_X6_readCode
  rw [X.cd]
  refine ok_ite (fun h => ok_obn (c_nx X) (fun M' hM' => ok_some (Or.inl ⟨h, rfl, hM'.1, hM'.2⟩))) (fun h => ok_bnd (c_ref X 1) (fun q M' hq => ?_))
  exact ok_gd (Or.inl hq.1) (ok_some (Or.inr ⟨h, hq.1, hq.2⟩))
/-- what may change in all -/
def BC (r : Nat) (M M' : Mem) : Prop := ∀ c i, c ≠ 29 → ¬ (r ≤ c ∧ c ≤ r + 8) → M' c i = M c i
def BN (N N' : Mem) : Prop := ∀ c i, ¬ (c = 80 ∧ (i = 22 ∨ (33 ≤ i ∧ i ≤ 38))) → ¬ (97 ≤ c ∧ c ≤ 99 ∧ 16 ≤ i) → ¬ (c = 100 ∧ 32 ≤ i) → ¬ (101 ≤ c ∧ c ≤ 104 ∧ 128 ≤ i) → N' c i = N c i
/-- both refuse alike -/
def FL (r : Nat) (M N : Mem) (a c : Res) : Prop := a.1 = 0 ∧ c.1 = 0 ∧ a.2 29 0 = c.2 80 33 ∧ (1 ≤ a.2 29 0 ∧ a.2 29 0 ≤ 3) ∧ a.2 29 1 = c.2 80 34 ∧ BC r M a.2 ∧ BN N c.2
theorem FL.mk2 {M1 N1 : Mem} {a c : Res} {k : Int} {f : Nat} (hk : 1 ≤ k ∧ k ≤ 3) (h1 : a.1 = 0) (h2 : c.1 = 0) (g1 : rfC M1 a.2 k f) (g2 : rfN N1 c.2 k f) (b1 : BC r M M1) (b2 : BN N N1) : FL r M N a c :=
  ⟨h1, h2, g1.1.trans g2.1.symm, by rw [g1.1]; exact hk, g1.2.1.trans g2.2.1.symm, fun c i q1 q2 => by rw [g1.2.2 c i q1]; exact b1 c i q1 q2, fun c i q1 q2 q3 q4 => by rw [g2.2.2 c i (by omega)]; exact b2 c i q1 q2 q3 q4⟩
theorem FL.tr {M1 N1 : Mem} {a c : Res} (h : FL r M1 N1 a c) (b1 : BC r M M1) (b2 : BN N N1) : FL r M N a c :=
  ⟨h.1, h.2.1, h.2.2.1, h.2.2.2.1, h.2.2.2.2.1, fun c i q1 q2 => by rw [h.2.2.2.2.2.1 c i q1 q2]; exact b1 c i q1 q2, fun c i q1 q2 q3 q4 => by rw [h.2.2.2.2.2.2 c i q1 q2 q3 q4]; exact b2 c i q1 q2 q3 q4⟩
/-- a TERM is the same on both sides -/
def tmD (r t : Nat) (M N : Mem) : Prop := (isZ (N 101 (128 + t)) ∧ M (r + 5) t = N 101 (128 + t)) ∧ (0 ≤ N 102 (128 + t) ∧ N 102 (128 + t) ≤ 7 ∧ M (r + 6) t = N 102 (128 + t)) ∧ (N 102 (128 + t) ≠ 7 → 0 ≤ N 103 (128 + t) ∧ N 103 (128 + t) ≤ 2 ∧ M (r + 7) t = N 103 (128 + t) + 60) ∧ (0 ≤ N 104 (128 + t) ∧ N 104 (128 + t) ≤ 99) ∧ (N 102 (128 + t) = 7 → N 104 (128 + t) ≤ 7) ∧ M (r + 8) t = N 104 (128 + t)
/-- what a TERM's reading changes -/
def tC (r t : Nat) (M M' : Mem) : Prop := ∀ c i, ¬ (c = 29 ∧ 4 ≤ i ∧ i ≤ 7) → ¬ (r + 5 ≤ c ∧ c ≤ r + 8 ∧ i = t) → M' c i = M c i
def tN (t : Nat) (N N' : Mem) : Prop := ∀ c i, ¬ isMx c i → ¬ (101 ≤ c ∧ c ≤ 104 ∧ i = 128 + t) → N' c i = N c i
theorem nm_b (hb : ∀ i, i < L → 0 ≤ b i ∧ b i ≤ 255) {f : Nat} (h : cdE b L f = -3) : 0 ≤ nmE b L f ∧ nmE b L f ≤ 99 := by
  by_cases z : f < L ∧ ¬ isLt (b f) ∧ isDg (b f)
  · obtain ⟨a1, a2, a3, a4⟩ := dg_sp b (L := L) (f := f) (by omega)
    have e : nmE b L f = nvE b f (dgE b L f) := by unfold nmE; rw [if_pos z]
    have k0 : f < dgE b L f := by
      apply Classical.byContradiction
      intro y
      have e2 : dgE b L f = f := by omega
      rw [e2] at a4
      exact a4 z.1 z.2.2
    rw [e, ← nvk_e k0]
    exact nvk_b (fun j hj => a3 (f + j) (by omega) (by omega))
  · have e : nmE b L f = 0 := by unfold nmE; rw [if_neg z]
    omega
end PARSE
