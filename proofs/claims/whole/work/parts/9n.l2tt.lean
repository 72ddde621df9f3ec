/-! rule: both parsers in step: what stands in a STATEMENT -/
section BODY
variable {b : Nat → Int} {L T r : Nat} {M N : Mem}
theorem tmD.fr {t : Nat} {M' N' : Mem} (h : tmD r t M N) (k : ∀ c, r + 5 ≤ c → c ≤ r + 8 → M' c t = M c t) (l : ∀ c, 101 ≤ c → c ≤ 104 → N' c (128 + t) = N c (128 + t)) : tmD r t M' N' := by
  unfold tmD at h ⊢
  rw [k (r + 5) (by omega) (by omega), k (r + 6) (by omega) (by omega), k (r + 7) (by omega) (by omega), k (r + 8) (by omega) (by omega), l 101 (by omega) (by omega), l 102 (by omega) (by omega), l 103 (by omega) (by omega), l 104 (by omega) (by omega)]
  exact h
theorem tsD.fr {R : Nat} {M' N' : Mem} (h : tsD r R M N) (k : ∀ c i, (c = r + 4 ∧ i = R) ∨ (r + 5 ≤ c ∧ c ≤ r + 8 ∧ 4 * R ≤ i ∧ i < 4 * R + 4) → M' c i = M c i) (l : ∀ c i, (c = 100 ∧ i = 32 + R) ∨ (101 ≤ c ∧ c ≤ 104 ∧ 4 * (32 + R) ≤ i ∧ i < 4 * (32 + R) + 4) → N' c i = N c i) : tsD r R M' N' := by
  obtain ⟨n, h1, h2, h3, h4⟩ := h
  refine ⟨n, h1, by rw [k _ _ (Or.inl ⟨rfl, rfl⟩)]; exact h2, by rw [l _ _ (Or.inl ⟨rfl, rfl⟩)]; exact h3, fun j hj => (h4 j hj).fr (fun c c1 c2 => k c _ (by omega)) (fun c c1 c2 => l c _ (by omega))⟩
def frBo (r s : Nat) (M M' : Mem) : Prop := ∀ c i, ¬ (c = 29 ∧ 4 ≤ i ∧ i ≤ 7) → ¬ ((c = r + 2 ∨ c = r + 3) ∧ i = s) → ¬ (c = r + 4 ∧ (i = 2 * s ∨ i = 2 * s + 1)) → ¬ (r + 5 ≤ c ∧ c ≤ r + 8 ∧ 8 * s ≤ i ∧ i < 8 * s + 8) → M' c i = M c i
def frV (s : Nat) (N N' : Mem) : Prop := ∀ c i, ¬ isMx c i → ¬ ((c = 98 ∨ c = 99) ∧ i = 16 + s) → ¬ (c = 100 ∧ (i = 32 + 2 * s ∨ i = 33 + 2 * s)) → ¬ (101 ≤ c ∧ c ≤ 104 ∧ 128 + 8 * s ≤ i ∧ i < 136 + 8 * s) → N' c i = N c i
/-- whether TERMS of row w belong to a STATEMENT of sort k -/
abbrev hasTm (k : Int) (w : Nat) : Prop := k = 5 ∨ (w = 0 ∧ (k = 0 ∨ k = 3 ∨ k = 6 ∨ k = 7))
def bdy (r s : Nat) (k : Int) (M N : Mem) : Prop :=
  (k ≠ 5 → k ≠ 8 → 0 ≤ N 98 (16 + s) ∧ N 98 (16 + s) ≤ 99 ∧ M (r + 2) s = N 98 (16 + s)) ∧
  (k = 8 → (N 98 (16 + s) = 0 ∧ M (r + 3) s = 18) ∨ (N 98 (16 + s) = 1 ∧ M (r + 3) s = 13) ∨ (N 98 (16 + s) = 2 ∧ M (r + 3) s = 17)) ∧
  (k = 1 → 0 ≤ N 99 (16 + s) ∧ N 99 (16 + s) ≤ 6 ∧ M (r + 3) s = N 99 (16 + s)) ∧
  ∀ w, w < 2 → (hasTm k w → tsD r (2 * s + w) M N) ∧ (¬ hasTm k w → N 100 (32 + (2 * s + w)) = -1 ∧ M (r + 4) (2 * s + w) = 0)
/-- the answer of a body's reading -/
def BD (b : Nat → Int) (L T r s : Nat) (k : Int) (M N : Mem) (a c : Res) : Prop := FL r M N a c ∨ (a.1 = 1 ∧ c.1 = 1 ∧ ∃ f', PCr b L T r f' a.2 ∧ PNr b L f' c.2 ∧ frBo r s M a.2 ∧ frV s N c.2 ∧ bdy r s k a.2 c.2)
theorem BC.frBo {s : Nat} {M' : Mem} (h : frBo r s M M') : BC r M M' := fun c i q1 q2 => h c i (by omega) (by omega) (by omega) (by omega)
theorem BN.frV {s : Nat} {N' : Mem} (h : frV s N N') : BN N N' := fun c i q1 q2 q3 q4 => h c i (by unfold isMx; omega) (by omega) (by omega) (by omega)
/-- no TERMS of a row -/
def noTm (r s : Nat) (M N : Mem) : Prop := M (r + 4) (2 * s) = 0 ∧ M (r + 4) (2 * s + 1) = 0 ∧ N 100 (32 + 2 * s) = -1 ∧ N 100 (33 + 2 * s) = -1
/-- a NUMBER's SIGN and the NUMBER at a body's end -/
theorem bd_wt {f s : Nat} {k : Int} {M1 N1 : Mem} (X : PCr b L T r f M1) (Y : PNr b L f N1) (hs : s < 16) (h1 : frBo r s M M1) (h2 : frV s N N1) (hk : k ≠ 5 ∧ k ≠ 8)
    (h3 : k = 1 → 0 ≤ N1 99 (16 + s) ∧ N1 99 (16 + s) ≤ 6 ∧ M1 (r + 3) s = N1 99 (16 + s))
    (h4 : ∀ w, w < 2 → (hasTm k w → tsD r (2 * s + w) M1 N1) ∧ (¬ hasTm k w → N1 100 (32 + (2 * s + w)) = -1 ∧ M1 (r + 4) (2 * s + w) = 0)) :
    Okk (f_X6_readWeight s M1) (fun a => Okk (bnd (f_X11_takesSign 58 N1) fun r_1 M_1 => if r_1 = 0 then (some (0, M_1) : Option Res) else bnd (f_X11_takesNumber ((16 + s : Nat) : Int) M_1) fun r_2 M_2 => if r_2 = 0 then (some (0, M_2) : Option Res) else some (1, M_2)) (fun c => BD b L T r s k M N a c)) := by
  have hr := X.1
  refine ok_mono (lk_wt X Y hs) (fun a ha => ok_mono ha (fun c hc => ?_))
  rcases hc with hc | ⟨g1, g2, f', X2, Y2, s2, t2, d1, d2, d3⟩
  · exact Or.inl (hc.tr (BC.frBo h1) (BN.frV h2))
  · refine Or.inr ⟨g1, g2, f', X2, Y2, fun x i q1 q2 q3 q4 => by rw [s2 x i q1 (by omega)]; exact h1 x i q1 q2 q3 q4, fun x i q1 q2 q3 q4 => by rw [t2 x i q1 (by omega)]; exact h2 x i q1 q2 q3 q4, fun _ _ => ⟨d2, d3, d1⟩, fun z => absurd z hk.2, fun z => ?_, fun w hw => ⟨fun z => ((h4 w hw).1 z).fr (fun c i q => s2 c i (by omega) (by omega)) (fun c i q => t2 c i (by unfold isMx; omega) (by omega)), fun z => ?_⟩⟩
    · rw [s2 (r + 3) s (by omega) (by omega), t2 99 (16 + s) (by unfold isMx; omega) (by omega)]
      exact h3 z
    · rw [s2 (r + 4) (2 * s + w) (by omega) (by omega), t2 100 (32 + (2 * s + w)) (by unfold isMx; omega) (by omega)]
      exact (h4 w hw).2 z
theorem frBo.rf {s : Nat} : frBo r s M M := fun _ _ _ _ _ _ => rfl
theorem frV.rf {s : Nat} : frV s N N := fun _ _ _ _ _ _ => rfl
theorem w01 {w : Nat} (h : w < 2) : w = 0 ∨ w = 1 := by omega
/-- friend, regret -/
theorem bd_plain {f s : Nat} {k : Int} (X : PCr b L T r f M) (Y : PNr b L f N) (hs : s < 16) (h0 : noTm r s M N) (hk : k = 2 ∨ k = 4) :
    Okk (f_X6_readWeight s M) (fun a => Okk (bnd (f_X11_takesSign 58 N) fun r_1 M_1 => if r_1 = 0 then (some (0, M_1) : Option Res) else bnd (f_X11_takesNumber ((16 + s : Nat) : Int) M_1) fun r_2 M_2 => if r_2 = 0 then (some (0, M_2) : Option Res) else some (1, M_2)) (fun c => BD b L T r s k M N a c)) := by
  obtain ⟨n1, n2, n3, n4⟩ := h0
  refine bd_wt X Y hs frBo.rf frV.rf (by omega) (fun z => by omega) (fun w hw => ⟨fun z => by unfold hasTm at z; omega, fun _ => ?_⟩)
  rcases w01 hw with rfl | rfl
  · exact ⟨n3, n1⟩
  · exact ⟨by rw [show 32 + (2 * s + 1) = 33 + 2 * s by omega]; exact n4, n2⟩
/-- alone, and even with TERMS: behind the TERMS -/
theorem bd_tw {f s : Nat} {k : Int} {N0 : Mem} (X : PCr b L T r f M) (Y : PNr b L f N) (hs : s < 16) (n2 : M (r + 4) (2 * s + 1) = 0) (n4 : N 100 (33 + 2 * s) = -1) (hk : k = 0 ∨ k = 3) (hN : frV s N0 N) :
    Okk (bnd (f_X6_readTerms ((2 * s : Nat) : Int) M) fun r_3 M_4 => if r_3 = 0 then (some (0, M_4) : Option Res) else bnd (f_X6_readWeight s M_4) fun r_4 M_5 => if r_4 = 0 then (some (0, M_5) : Option Res) else some (1, M_5)) (fun a => Okk (bnd (f_X11_takesTerms ((32 + 2 * s : Nat) : Int) N) fun r_7 M_8 => if r_7 = 0 then (some (0, M_8) : Option Res) else bnd (f_X11_takesSign 58 M_8) fun r_1 M_1 => if r_1 = 0 then (some (0, M_1) : Option Res) else bnd (f_X11_takesNumber ((16 + s : Nat) : Int) M_1) fun r_2 M_2 => if r_2 = 0 then (some (0, M_2) : Option Res) else some (1, M_2)) (fun c => BD b L T r s k M N0 a c)) := by
  have hr := X.1
  refine ok_2 (lk_terms X Y (R := 2 * s) (by omega)) (fun a c h => ?_)
  rcases h with h | ⟨g1, g2, f', X2, Y2, s2, t2, d⟩
  · have h' : FL r M N0 a c := h.tr BC.rf (BN.frV hN)
    exact ok_ite_t h.1 (ok_some (ok_ite_t h.2.1 (ok_some (Or.inl ⟨rfl, rfl, h'.2.2⟩))))
  · refine ok_ite_f (by omega) (ok_sw (ok_ite_f (by omega) (ok_sw ?_)))
    have h1 : frBo r s M a.2 := fun x i q1 q2 q3 q4 => s2 x i q1 (by omega) (by omega)
    have h2 : frV s N0 c.2 := fun x i q1 q2 q3 q4 => by rw [t2 x i q1 (by omega) (by omega)]; exact hN x i q1 q2 q3 q4
    refine ok_bnd (bd_wt (k := k) X2 Y2 hs h1 h2 (by omega) (fun z => by omega) (fun w hw => ⟨fun z => ?_, fun z => ?_⟩)) (fun ra Ma hra => ?_)
    · have e : w = 0 := by unfold hasTm at z; omega
      subst e; exact d
    · rcases w01 hw with rfl | rfl
      · exact absurd (Or.inr ⟨rfl, by omega⟩) z
      · rw [t2 _ _ (by unfold isMx; omega) (by omega) (by omega), s2 _ _ (by omega) (by omega) (by omega), show 32 + (2 * s + 1) = 33 + 2 * s by omega]
        exact ⟨n4, n2⟩
    · try dsimp only
      refine ok_ite (fun z => ok_some (ok_mono hra (fun c2 hc2 => ?_))) (fun z => ok_some (ok_mono hra (fun c2 hc2 => ?_)))
      · rcases hc2 with h | ⟨g, -⟩
        · exact Or.inl ⟨rfl, h.2⟩
        · dsimp only at g; omega
      · rcases hc2 with h | ⟨g, h⟩
        · exact absurd h.1 z
        · exact Or.inr ⟨rfl, h⟩
end BODY
