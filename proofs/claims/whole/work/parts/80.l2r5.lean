/-! swaps: the class judges an exchange -/
section GAIN
variable {B M : Mem} {known : Int}
theorem c_gain {L : Nat → Int} {a b : Nat} (H : JP B known M) (ha : a < nK B) (hb : b < nK B) (hab : a ≠ b) (h1 : ∀ c, c < nK B → M 1 c = L c) (hL : PB B L) (hg : ∀ k, k < 3 → gIs B (M 2 k) (GP B L k)) : Okk (f_X10_bettersBoth a b M) (fun q => isB q.1 (gainS B known L a b) ∧ (∀ c i, c ≠ 2 → q.2 c i = M c i) ∧ ∀ k, k < 3 → gIs B (q.2 2 k) (GP B L k)) := by
  have h14 := H.c.1.n14
  have hk3 := H.c.1.k
  have hk23 := H.c.1.k23
  have no : ¬ gainS B known L a b → Okk (some (0, M) : Option Res) (fun q => isB q.1 (gainS B known L a b) ∧ (∀ c i, c ≠ 2 → q.2 c i = M c i) ∧ ∀ k, k < 3 → gIs B (q.2 2 k) (GP B L k)) := fun h => ok_some ⟨Or.inr ⟨rfl, h⟩, fun _ _ _ => rfl, hg⟩
  unfold f_X10_bettersBoth
  rw [toN, toN, h1 a ha, h1 b hb]
  refine ok_gd (by omega) (ok_lt (ok_gd (by omega) (ok_lt (ok_ite (fun h => no (fun w => w.1 h)) (fun q1 => ok_ite (fun h => no (fun w => w.2.1 h)) (fun q2 => ok_ite (fun h => no (fun w => w.2.2.1 h)) (fun q3 => ok_lt ?_)))))))
  have ba := hL a ha
  have bb := hL b hb
  obtain ⟨ka, hka⟩ : ∃ k : Nat, L a = (k : Int) := ⟨(L a).toNat, by omega⟩
  obtain ⟨kb, hkb⟩ : ∃ k : Nat, L b = (k : Int) := ⟨(L b).toNat, by omega⟩
  have k3 : ka < 3 := by omega
  have k4 : kb < 3 := by omega
  have hne : ka ≠ kb := by omega
  rw [hka, hkb, toN, toN]
  have sa : servedS B L a = servedG B (GP B L ka) a := served_pg H.c.1 ha hka
  have sb : servedS B L b = servedG B (GP B L kb) b := served_pg H.c.1 hb hkb
  have ta : servedS B (swL L a b) a = servedG B (GP B (swL L a b) kb) a := served_pg H.c.1 ha (by rw [swL_a]; exact hkb)
  have tb : servedS B (swL L a b) b = servedG B (GP B (swL L a b) ka) b := served_pg H.c.1 hb (by rw [swL_b hab]; exact hka)
  refine ok_gd (by omega) (ok_e (c_bestWish H.c ha (hg ka k3).1) (ok_gd (by omega) (ok_e (c_bestWish H.c hb (hg kb k4).1) (ok_gd (by omega) (ok_gd (by omega) (ok_lt ?_))))))
  rw [← sa, ← sb]
  have over := c_back (M := M) (s := 0) (Or.inl rfl) h14 ha hb hab hka hkb hne k3 k4 hg
  unfold f_X10_bettersBoth_j157 at over
  rw [toN, toN] at over
  obtain ⟨M2, e2, f2, v2⟩ := mup_gen M 2 ka (bxor (M 2 ka) (bor (bshl 1 (a : Int)) (bshl 1 (b : Int))))
  rw [e2] at over ⊢
  refine ok_gd (by omega) (ok_gd (by omega) (ok_lt ?_))
  obtain ⟨M3, e3, f3, v3⟩ := mup_gen M2 2 kb (bxor (M2 2 kb) (bor (bshl 1 (a : Int)) (bshl 1 (b : Int))))
  have g3 : (∀ c i, c ≠ 2 → M3 c i = M c i) ∧ ∀ k, k < 3 → gIs B (M3 2 k) (GP B (swL L a b) k) := by
    unfold gd lt at over
    dsimp only at over
    rw [e3, if_pos (by omega), if_pos (by omega), if_pos (by omega), if_pos (by omega), if_pos (by unfold isZ; omega)] at over
    obtain ⟨q, e, _, x, y⟩ := over
    cases e
    exact ⟨x, y⟩
  clear over
  rw [e3]
  have H3 : JP B known M3 := H.fr (fun c i q => g3.1 c i (by unfold isC at q; omega))
  have back : ∀ r : Int, isB r (gainS B known L a b) → Okk (f_X10_bettersBoth_j157 ka kb (bor (bshl 1 (a : Int)) (bshl 1 (b : Int))) r M3) (fun q => isB q.1 (gainS B known L a b) ∧ (∀ c i, c ≠ 2 → q.2 c i = M c i) ∧ ∀ k, k < 3 → gIs B (q.2 2 k) (GP B L k)) := fun r hr => by
    have hr01 : r = 0 ∨ r = 1 := by
      rcases hr with w | w
      · exact Or.inr w.1
      · exact Or.inl w.1
    refine ok_mono (c_back2 (L := swL L a b) hr01 h14 ha hb hab (by rw [swL_a]; exact hkb) (by rw [swL_b hab]; exact hka) hne k3 k4 g3.2) (fun q hq => ⟨by rw [hq.1]; exact hr, fun c i w => by rw [hq.2.1 c i w, g3.1 c i w], fun k hk => ?_⟩)
    have e := hq.2.2 k hk
    rw [swL_sw hab] at e
    exact e
  refine ok_gd (by omega) (ok_e (c_bestWish H3.c ha (g3.2 kb k4).1) ?_)
  rw [← ta]
  refine ok_ite (fun h => back 0 (Or.inr ⟨rfl, fun w => by have := w.2.2.2.1; omega⟩)) (fun h4 => ?_)
  refine ok_gd (by omega) (ok_e (c_bestWish H3.c hb (g3.2 ka k3).1) ?_)
  rw [← tb]
  refine ok_ite (fun h => back 0 (Or.inr ⟨rfl, fun w => by have := w.2.2.2.2.1; omega⟩)) (fun h5 => ?_)
  have PBs := PB_sw hL ha hb hab
  refine ok_obn (c_allows H3 (by decide +kernel) (G := GP B (swL L a b)) (fun k hk => g3.2 k (by omega))) (fun r hr => ?_)
  have sp := sound_pg (known := known) H.c.1 PBs
  have lp := lack_pg (B := B) (known := known) (P := swL L a b)
  refine ok_ite (fun h => back 0 (Or.inr ⟨rfl, fun w => ?_⟩)) (fun h6 => back 1 (Or.inl ⟨rfl, q1, q2, q3, by omega, by omega, ?_⟩))
  · rcases hr with hr | hr
    · omega
    · exact hr.2 ⟨sp.mp w.2.2.2.2.2.1, by rw [← lp]; exact w.2.2.2.2.2.2⟩
  · rcases hr with hr | hr
    · exact ⟨sp.mpr hr.2.1, by rw [lp]; exact hr.2.2⟩
    · exact absurd hr.1 h6
end GAIN
