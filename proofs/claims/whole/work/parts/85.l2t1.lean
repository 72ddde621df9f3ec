/-! swaps -/
section SWAPS
variable {B M : Mem} {known : Int}
theorem swL_congr {L K : Nat → Int} {n a b : Nat} (ha : a < n) (hb : b < n) (h : ∀ c, c < n → L c = K c) : ∀ c, c < n → swL L a b c = swL K a b c := fun c hc => by
  unfold swL
  rw [h a ha, h b hb, h c hc]
theorem gain_imp {L K : Nat → Int} {a b : Nat} (hF : Fa B) (ha : a < nK B) (hb : b < nK B) (hab : a ≠ b) (hL : PB B L) (hK : PB B K) (h : ∀ c, c < nK B → L c = K c) (w : gainS B known L a b) : gainS B known K a b := by
  obtain ⟨w1, w2, w3, w4, w5, w6, w7⟩ := w
  have ea := h a ha
  have eb := h b hb
  have ba := hL a ha
  have bb := hL b hb
  obtain ⟨ka, hka⟩ : ∃ k : Nat, L a = (k : Int) := ⟨(L a).toNat, by omega⟩
  obtain ⟨kb, hkb⟩ : ∃ k : Nat, L b = (k : Int) := ⟨(L b).toNat, by omega⟩
  have eG := GP_congr (B := B) h
  have eS := GP_congr (B := B) (swL_congr (a := a) (b := b) ha hb h)
  have s1 : servedS B L a = servedS B K a := by rw [served_pg hF ha hka, served_pg (P := K) hF ha (by rw [← ea]; exact hka), eG]
  have s2 : servedS B L b = servedS B K b := by rw [served_pg hF hb hkb, served_pg (P := K) hF hb (by rw [← eb]; exact hkb), eG]
  have s3 : servedS B (swL L a b) a = servedS B (swL K a b) a := by rw [served_pg (P := swL L a b) hF ha (k := kb) (by rw [swL_a]; exact hkb), served_pg (P := swL K a b) hF ha (k := kb) (by rw [swL_a, ← eb]; exact hkb), eS]
  have s4 : servedS B (swL L a b) b = servedS B (swL K a b) b := by rw [served_pg (P := swL L a b) hF hb (k := ka) (by rw [swL_b hab]; exact hka), served_pg (P := swL K a b) hF hb (k := ka) (by rw [swL_b hab, ← ea]; exact hka), eS]
  refine ⟨by rw [← ea]; exact w1, by rw [← eb]; exact w2, by rw [← ea, ← eb]; exact w3, by rw [← s3, ← s1]; exact w4, by rw [← s4, ← s2]; exact w5, ?_, ?_⟩
  · have q := (sound_pg (known := known) hF (PB_sw hL ha hb hab)).mp w6
    rw [eS] at q
    exact (sound_pg (known := known) hF (PB_sw hK ha hb hab)).mpr q
  · rw [lack_pg] at w7 ⊢
    rw [← eS]; exact w7
/-- the gains of THE LIST -/
noncomputable def gnB (M : Mem) (a b : Nat) : Bool := @decide (gainS M (M 80 14) (lsP M) a b) (Classical.propDecidable _)
theorem gnB_iff {a b : Nat} : gnB M a b = true ↔ gainS M (M 80 14) (lsP M) a b := @decide_eq_true_iff _ (Classical.propDecidable _)
/-- memories in which the class may go on to judge -/
def GdC (M M1 N : Mem) : Prop := JP M (M 80 14) N ∧ (∀ c i, c ≠ 2 → N c i = M1 c i) ∧ ∀ k, k < 3 → gIs M (N 2 k) (GP M (lsP M) k)
def GdM (M M1 N : Mem) : Prop := LR M (M 80 14) N ∧ (∀ c i, c ≠ 108 → N c i = M1 c i) ∧ planOf N = planOf M1
theorem gdc_step (I : Inv M) {M1 : Mem} (h1 : ∀ c, M1 1 c = M 110 c) : ∀ N, GdC M M1 N → ∀ a b : Nat, a < b → b < nK M → Okk (f_X10_bettersBoth a b N) (fun q => isB q.1 (gnB M a b = true) ∧ GdC M M1 q.2) := fun N hN a b hab hb => by
  refine ok_mono (c_gain (L := lsP M) hN.1 (by omega) hb (by omega) (fun c _ => by rw [hN.2.1 1 c (by omega)]; exact h1 c) I.pb hN.2.2) (fun q hq => ⟨?_, hN.1.fr (fun c i w => hq.2.1 c i (by unfold isC at w; omega)), fun c i w => by rw [hq.2.1 c i w]; exact hN.2.1 c i w, hq.2.2⟩)
  rcases hq.1 with w | w
  · exact Or.inl ⟨w.1, gnB_iff.mpr w.2⟩
  · exact Or.inr ⟨w.1, fun y => w.2 (gnB_iff.mp y)⟩
theorem gdm_step (I : Inv M) {M1 : Mem} (hp : ∀ c, c < nK M → planOf M1 c = M 110 c) (hb : PB M (planOf M1)) : ∀ N, GdM M M1 N → ∀ a b : Nat, a < b → b < nK M → Okk (f_X11_isGain a b N) (fun q => isB q.1 (gnB M a b = true) ∧ GdM M M1 q.2) := fun N hN a b hab hb2 => by
  refine ok_mono (m_gain (L := planOf M1) hN.1 (by omega) hb2 (by omega) hN.2.2 hb) (fun q hq => ⟨?_, hN.1.fr (fun c i w => hq.2.1 c i (by unfold isFa at w; omega)), fun c i w => by rw [hq.2.1 c i w]; exact hN.2.1 c i w, hq.2.2⟩)
  rcases hq.1 with w | w
  · exact Or.inl ⟨w.1, gnB_iff.mpr (gain_imp I.1 (by omega) hb2 (by omega) hb I.pb hp w.2)⟩
  · exact Or.inr ⟨w.1, fun y => w.2 (gain_imp I.1 (by omega) hb2 (by omega) I.pb hb (fun c hc => (hp c hc).symm) (gnB_iff.mp y))⟩
end SWAPS
