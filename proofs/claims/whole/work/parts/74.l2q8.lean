/-! the model's functions don't see the class's cells -/
def ov (L M : Mem) : Mem := fun c i => if c < 80 then L c i else M c i
theorem ov_hi {L M : Mem} {c i : Nat} (h : 80 ≤ c) : ov L M c i = M c i := if_neg (by omega)
theorem ov_lo {L M : Mem} {c i : Nat} (h : c < 80) : ov L M c i = L c i := if_pos h
theorem ov_mup {L M : Mem} {c i : Nat} {v : Int} (h : 80 ≤ c) : mup (ov L M) c i v = ov L (mup M c i v) := by
  obtain ⟨M1, e1, f1, v1⟩ := mup_gen (ov L M) c i v
  obtain ⟨M2, e2, f2, v2⟩ := mup_gen M c i v
  rw [e1, e2]
  funext c' i'
  by_cases z : c' < 80
  · rw [ov_lo z, f1 c' i' (by omega), ov_lo z]
  · rw [ov_hi (by omega)]
    by_cases y : c' = c ∧ i' = i
    · rw [y.1, y.2, v1, v2]
    · rw [f1 c' i' y, f2 c' i' y, ov_hi (by omega)]
theorem ov_eq {L M : Mem} (h : ∀ c i, c < 80 → M c i = L c i) : ov L M = M := by
  funext c i
  by_cases z : c < 80
  · rw [ov_lo z, h c i z]
  · exact ov_hi (by omega)
abbrev oI (L : Mem) : (Int × Mem) ⊕ (Int × Mem) → (Int × Mem) ⊕ (Int × Mem)
  | .inl s => .inl (s.1, ov L s.2)
  | .inr s => .inr (s.1, ov L s.2)
theorem ovw {L : Mem} {step step' : Int × Mem → Option ((Int × Mem) ⊕ (Int × Mem))} (h : ∀ v M o, step (v, M) = some o → step' (v, ov L M) = some (oI L o)) : ∀ (N : Nat) (s r : Int × Mem), whl step N s = some r → whl step' N (s.1, ov L s.2) = some (r.1, ov L r.2) := by
  intro N
  induction N with
  | zero => intro s r h0; exact absurd h0 (by unfold whl; simp)
  | succ N ih =>
    intro s r h0
    obtain ⟨v, M⟩ := s
    unfold whl at h0 ⊢
    cases e : step (v, M) with
    | none => rw [e] at h0; exact absurd h0 (by simp)
    | some o =>
      rw [e] at h0
      rw [h v M o e]
      match o, h0 with
      | .inl s', h0 => exact ih s' r h0
      | .inr r', h0 => cases h0; rfl
theorem sp_gd {α : Type} {p : Prop} {_ : Decidable p} {x : Option α} {o : α} (h : gd p x = some o) : p ∧ x = some o := by
  unfold gd at h
  by_cases z : p
  · rw [if_pos z] at h; exact ⟨z, h⟩
  · rw [if_neg z] at h; exact absurd h (by simp)
section OV
variable {L : Mem}
theorem ov_looks10 (v : Int) (M : Mem) (o : (Int × Mem) ⊕ (Int × Mem)) (h : f_X11_looks_s10 v M = some o) : f_X11_looks_s10 v (ov L M) = some (oI L o) := by
  unfold f_X11_looks_s10 at h ⊢
  simp (disch := decide) only [ov_hi, lt, ov_mup] at h ⊢
  by_cases z : M 80 1 ≤ v
  · rw [if_pos z] at h ⊢; cases h; rfl
  · rw [if_neg z] at h ⊢
    have a := sp_gd h
    have b := sp_gd a.2
    rw [gd_pos _ a.1, gd_pos _ b.1]
    cases b.2; rfl
theorem ov_tog (a b d : Int) (M : Mem) : f_X11_together a b d (ov L M) = f_X11_together a b d M := rfl
theorem ov_five (a : Int) (M : Mem) : f_X11_orFive a (ov L M) = f_X11_orFive a M := rfl
theorem ov_allHold (a b : Int) (M : Mem) : f_X11_allHold a b (ov L M) = f_X11_allHold a b M := rfl
theorem ov_servedIn (a : Int) (M : Mem) : f_X11_servedIn a (ov L M) = f_X11_servedIn a M := rfl
theorem ov_listed (M : Mem) : f_X11_listed (ov L M) = f_X11_listed M := rfl
theorem ov_bestWish (a b : Int) (A M : Mem) : f_X1_bestWish a b (fun c i => if c = 8 ∨ c = 13 then A c i else M c i) = f_X1_bestWish a b M := rfl
theorem ov_wishesOf (a : Int) (M : Mem) : f_X11_wishesOf a (ov L M) = f_X11_wishesOf a M := rfl
theorem ov_namedBy (a : Int) (M : Mem) : f_X11_namedBy a (ov L M) = f_X11_namedBy a M := rfl
theorem ov_learns2 (v1 v : Int) (M : Mem) (o : (Int × Mem) ⊕ (Int × Mem)) (h : f_X11_learns_s2 v1 v M = some o) : f_X11_learns_s2 v1 v (ov L M) = some (oI L o) := by
  unfold f_X11_learns_s2 at h ⊢
  simp (disch := decide) only [ov_hi, lt, ov_mup, ov_tog, ov_five, ov_wishesOf, ov_namedBy] at h ⊢
  by_cases z : M 80 1 ≤ v
  · rw [if_pos z] at h ⊢; cases h; rfl
  · rw [if_neg z] at h ⊢
    obtain ⟨g, h⟩ := sp_gd h
    rw [gd_pos _ g]
    clear g
    obtain ⟨g, h⟩ := sp_gd h
    rw [gd_pos _ g]
    clear g
    obtain ⟨g, h⟩ := sp_gd h
    rw [gd_pos _ g]
    clear g
    obtain ⟨g, h⟩ := sp_gd h
    rw [gd_pos _ g]
    clear g
    obtain ⟨r, e, h⟩ := obn_some h
    rw [e, obn_s]
    obtain ⟨r, e, h⟩ := obn_some h
    rw [e, obn_s]
    obtain ⟨g, h⟩ := sp_gd h
    rw [gd_pos _ g]
    clear g
    obtain ⟨r, e, h⟩ := obn_some h
    rw [e, obn_s]
    obtain ⟨r, e, h⟩ := obn_some h
    rw [e, obn_s]
    obtain ⟨g, h⟩ := sp_gd h
    rw [gd_pos _ g]
    clear g
    obtain ⟨g, h⟩ := sp_gd h
    rw [gd_pos _ g]
    clear g
    obtain ⟨g, h⟩ := sp_gd h
    rw [gd_pos _ g]
    clear g
    obtain ⟨r, e, h⟩ := obn_some h
    rw [e, obn_s]
    obtain ⟨g, h⟩ := sp_gd h
    rw [gd_pos _ g]
    clear g
    obtain ⟨r, e, h⟩ := obn_some h
    rw [e, obn_s]
    obtain ⟨g, h⟩ := sp_gd h
    rw [gd_pos _ g]
    clear g
    cases h; rfl
theorem ov_learns154 (v2 v : Int) (M : Mem) (o : (Int × Mem) ⊕ (Int × Mem)) (h : f_X11_learns_s154 v2 v M = some o) : f_X11_learns_s154 v2 v (ov L M) = some (oI L o) := by
  unfold f_X11_learns_s154 at h ⊢
  simp (disch := decide) only [ov_hi, lt, ov_mup, ov_allHold] at h ⊢
  by_cases z : M 80 1 ≤ v
  · rw [if_pos z] at h ⊢; cases h; rfl
  · rw [if_neg z] at h ⊢
    obtain ⟨g, h⟩ := sp_gd h
    rw [gd_pos _ g]
    by_cases y : M 100 v2.toNat = -1
    · rw [if_pos y] at h ⊢
      obtain ⟨g2, h⟩ := sp_gd h
      rw [gd_pos _ g2]
      cases h; rfl
    · rw [if_neg y] at h ⊢
      obtain ⟨r, e, h⟩ := obn_some h
      rw [e, obn_s]
      by_cases x : r = 0
      · rw [if_pos x] at h ⊢
        obtain ⟨g2, h⟩ := sp_gd h
        rw [gd_pos _ g2]
        cases h; rfl
      · rw [if_neg x] at h ⊢
        obtain ⟨g2, h⟩ := sp_gd h
        rw [gd_pos _ g2]
        cases h; rfl
theorem ov_l2 {v1 v : Int} {M : Mem} {r : Int × Mem} (h : f_X11_learns_l2 v1 v M = some r) : f_X11_learns_l2 v1 v (ov L M) = some (r.1, ov L r.2) :=
  ovw (L := L) (step := fun s => f_X11_learns_s2 v1 s.1 s.2) (step' := fun s => f_X11_learns_s2 v1 s.1 s.2) (fun v M o h => ov_learns2 v1 v M o h) FU (v, M) r h
theorem ov_l154 {v2 v : Int} {M : Mem} {r : Int × Mem} (h : f_X11_learns_l154 v2 v M = some r) : f_X11_learns_l154 v2 v (ov L M) = some (r.1, ov L r.2) :=
  ovw (L := L) (step := fun s => f_X11_learns_s154 v2 s.1 s.2) (step' := fun s => f_X11_learns_s154 v2 s.1 s.2) (fun v M o h => ov_learns154 v2 v M o h) FU (v, M) r h
theorem ov_learns142 (v : Int) (M : Mem) (o : (Int × Mem) ⊕ (Int × Mem)) (h : f_X11_learns_s142 v M = some o) : f_X11_learns_s142 v (ov L M) = some (oI L o) := by
  unfold f_X11_learns_s142 at h ⊢
  rw [ov_hi (by decide)]
  by_cases z : wrap (2 * M 80 21) ≤ v
  · rw [if_pos z] at h ⊢; cases h; rfl
  · rw [if_neg z] at h ⊢
    obtain ⟨r, e, h⟩ := obn_some h
    rw [ov_l154 e, obn_s]
    unfold f_X11_learns_j203k142 at h ⊢
    cases h; rfl
theorem ov_l142 {v : Int} {M : Mem} {r : Int × Mem} (h : f_X11_learns_l142 v M = some r) : f_X11_learns_l142 v (ov L M) = some (r.1, ov L r.2) :=
  ovw (L := L) (step := fun s => f_X11_learns_s142 s.1 s.2) (step' := fun s => f_X11_learns_s142 s.1 s.2) (fun v M o h => ov_learns142 v M o h) FU (v, M) r h
theorem ov_l10 {v : Int} {M : Mem} {r : Int × Mem} (h : f_X11_looks_l10 v M = some r) : f_X11_looks_l10 v (ov L M) = some (r.1, ov L r.2) :=
  ovw (L := L) (step := fun s => f_X11_looks_s10 s.1 s.2) (step' := fun s => f_X11_looks_s10 s.1 s.2) (fun v M o h => ov_looks10 v M o h) FU (v, M) r h
theorem ov_learns {p : Int} {M M' : Mem} (h : f_X11_learns p M = some M') : f_X11_learns p (ov L M) = some (ov L M') := by
  unfold f_X11_learns at h ⊢
  obtain ⟨r, e, h⟩ := obn_some h
  rw [ov_l2 e, obn_s]
  unfold f_X11_learns_j140 at h ⊢
  obtain ⟨r2, e2, h⟩ := obn_some h
  rw [ov_l142 e2, obn_s]
  unfold f_X11_learns_j209 at h ⊢
  cases h; rfl
theorem ov_looks {M M' : Mem} (h : f_X11_looks M = some M') : f_X11_looks (ov L M) = some (ov L M') := by
  unfold f_X11_looks at h ⊢
  obtain ⟨r, e, h⟩ := obn_some h
  rw [ov_hi (by decide), ov_learns e, obn_s]
  obtain ⟨r2, e2, h⟩ := obn_some h
  rw [ov_l10 e2, obn_s]
  unfold f_X11_looks_j36 at h ⊢
  cases h; rfl
end OV
