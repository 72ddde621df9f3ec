/-! lie: the wishes are one only, for a while -/
def lib (M : Mem) (c p : Nat) : Mem := fun x i => if (x = 9 ∨ x = 86) ∧ i / 3 = c ∧ i % 3 ≠ p then -1 else if (x = 0 ∧ i = 16) ∨ (x = 80 ∧ i = 43) then 0 else M x i
section LIB
variable {M : Mem} {c p : Nat}
theorem lib_o {x i : Nat} (h : ¬ ((x = 9 ∨ x = 86) ∧ i / 3 = c ∧ i % 3 ≠ p)) (h2 : ¬ ((x = 0 ∧ i = 16) ∨ (x = 80 ∧ i = 43))) : lib M c p x i = M x i := by
  unfold lib; rw [if_neg h, if_neg h2]
theorem lib_w {x i : Nat} (h : (x = 9 ∨ x = 86) ∧ i / 3 = c ∧ i % 3 ≠ p) : lib M c p x i = -1 := if_pos h
theorem lib_0 {x i : Nat} (h2 : (x = 0 ∧ i = 16) ∨ (x = 80 ∧ i = 43)) : lib M c p x i = 0 := by
  unfold lib; rw [if_neg (by omega), if_pos h2]
def li1 (M : Mem) (c p : Nat) : Mem := fun x i => if (x = 9 ∨ x = 86) ∧ i = 3 * c + p then -1 else if (x = 0 ∧ i = 16) ∨ (x = 80 ∧ i = 43) then 0 else M x i
theorem li1_inv (I : Inv M) (hc : c < nK M) (hp : p < 3) : Inv (li1 M c p) := by
  refine up_wish (v := -1) hc hp I (fun x i q => ?_) ?_ ?_ (Or.inl rfl) ?_ ?_
  · show (if _ then _ else if _ then _ else _) = _
    rw [if_neg (by omega), if_neg (by omega)]
  · exact if_pos ⟨Or.inl rfl, rfl⟩
  · exact if_pos ⟨Or.inr rfl, rfl⟩
  · show (if _ then _ else if _ then _ else _) = _
    rw [if_neg (by omega), if_pos (Or.inl ⟨rfl, rfl⟩)]
  · show (if _ then _ else if _ then _ else _) = _
    rw [if_neg (by omega), if_pos (Or.inr ⟨rfl, rfl⟩)]
theorem lib_inv (I : Inv M) (hc : c < nK M) (hp : p < 3) : Inv (lib M c p) := by
  obtain ⟨a, b, ha, hb, hab, hpa, hpb⟩ : ∃ a b : Nat, a < 3 ∧ b < 3 ∧ a ≠ b ∧ a ≠ p ∧ b ≠ p := by
    rcases (by omega : p = 0 ∨ p = 1 ∨ p = 2) with rfl | rfl | rfl
    · exact ⟨1, 2, by omega, by omega, by omega, by omega, by omega⟩
    · exact ⟨0, 2, by omega, by omega, by omega, by omega, by omega⟩
    · exact ⟨0, 1, by omega, by omega, by omega, by omega, by omega⟩
  have I1 := li1_inv I hc ha
  have hn : nK (li1 M c a) = nK M := by
    unfold nK
    exact congrArg Int.toNat (show (if _ then _ else if _ then _ else _) = _ by rw [if_neg (by omega), if_neg (by omega)])
  have I2 := li1_inv (c := c) (p := b) I1 (by rw [hn]; exact hc) hb
  have e : li1 (li1 M c a) c b = lib M c p := by
    funext x i
    show (if _ then _ else if _ then _ else (if _ then _ else if _ then _ else _)) = (if _ then _ else if _ then _ else _)
    by_cases z : (x = 0 ∧ i = 16) ∨ (x = 80 ∧ i = 43)
    · rw [if_neg (by omega), if_pos z, if_neg (by omega), if_pos z]
    · rw [if_neg z, if_neg z]
      by_cases y : (x = 9 ∨ x = 86) ∧ i / 3 = c ∧ i % 3 ≠ p
      · rw [if_pos y]
        by_cases w : (x = 9 ∨ x = 86) ∧ i = 3 * c + b
        · rw [if_pos w]
        · rw [if_neg w, if_pos (by omega)]
      · rw [if_neg (by omega), if_neg (by omega), if_neg y]
  rw [← e]; exact I2
end LIB
