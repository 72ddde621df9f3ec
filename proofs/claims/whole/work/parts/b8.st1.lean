/-! the start -/
def M0 : Mem := fun c i => if c = 0 then (if i = 11 then 62 else if i = 12 then 71 else if i = 15 then (-1) else 0) else if c = 3 then (if i = 13 then 2 else 0) else if c = 29 then (if i = 1 then (-1) else if i = 3 then (-1) else 0) else if c = 30 then (if i = 2 then (-1) else 0) else if c = 80 then (if i = 12 then 2 else if i = 34 then (-1) else if i = 48 then (-1) else 0) else if c = 1 ∨ c = 9 ∨ c = 14 ∨ c = 15 ∨ c = 61 ∨ c = 86 ∨ c = 110 ∨ c = 114 ∨ c = 115 ∨ c = 119 then (-1) else if c = 16 ∨ c = 91 then 14 else 0
theorem M0_in : inM M0 := by
  intro c i
  unfold M0
  repeat' split
  all_goals exact inL rfl
theorem bits0 : bitsAre 0 (fun _ => 0) := ⟨by decide, by decide, fun b hb => by simp⟩
theorem M0_fa : Fa M0 := by
  have h0 : M0 80 1 = 0 := rfl
  have h1 : M0 80 15 = 0 := rfl
  have h2 : M0 80 21 = 0 := rfl
  refine ⟨⟨by decide, by decide, rfl⟩, ⟨rfl, Or.inl rfl⟩, ⟨rfl, by decide, by decide⟩, ⟨rfl, by decide, by decide⟩, fun c h => ?_, fun c h => ?_, fun k h => ?_, fun a b _ _ => ?_, fun k h => ?_, fun i h => ?_, fun a _ => bits0, fun a _ => bits0, fun k _ => bits0, fun a b _ _ => ?_, fun a b _ _ => ?_, fun c k _ _ => ?_, ⟨Or.inl rfl, Or.inr rfl, by decide, rfl, by decide, by decide⟩, fun s h => ?_, fun _ => rfl, fun _ => rfl, fun _ => rfl, fun _ => rfl, fun _ => rfl, fun _ => rfl, fun _ => rfl, fun _ => rfl, fun _ => rfl, fun _ => rfl, fun _ => rfl, fun _ => rfl, fun _ => rfl⟩
  · exact absurd h (by rw [h0]; omega)
  · have e : M0 85 c = 0 := rfl
    rw [e]
    exact ⟨by decide, fun _ => rfl⟩
  · have e : M0 86 k = -1 := rfl
    rw [e, h0]
    exact ⟨by omega, by omega, by omega, fun _ => rfl⟩
  · have e : ∀ j, M0 87 j = 0 := fun _ => rfl
    rw [e, e]
    exact ⟨by decide, rfl⟩
  · have e : M0 91 k = 14 := rfl
    rw [e]
    decide
  · exact absurd h (by rw [h1]; omega)
  · have e : ∀ j, M0 88 j = 0 := fun _ => rfl
    rw [e, e]
    exact ⟨Or.inl rfl, rfl, fun _ => rfl⟩
  · have e : ∀ j, M0 89 j = 0 := fun _ => rfl
    rw [e, e]
    exact ⟨Or.inl rfl, rfl, fun _ => rfl⟩
  · have e : ∀ j, M0 90 j = 0 := fun _ => rfl
    rw [e]
    exact ⟨Or.inl rfl, fun _ => rfl⟩
  · exact absurd h (by rw [h2]; omega)
theorem M0_ob : Ob M0 := by
  have h0 : M0 80 1 = 0 := rfl
  have h1 : M0 80 12 = 2 := rfl
  have h2 : M0 80 50 = 0 := rfl
  have h3 : M0 80 32 = 0 := rfl
  refine ⟨rfl, rfl, ⟨rfl, by decide, by decide⟩, ⟨rfl, by decide, by decide⟩, ⟨rfl, by decide, by decide⟩, rfl, fun i h => ?_, fun i h => ?_, fun c h => ?_, fun c h => ?_, fun _ => rfl, fun _ => rfl, fun _ => rfl, fun _ => rfl, fun _ => rfl, fun _ => rfl, fun _ => rfl, fun _ => rfl, fun i _ => Or.inl rfl⟩
  · exact absurd h (by rw [h2]; omega)
  · exact absurd h (by rw [h3]; omega)
  · have e : M0 110 c = -1 := rfl
    rw [e, h1]
    exact ⟨by decide, fun _ => rfl⟩
  · have e1 : M0 114 c = -1 := rfl
    have e2 : M0 115 c = -1 := rfl
    rw [e1, e2]
    exact ⟨by decide, by decide, fun _ => ⟨rfl, rfl⟩⟩
theorem M0_inv : Inv M0 := ⟨M0_fa, M0_ob, Or.inl rfl, Or.inl rfl⟩
