/-! what holds between calls holds again after day -/
theorem nF_day {c i : Nat} (q : isF c i) : ¬ ((c = 0 ∧ (i = 13 ∨ i = 16)) ∨ (c = 57 ∧ i = 0) ∨ (58 ≤ c ∧ c ≤ 61) ∨ (116 ≤ c ∧ c ≤ 119) ∨ (c = 80 ∧ (i = 0 ∨ i = 14 ∨ i = 56))) := by
  intro z
  unfold isF at q
  rcases z with z | z | z | z | z <;> omega
theorem nX_day {c i : Nat} (q : isX2 c i) : ¬ ((c = 0 ∧ (i = 13 ∨ i = 16)) ∨ (c = 57 ∧ i = 0) ∨ (58 ≤ c ∧ c ≤ 61) ∨ (116 ≤ c ∧ c ≤ 119) ∨ (c = 80 ∧ (i = 0 ∨ i = 14 ∨ i = 56))) := by
  intro z
  unfold isX2 at q
  rcases z with z | z | z | z | z <;> omega
theorem up_day {M M' : Mem} {v : Int} (hv : M 80 14 ≤ v ∧ v ≤ 100000) (I : Inv M) (hf : ∀ c i, ¬ ((c = 0 ∧ (i = 13 ∨ i = 16)) ∨ (c = 57 ∧ i = 0) ∨ (58 ≤ c ∧ c ≤ 61) ∨ (116 ≤ c ∧ c ≤ 119) ∨ (c = 80 ∧ (i = 0 ∨ i = 14 ∨ i = 56))) → M' c i = M c i) (h13 : M' 0 13 = v) (h14' : M' 80 14 = v) (h16 : M' 0 16 = 0) (h57 : A8 M') (h58 : eqp 58 116 M') (h59 : eqp 59 118 M') (h60 : eqp 60 117 M') (h61 : eqp 61 119 M') : Inv M' := by
  have hn := I.1.n
  have h14 := I.1.n14
  have fM : Fa M' := ⟨(by have q := I.1.a1; unfold A1 at q ⊢; simp (disch := omega) only [hf]; exact q), (by have q := I.1.a2; unfold A2 at q ⊢; simp (disch := omega) only [hf]; exact q), (by
    have q := I.1.a3
    unfold A3 at q ⊢
    rw [h13, h14']; omega), (by have q := I.1.a4; unfold A4 at q ⊢; simp (disch := omega) only [hf]; exact q), (fun c hc => by
    rw [hf 80 1 (by omega)] at hc
    have q := I.1.c1 c hc
    rw [hf 81 c (by omega), hf 82 c (by omega), hf 83 c (by omega), hf 84 c (by omega), h14']
    refine ⟨q.1, q.2.1, q.2.2.1, ⟨q.2.2.2.1.1, Int.le_trans q.2.2.2.1.2 hv.1⟩, fun d hcd hd => ?_⟩
    rw [hf 80 1 (by omega)] at hd
    rw [hf 84 d (by omega)]
    exact q.2.2.2.2 d hcd hd), (by have q := I.1.c2; unfold C2a at q ⊢; simp (disch := omega) only [hf]; exact q), (by have q := I.1.c3; unfold C3 at q ⊢; simp (disch := omega) only [hf]; exact q), (by have q := I.1.c4; unfold C4 at q ⊢; simp (disch := omega) only [hf]; exact q), (by have q := I.1.c5; unfold C5 at q ⊢; simp (disch := omega) only [hf]; exact q), (fun i hi => by
    rw [hf 80 15 (by omega)] at hi
    have q := I.1.c6 i hi
    rw [hf 92 i (by omega), hf 93 i (by omega), hf 94 i (by omega), hf 95 i (by omega), hf 96 i (by omega), hf 80 1 (by omega), h14']
    exact ⟨q.1, q.2.1, q.2.2.1, q.2.2.2.1, q.2.2.2.2.1, Int.le_trans q.2.2.2.2.2 hv.1⟩), (by have q := I.1.d1; unfold D1 bitsAre at q ⊢; simp (disch := omega) only [hf]; exact q), (by have q := I.1.d2; unfold D1 bitsAre at q ⊢; simp (disch := omega) only [hf]; exact q), (by have q := I.1.d3; unfold D2 bitsAre at q ⊢; simp (disch := omega) only [hf]; exact q), (by have q := I.1.d4; unfold D3 at q ⊢; simp (disch := omega) only [hf]; exact q), (by have q := I.1.d5; unfold D3 at q ⊢; simp (disch := omega) only [hf]; exact q), (by have q := I.1.d6; unfold D4 at q ⊢; simp (disch := omega) only [hf]; exact q), (by have hru := I.1.r1.1; unfold isRu at hru; have q := I.1.r1; unfold R1 at q ⊢; simp (disch := omega) only [hf]; exact q), (by have hru := I.1.r1.1; unfold isRu at hru; have q := I.1.r2; unfold R2 stIs at q ⊢; simp (disch := omega) only [hf]; exact q), (fun i => by rw [hf 4 i (by omega), hf 81 i (by omega)]; exact I.1.e4 i), (fun i => by rw [hf 5 i (by omega), hf 82 i (by omega)]; exact I.1.e5 i), (fun i => by rw [hf 6 i (by omega), hf 83 i (by omega)]; exact I.1.e6 i), (fun i => by rw [hf 7 i (by omega), hf 84 i (by omega)]; exact I.1.e7 i), (fun i => by rw [hf 8 i (by omega), hf 85 i (by omega)]; exact I.1.e8 i), (fun i => by rw [hf 9 i (by omega), hf 86 i (by omega)]; exact I.1.e9 i), (fun i => by rw [hf 13 i (by omega), hf 87 i (by omega)]; exact I.1.e13 i), (fun i => by rw [hf 16 i (by omega), hf 91 i (by omega)]; exact I.1.e16 i), (fun i => by rw [hf 18 i (by omega), hf 92 i (by omega)]; exact I.1.e18 i), (fun i => by rw [hf 19 i (by omega), hf 93 i (by omega)]; exact I.1.e19 i), (fun i => by rw [hf 20 i (by omega), hf 94 i (by omega)]; exact I.1.e20 i), (fun i => by rw [hf 21 i (by omega), hf 95 i (by omega)]; exact I.1.e21 i), (fun i => by rw [hf 22 i (by omega), hf 96 i (by omega)]; exact I.1.e22 i)⟩
  have fe : FE M M' := fun c i q => hf c i (nF_day q)
  exact ⟨fM, ⟨(by have q := I.2.1.o5; unfold A5 at q ⊢; simp (disch := omega) only [hf]; exact q), (by have q := I.2.1.o6; unfold A6 at q ⊢; simp (disch := omega) only [hf]; exact q), (by have q := I.2.1.o7; unfold A7 at q ⊢; simp (disch := omega) only [hf]; exact q), (h57), (by have q := I.2.1.o9; unfold A9 at q ⊢; simp (disch := omega) only [hf]; exact q), (by have q := I.2.1.o10; unfold A10 at q ⊢; simp (disch := omega) only [hf]; exact q), (by have q := I.2.1.c7; unfold C7 at q ⊢; simp (disch := omega) only [hf]; exact q), (by have q := I.2.1.t1; unfold T1 at q ⊢; simp (disch := omega) only [hf]; exact q), (by have q := I.2.1.ls; unfold Ls at q ⊢; simp (disch := omega) only [hf]; exact q), (by have q := I.2.1.wd; unfold Wd at q ⊢; simp (disch := omega) only [hf]; exact q), (fun i => by rw [hf 14 i (by omega), hf 114 i (by omega)]; exact I.2.1.e14 i), (fun i => by rw [hf 15 i (by omega), hf 115 i (by omega)]; exact I.2.1.e15 i), (fun i => by rw [hf 1 i (by omega), hf 110 i (by omega)]; exact I.2.1.e1 i), (fun i => by rw [hf 52 i (by omega), hf 112 i (by omega)]; exact I.2.1.e52 i), (h58), (h59), (h60), (h61), (by have q := I.2.1.z1; unfold Zb at q ⊢; simp (disch := omega) only [hf]; exact q)⟩, Or.inl h16, I.2.2.2.congr I.1 fM fe (by rw [h14']; exact hv.1) (fun c i q => hf c i (nX_day q))⟩
