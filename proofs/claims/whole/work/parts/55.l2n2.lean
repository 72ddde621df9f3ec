/-! what holds between two calls, all of it -/
def Ls (M : Mem) : Prop := ∀ c : Nat, c < 14 → (-1 ≤ M 110 c ∧ M 110 c < M 80 12) ∧ (M 80 1 ≤ (c : Int) → M 110 c = -1)
def Wd (M : Mem) : Prop := ∀ c : Nat, c < 14 → (-1 ≤ M 114 c ∧ M 114 c ≤ 10) ∧ (-1 ≤ M 115 c ∧ M 115 c ≤ 5) ∧ (M 80 1 ≤ (c : Int) → M 114 c = -1 ∧ M 115 c = -1)
def Zb (M : Mem) : Prop := ∀ i : Nat, i < 256 → isZ (M 101 i)
def szOf (M : Mem) (known : Int) : Nat := (cnt (fun c => M 84 c ≤ known) (nK M)).toNat
abbrev okDay (M : Mem) (known : Int) : Prop := 0 ≤ known ∧ known ≤ M 80 14
abbrev stN : Nat → Int := fun _ => -1
abbrev idN : Nat → Nat := fun i => i
/-- what bestPlan of the class answered -/
def CBok (M : Mem) (known ans : Int) : Prop :=
  (¬ (okDay M known ∧ 0 < szOf M known) ∧ ans = -1) ∨ (okDay M known ∧ 9 < szOf M known ∧ ans = -3) ∨
  (okDay M known ∧ 0 < szOf M known ∧ szOf M known ≤ 9 ∧ (∃ f bm bh, BestLt (okW M known idN (szOf M known)) (mvW stN (szOf M known)) (hmW M known idN (szOf M known)) (nC M) (szOf M known) (nC M ^ szOf M known) f bm bh (fun i => M 47 i) ∧ (f = 0 → ans = -2) ∧ (f = 1 → ans = bh)) ∧ M 35 2 = (szOf M known : Int) ∧ ∀ i, i < szOf M known → M 36 i = (i : Int))
/-- what bests of the model answered -/
def MBok (M : Mem) (known ans : Int) : Prop :=
  (¬ (okDay M known ∧ 0 < szOf M known) ∧ ans = -1) ∨ (okDay M known ∧ 9 < szOf M known ∧ ans = -3) ∨
  (okDay M known ∧ 0 < szOf M known ∧ szOf M known ≤ 9 ∧ (∃ f, MBx M known (szOf M known) idN stN (nC M ^ szOf M known) 0 f M ∧ (f = 0 → ans = -2) ∧ (f = 1 → ans = M 80 45)))
def X1 (M : Mem) : Prop := M 0 16 = 0 ∨ (M 0 16 = 1 ∧ CBok M (M 0 17) (M 0 18))
def X2 (M : Mem) : Prop := M 80 43 = 0 ∨ (okDay M (M 80 44) ∧ 0 < szOf M (M 80 44) ∧ szOf M (M 80 44) ≤ 9 ∧ ∃ f, MBx M (M 80 44) (szOf M (M 80 44)) idN stN (nC M ^ szOf M (M 80 44)) 0 f M)
def Ob (M : Mem) : Prop := A5 M ∧ A6 M ∧ A7 M ∧ A8 M ∧ A9 M ∧ A10 M ∧ C7 M ∧ T1 M ∧ Ls M ∧ Wd M ∧ eqp 14 114 M ∧ eqp 15 115 M ∧ eqp 1 110 M ∧ eqp 52 112 M ∧ eqp 58 116 M ∧ eqp 59 118 M ∧ eqp 60 117 M ∧ eqp 61 119 M ∧ Zb M
theorem Ob.o5 {M : Mem} (h : Ob M) : A5 M := h.1
theorem Ob.o6 {M : Mem} (h : Ob M) : A6 M := h.2.1
theorem Ob.o7 {M : Mem} (h : Ob M) : A7 M := h.2.2.1
theorem Ob.o8 {M : Mem} (h : Ob M) : A8 M := h.2.2.2.1
theorem Ob.o9 {M : Mem} (h : Ob M) : A9 M := h.2.2.2.2.1
theorem Ob.o10 {M : Mem} (h : Ob M) : A10 M := h.2.2.2.2.2.1
theorem Ob.c7 {M : Mem} (h : Ob M) : C7 M := h.2.2.2.2.2.2.1
theorem Ob.t1 {M : Mem} (h : Ob M) : T1 M := h.2.2.2.2.2.2.2.1
theorem Ob.ls {M : Mem} (h : Ob M) : Ls M := h.2.2.2.2.2.2.2.2.1
theorem Ob.wd {M : Mem} (h : Ob M) : Wd M := h.2.2.2.2.2.2.2.2.2.1
theorem Ob.e14 {M : Mem} (h : Ob M) : eqp 14 114 M := h.2.2.2.2.2.2.2.2.2.2.1
theorem Ob.e15 {M : Mem} (h : Ob M) : eqp 15 115 M := h.2.2.2.2.2.2.2.2.2.2.2.1
theorem Ob.e1 {M : Mem} (h : Ob M) : eqp 1 110 M := h.2.2.2.2.2.2.2.2.2.2.2.2.1
theorem Ob.e52 {M : Mem} (h : Ob M) : eqp 52 112 M := h.2.2.2.2.2.2.2.2.2.2.2.2.2.1
theorem Ob.e58 {M : Mem} (h : Ob M) : eqp 58 116 M := h.2.2.2.2.2.2.2.2.2.2.2.2.2.2.1
theorem Ob.e59 {M : Mem} (h : Ob M) : eqp 59 118 M := h.2.2.2.2.2.2.2.2.2.2.2.2.2.2.2.1
theorem Ob.e60 {M : Mem} (h : Ob M) : eqp 60 117 M := h.2.2.2.2.2.2.2.2.2.2.2.2.2.2.2.2.1
theorem Ob.e61 {M : Mem} (h : Ob M) : eqp 61 119 M := h.2.2.2.2.2.2.2.2.2.2.2.2.2.2.2.2.2.1
theorem Ob.z1 {M : Mem} (h : Ob M) : Zb M := h.2.2.2.2.2.2.2.2.2.2.2.2.2.2.2.2.2.2
def Inv (M : Mem) : Prop := Fa M ∧ Ob M ∧ X1 M ∧ X2 M
/-- where it is held -/
def isO (c i : Nat) : Prop := (c = 0 ∧ 14 ≤ i ∧ i ≤ 15) ∨ c = 1 ∨ (14 ≤ c ∧ c ≤ 15) ∨ (c = 24 ∧ i = 0) ∨ c = 25 ∨ (c = 29 ∧ i = 1) ∨ (c = 51 ∧ i = 0) ∨ c = 52 ∨ (c = 57 ∧ i = 0) ∨ (58 ≤ c ∧ c ≤ 61) ∨ (c = 80 ∧ (i = 1 ∨ i = 12 ∨ i = 32 ∨ i = 34 ∨ i = 48 ∨ i = 50 ∨ i = 55 ∨ i = 56)) ∨ c = 101 ∨ c = 105 ∨ c = 110 ∨ c = 112 ∨ (114 ≤ c ∧ c ≤ 119)
theorem Ob.congr {B M : Mem} (hB : Ob B) (h : ∀ c i, isO c i → M c i = B c i) : Ob M := by
  have q := hB
  unfold Ob A5 A6 A7 A8 A9 A10 C7 T1 Ls Wd Zb eqp at q ⊢
  simp (disch := (unfold isO; omega)) only [h]
  exact q
/-- where the best plans are held -/
def isX1 (c i : Nat) : Prop := (c = 0 ∧ 16 ≤ i ∧ i ≤ 18) ∨ (c = 35 ∧ i = 2) ∨ c = 36 ∨ c = 47
def isX2 (c i : Nat) : Prop := (c = 80 ∧ 43 ≤ i ∧ i ≤ 45) ∨ c = 109
theorem fa_fe {B M : Mem} (h : ∀ c i, isFa c i → M c i = B c i) : FE B M := fun c i q => h c i (by unfold isF at q; unfold isFa; omega)
theorem fe_sz {B M : Mem} (h : FE B M) (known : Int) : szOf M known = szOf B known := by
  unfold szOf
  rw [fe_nK h]
  exact congrArg Int.toNat (cnt_congr (fun c _ => by rw [h.row 84 c (by omega)]))
theorem CBok.congr {B M : Mem} {known ans : Int} (hB : CBok B known ans) (fB : Fa B) (fM : Fa M) (h : FE B M) (h14 : M 80 14 = B 80 14) (k : ∀ c i, isX1 c i → M c i = B c i) : CBok M known ans := by
  unfold CBok okDay at hB ⊢
  rw [fe_sz h, fe_okW h fB fM, fe_hmW h fB, fe_nC h, h14, k 35 2 (by unfold isX1; omega), show (fun i => M 47 i) = fun i => B 47 i from funext (fun i => k 47 i (by unfold isX1; omega))]
  rcases hB with q | q | ⟨q1, q2, q3, q4, q5, q6⟩
  · exact Or.inl q
  · exact Or.inr (Or.inl q)
  · exact Or.inr (Or.inr ⟨q1, q2, q3, q4, q5, fun i hi => by rw [k 36 i (by unfold isX1; omega)]; exact q6 i hi⟩)
theorem MBx.congr {B M : Mem} {known : Int} {n : Nat} {mem : Nat → Nat} {stay : Nat → Int} {N : Nat} {bm f : Int} (hB : MBx B known n mem stay N bm f B) (fB : Fa B) (fM : Fa M) (h : FE B M) (k : ∀ c i, isX2 c i → M c i = B c i) : MBx M known n mem stay N bm f M := by
  unfold MBx at hB ⊢
  rw [fe_okW h fB fM, fe_hmW h fB, fe_nC h, fe_nK h, k 80 45 (by unfold isX2; omega), show (fun i => M 109 (mem i)) = fun i => B 109 (mem i) from funext (fun i => k 109 _ (by unfold isX2; omega))]
  exact ⟨hB.1, hB.2.1, fun z => ⟨(hB.2.2 z).1, fun c hc hno => by rw [k 109 c (by unfold isX2; omega)]; exact (hB.2.2 z).2 c hc hno⟩⟩
theorem X1.congr {B M : Mem} (hB : X1 B) (fB : Fa B) (fM : Fa M) (h : FE B M) (h14 : M 80 14 = B 80 14) (k : ∀ c i, isX1 c i → M c i = B c i) : X1 M := by
  unfold X1 at hB ⊢
  rw [k 0 16 (by unfold isX1; omega), k 0 17 (by unfold isX1; omega), k 0 18 (by unfold isX1; omega)]
  rcases hB with q | q
  · exact Or.inl q
  · exact Or.inr ⟨q.1, q.2.congr fB fM h h14 k⟩
/-- the DAY at hand may be a later one -/
theorem X2.congr {B M : Mem} (hB : X2 B) (fB : Fa B) (fM : Fa M) (h : FE B M) (h14 : B 80 14 ≤ M 80 14) (k : ∀ c i, isX2 c i → M c i = B c i) : X2 M := by
  unfold X2 okDay at hB ⊢
  rw [k 80 43 (by unfold isX2; omega), k 80 44 (by unfold isX2; omega), fe_sz h, fe_nC h]
  rcases hB with q | ⟨q1, q2, q3, f, q4⟩
  · exact Or.inl q
  · exact Or.inr ⟨⟨q1.1, by omega⟩, q2, q3, f, q4.congr fB fM h k⟩
/-- what a call may leave as it likes -/
def isS (c i : Nat) : Prop := isFa c i ∨ isO c i ∨ isX1 c i ∨ isX2 c i
theorem Inv.congr {B M : Mem} (hB : Inv B) (h : ∀ c i, isS c i → M c i = B c i) : Inv M := by
  have hf : ∀ c i, isFa c i → M c i = B c i := fun c i q => h c i (Or.inl q)
  have fM := hB.1.congr hf
  exact ⟨fM, hB.2.1.congr (fun c i q => h c i (Or.inr (Or.inl q))), hB.2.2.1.congr hB.1 fM (fa_fe hf) (h 80 14 (Or.inl (by unfold isFa; omega))) (fun c i q => h c i (Or.inr (Or.inr (Or.inl q)))), hB.2.2.2.congr hB.1 fM (fa_fe hf) (by rw [h 80 14 (Or.inl (by unfold isFa; omega))]; exact Int.le_refl _) (fun c i q => h c i (Or.inr (Or.inr (Or.inr q))))⟩
/-- a call answers alike -/
def Alk (x : Option Res) (y : Mem → Option Res) : Prop := Okk x (fun q => Okk (y q.2) (fun q2 => q2.1 = q.1 ∧ Inv q2.2))
def pr (M : Mem) (x : Option Int) : Option Res := obn x fun r => some (r, M)
theorem ok_pr {M : Mem} {x : Option Int} {r : Int} (h : x = some r) : pr M x = some (r, M) := by rw [h]; rfl
