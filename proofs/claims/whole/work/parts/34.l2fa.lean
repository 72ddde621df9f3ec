/-! the facts, and a memory of the class that holds them still -/
def C2a (M : Mem) : Prop := ∀ c : Nat, c < 14 → (0 ≤ M 85 c ∧ M 85 c ≤ 99) ∧ (M 80 1 ≤ (c : Int) → M 85 c = 0)
def Fa (M : Mem) : Prop := A1 M ∧ A2 M ∧ A3 M ∧ A4 M ∧ C1 M ∧ C2a M ∧ C3 M ∧ C4 M ∧ C5 M ∧ C6 M ∧ D1 10 88 M ∧ D1 11 89 M ∧ D2 M ∧ D3 88 M ∧ D3 89 M ∧ D4 M ∧ R1 M ∧ R2 M ∧ eqp 4 81 M ∧ eqp 5 82 M ∧ eqp 6 83 M ∧ eqp 7 84 M ∧ eqp 8 85 M ∧ eqp 9 86 M ∧ eqp 13 87 M ∧ eqp 16 91 M ∧ eqp 18 92 M ∧ eqp 19 93 M ∧ eqp 20 94 M ∧ eqp 21 95 M ∧ eqp 22 96 M
theorem Fa.a1 {M : Mem} (h : Fa M) : A1 M := h.1
theorem Fa.a2 {M : Mem} (h : Fa M) : A2 M := h.2.1
theorem Fa.a3 {M : Mem} (h : Fa M) : A3 M := h.2.2.1
theorem Fa.a4 {M : Mem} (h : Fa M) : A4 M := h.2.2.2.1
theorem Fa.c1 {M : Mem} (h : Fa M) : C1 M := h.2.2.2.2.1
theorem Fa.c2 {M : Mem} (h : Fa M) : C2a M := h.2.2.2.2.2.1
theorem Fa.c3 {M : Mem} (h : Fa M) : C3 M := h.2.2.2.2.2.2.1
theorem Fa.c4 {M : Mem} (h : Fa M) : C4 M := h.2.2.2.2.2.2.2.1
theorem Fa.c5 {M : Mem} (h : Fa M) : C5 M := h.2.2.2.2.2.2.2.2.1
theorem Fa.c6 {M : Mem} (h : Fa M) : C6 M := h.2.2.2.2.2.2.2.2.2.1
theorem Fa.d1 {M : Mem} (h : Fa M) : D1 10 88 M := h.2.2.2.2.2.2.2.2.2.2.1
theorem Fa.d2 {M : Mem} (h : Fa M) : D1 11 89 M := h.2.2.2.2.2.2.2.2.2.2.2.1
theorem Fa.d3 {M : Mem} (h : Fa M) : D2 M := h.2.2.2.2.2.2.2.2.2.2.2.2.1
theorem Fa.d4 {M : Mem} (h : Fa M) : D3 88 M := h.2.2.2.2.2.2.2.2.2.2.2.2.2.1
theorem Fa.d5 {M : Mem} (h : Fa M) : D3 89 M := h.2.2.2.2.2.2.2.2.2.2.2.2.2.2.1
theorem Fa.d6 {M : Mem} (h : Fa M) : D4 M := h.2.2.2.2.2.2.2.2.2.2.2.2.2.2.2.1
theorem Fa.r1 {M : Mem} (h : Fa M) : R1 M := h.2.2.2.2.2.2.2.2.2.2.2.2.2.2.2.2.1
theorem Fa.r2 {M : Mem} (h : Fa M) : R2 M := h.2.2.2.2.2.2.2.2.2.2.2.2.2.2.2.2.2.1
theorem Fa.e4 {M : Mem} (h : Fa M) : eqp 4 81 M := h.2.2.2.2.2.2.2.2.2.2.2.2.2.2.2.2.2.2.1
theorem Fa.e5 {M : Mem} (h : Fa M) : eqp 5 82 M := h.2.2.2.2.2.2.2.2.2.2.2.2.2.2.2.2.2.2.2.1
theorem Fa.e6 {M : Mem} (h : Fa M) : eqp 6 83 M := h.2.2.2.2.2.2.2.2.2.2.2.2.2.2.2.2.2.2.2.2.1
theorem Fa.e7 {M : Mem} (h : Fa M) : eqp 7 84 M := h.2.2.2.2.2.2.2.2.2.2.2.2.2.2.2.2.2.2.2.2.2.1
theorem Fa.e8 {M : Mem} (h : Fa M) : eqp 8 85 M := h.2.2.2.2.2.2.2.2.2.2.2.2.2.2.2.2.2.2.2.2.2.2.1
theorem Fa.e9 {M : Mem} (h : Fa M) : eqp 9 86 M := h.2.2.2.2.2.2.2.2.2.2.2.2.2.2.2.2.2.2.2.2.2.2.2.1
theorem Fa.e13 {M : Mem} (h : Fa M) : eqp 13 87 M := h.2.2.2.2.2.2.2.2.2.2.2.2.2.2.2.2.2.2.2.2.2.2.2.2.1
theorem Fa.e16 {M : Mem} (h : Fa M) : eqp 16 91 M := h.2.2.2.2.2.2.2.2.2.2.2.2.2.2.2.2.2.2.2.2.2.2.2.2.2.1
theorem Fa.e18 {M : Mem} (h : Fa M) : eqp 18 92 M := h.2.2.2.2.2.2.2.2.2.2.2.2.2.2.2.2.2.2.2.2.2.2.2.2.2.2.1
theorem Fa.e19 {M : Mem} (h : Fa M) : eqp 19 93 M := h.2.2.2.2.2.2.2.2.2.2.2.2.2.2.2.2.2.2.2.2.2.2.2.2.2.2.2.1
theorem Fa.e20 {M : Mem} (h : Fa M) : eqp 20 94 M := h.2.2.2.2.2.2.2.2.2.2.2.2.2.2.2.2.2.2.2.2.2.2.2.2.2.2.2.2.1
theorem Fa.e21 {M : Mem} (h : Fa M) : eqp 21 95 M := h.2.2.2.2.2.2.2.2.2.2.2.2.2.2.2.2.2.2.2.2.2.2.2.2.2.2.2.2.2.1
theorem Fa.e22 {M : Mem} (h : Fa M) : eqp 22 96 M := h.2.2.2.2.2.2.2.2.2.2.2.2.2.2.2.2.2.2.2.2.2.2.2.2.2.2.2.2.2.2
theorem Fa.n {B : Mem} (h : Fa B) : (nK B : Int) = B 80 1 := by unfold nK; have := h.a1.1; omega
theorem Fa.n14 {B : Mem} (h : Fa B) : nK B ≤ 14 := by unfold nK; have := h.a1.2.1; omega
theorem Fa.k {B : Mem} (h : Fa B) : (nC B : Int) = B 80 12 := by unfold nC; have := h.a2.2; omega
theorem Fa.k23 {B : Mem} (h : Fa B) : nC B = 2 ∨ nC B = 3 := by unfold nC; have := h.a2.2; omega
theorem Fa.s {B : Mem} (h : Fa B) : (nS B : Int) = B 80 21 := by unfold nS; have := h.r1.2.2.2.2.1; omega
theorem Fa.s16 {B : Mem} (h : Fa B) : nS B ≤ 16 := by unfold nS; have := h.r1.2.2.2.2.2; omega
def isC (c i : Nat) : Prop := (3 ≤ c ∧ c ≤ 22) ∨ 62 ≤ c ∨ (c = 0 ∧ 11 ≤ i ∧ i ≤ 13)
def isFa (c i : Nat) : Prop := (3 ≤ c ∧ c ≤ 22) ∨ (62 ≤ c ∧ c ≤ 79) ∨ (c = 0 ∧ 11 ≤ i ∧ i ≤ 13) ∨ (81 ≤ c ∧ c ≤ 104) ∨ (c = 80 ∧ (i = 1 ∨ i = 12 ∨ i = 14 ∨ i = 15 ∨ i = 21))
theorem Fa.congr {B M : Mem} (hB : Fa B) (h : ∀ c i, isFa c i → M c i = B c i) : Fa M := by
  have hr := hB.r1.1
  unfold isRu at hr
  have q := hB
  unfold Fa A1 A2 A3 A4 C1 C2a C3 C4 C5 C6 D1 D2 D3 D4 R1 R2 stIs eqp bitsAre at q ⊢
  simp (disch := (unfold isFa; omega)) only [h]
  exact q
def CF (B M : Mem) : Prop := Fa B ∧ ∀ c i, isC c i → M c i = B c i
theorem CF.rf {B : Mem} (h : Fa B) : CF B B := ⟨h, fun _ _ _ => rfl⟩
theorem CF.fr {B M M' : Mem} (h : CF B M) (k : ∀ c i, isC c i → M' c i = M c i) : CF B M' := ⟨h.1, fun c i q => (k c i q).trans (h.2 c i q)⟩
theorem CF.up {B M : Mem} (h : CF B M) {c i : Nat} (v : Int) (hc : ¬ isC c i) : CF B (mup M c i v) := h.fr (fun c' i' q => by
  unfold mup
  exact if_neg (fun z => hc (by rw [z.1, z.2] at q; exact q)))
theorem CF.fa {B M : Mem} (h : CF B M) : Fa M := h.1.congr (fun c i q => h.2 c i (by unfold isFa at q; unfold isC; omega))
theorem CF.at {B M : Mem} (h : CF B M) (c i : Nat) (q : isC c i) : M c i = B c i := h.2 c i q
theorem CF.n {B M : Mem} (h : CF B M) : M 3 0 = (nK B : Int) := by rw [h.at 3 0 (by unfold isC; omega), h.1.a1.2.2, h.1.n]
theorem CF.k {B M : Mem} (h : CF B M) : M 3 13 = (nC B : Int) := by rw [h.at 3 13 (by unfold isC; omega), h.1.a2.1, h.1.k]
theorem CF.td {B M : Mem} (h : CF B M) : M 0 13 = B 80 14 := by rw [h.at 0 13 (by unfold isC; omega), h.1.a3.1]
theorem CF.r11 {B M : Mem} (h : CF B M) : M 0 11 = B 0 11 := h.at 0 11 (by unfold isC; omega)
theorem CF.ru {B M : Mem} (h : CF B M) : isRu (B 0 11) := h.1.r1.1
theorem CF.rr {B M : Mem} (h : CF B M) (j i : Nat) (hj : j ≤ 8) : M ((B 0 11).toNat + j) i = B ((B 0 11).toNat + j) i := h.at _ _ (by have := h.ru; unfold isC; unfold isRu at this; omega)
theorem CF.rc {B M : Mem} (h : CF B M) : M (B 0 11).toNat 0 = (nS B : Int) := by
  have := h.rr 0 0 (by omega)
  rw [Nat.add_zero] at this
  rw [this, h.1.r1.2.2.2.1, h.1.s]

theorem CF.w4 {B M : Mem} (h : CF B M) (i : Nat) : M 4 i = B 81 i := by rw [h.at 4 i (by unfold isC; omega)]; exact h.1.e4 i
theorem CF.w5 {B M : Mem} (h : CF B M) (i : Nat) : M 5 i = B 82 i := by rw [h.at 5 i (by unfold isC; omega)]; exact h.1.e5 i
theorem CF.w6 {B M : Mem} (h : CF B M) (i : Nat) : M 6 i = B 83 i := by rw [h.at 6 i (by unfold isC; omega)]; exact h.1.e6 i
theorem CF.w7 {B M : Mem} (h : CF B M) (i : Nat) : M 7 i = B 84 i := by rw [h.at 7 i (by unfold isC; omega)]; exact h.1.e7 i
theorem CF.w8 {B M : Mem} (h : CF B M) (i : Nat) : M 8 i = B 85 i := by rw [h.at 8 i (by unfold isC; omega)]; exact h.1.e8 i
theorem CF.w9 {B M : Mem} (h : CF B M) (i : Nat) : M 9 i = B 86 i := by rw [h.at 9 i (by unfold isC; omega)]; exact h.1.e9 i
theorem CF.w13 {B M : Mem} (h : CF B M) (i : Nat) : M 13 i = B 87 i := by rw [h.at 13 i (by unfold isC; omega)]; exact h.1.e13 i
theorem CF.w16 {B M : Mem} (h : CF B M) (i : Nat) : M 16 i = B 91 i := by rw [h.at 16 i (by unfold isC; omega)]; exact h.1.e16 i
theorem CF.w18 {B M : Mem} (h : CF B M) (i : Nat) : M 18 i = B 92 i := by rw [h.at 18 i (by unfold isC; omega)]; exact h.1.e18 i
theorem CF.w19 {B M : Mem} (h : CF B M) (i : Nat) : M 19 i = B 93 i := by rw [h.at 19 i (by unfold isC; omega)]; exact h.1.e19 i
theorem CF.w20 {B M : Mem} (h : CF B M) (i : Nat) : M 20 i = B 94 i := by rw [h.at 20 i (by unfold isC; omega)]; exact h.1.e20 i
theorem CF.w21 {B M : Mem} (h : CF B M) (i : Nat) : M 21 i = B 95 i := by rw [h.at 21 i (by unfold isC; omega)]; exact h.1.e21 i
theorem CF.w22 {B M : Mem} (h : CF B M) (i : Nat) : M 22 i = B 96 i := by rw [h.at 22 i (by unfold isC; omega)]; exact h.1.e22 i
theorem bitsAre.m {x : Int} {f : Nat → Int} (h : bitsAre x f) : mIs x (fun b => decide (f b = 1)) := ⟨h.1, h.2.1, fun c hc => by
  have := h.2.2 c hc
  show x.toNat.testBit c = decide (f c = 1)
  by_cases q : f c = 1
  · rw [decide_eq_true q]; exact this.mpr q
  · rw [decide_eq_false q]
    cases e : x.toNat.testBit c with
    | false => rfl
    | true => exact absurd (this.mp e) q⟩
theorem mIs.bits {x : Int} {f : Nat → Int} (h : mIs x (fun b => decide (f b = 1))) : bitsAre x f := ⟨h.1, h.2.1, fun c hc => by
  have := h.2.2 c hc
  unfold gb at this
  rw [this, decide_eq_true_iff]⟩
theorem CF.bars {B M : Mem} (h : CF B M) {a : Nat} (ha : a < 14) : mIs (M 10 a) (fun b => decide (B 88 (14 * a + b) = 1)) := by
  rw [h.at 10 a (by unfold isC; omega)]; exact (h.1.d1 a ha).m
theorem CF.twins {B M : Mem} (h : CF B M) {a : Nat} (ha : a < 14) : mIs (M 11 a) (fun b => decide (B 89 (14 * a + b) = 1)) := by
  rw [h.at 11 a (by unfold isC; omega)]; exact (h.1.d2 a ha).m
theorem CF.nots {B M : Mem} (h : CF B M) {k : Nat} (hk : k < 3) : mIs (M 12 k) (fun c => decide (B 90 (3 * c + k) = 1)) := by
  rw [h.at 12 k (by unfold isC; omega)]; exact (h.1.d3 k hk).m
/-- the statements of the class -/
theorem CF.st {B M : Mem} (h : CF B M) {s : Nat} (hs : s < nS B) : stIs (B 0 11).toNat s B := h.1.r2 s (by have := h.1.s; omega)
theorem CF.kd {B M : Mem} (h : CF B M) {s : Nat} (hs : s < nS B) : M ((B 0 11).toNat + 1) s = B 97 s + 8 := by rw [h.rr 1 s (by omega)]; exact (h.st hs).1.2.2
theorem CF.kb {B M : Mem} (h : CF B M) {s : Nat} (hs : s < nS B) : 0 ≤ B 97 s ∧ B 97 s ≤ 8 := ⟨(h.st hs).1.1, (h.st hs).1.2.1⟩
theorem CF.nu {B M : Mem} (h : CF B M) {s : Nat} (hs : s < nS B) (h5 : B 97 s ≠ 5) (h8 : B 97 s ≠ 8) : M ((B 0 11).toNat + 2) s = B 98 s := by rw [h.rr 2 s (by omega)]; exact ((h.st hs).2.1 h5 h8).2.2
theorem CF.nb {B M : Mem} (h : CF B M) {s : Nat} (hs : s < nS B) (h5 : B 97 s ≠ 5) (h8 : B 97 s ≠ 8) : 0 ≤ B 98 s ∧ B 98 s ≤ 99 := ⟨((h.st hs).2.1 h5 h8).1, ((h.st hs).2.1 h5 h8).2.1⟩
theorem CF.hw {B M : Mem} (h : CF B M) {s : Nat} (hs : s < nS B) (h8 : B 97 s = 8) : (B 98 s = 0 ∧ M ((B 0 11).toNat + 3) s = 18) ∨ (B 98 s = 1 ∧ M ((B 0 11).toNat + 3) s = 13) ∨ (B 98 s = 2 ∧ M ((B 0 11).toNat + 3) s = 17) := by rw [h.rr 3 s (by omega)]; exact (h.st hs).2.2.1 h8
theorem CF.wd {B M : Mem} (h : CF B M) {s : Nat} (hs : s < nS B) (h1 : B 97 s = 1) : M ((B 0 11).toNat + 3) s = B 99 s ∧ 0 ≤ B 99 s ∧ B 99 s ≤ 6 := by
  rw [h.rr 3 s (by omega)]
  have := (h.st hs).2.2.2.1 h1
  exact ⟨this.2.2, this.1, this.2.1⟩
/-- a row has TERMS -/
def hasT (B : Mem) (s w : Nat) : Prop := B 97 s = 5 ∨ (w = 0 ∧ (B 97 s = 0 ∨ B 97 s = 3 ∨ B 97 s = 6 ∨ B 97 s = 7))
theorem CF.tn {B M : Mem} (h : CF B M) {s w : Nat} (hs : s < nS B) (hw : w < 2) (ht : hasT B s w) : M ((B 0 11).toNat + 4) (2 * s + w) = B 100 (2 * s + w) ∧ 0 ≤ B 100 (2 * s + w) ∧ B 100 (2 * s + w) ≤ 4 := by
  rw [h.rr 4 _ (by omega)]
  have := ((h.st hs).2.2.2.2.1 w hw).1 ht
  exact ⟨this.2.2, this.1, this.2.1⟩
theorem CF.tx {B M : Mem} (h : CF B M) {s w : Nat} (hs : s < nS B) (hw : w < 2) (ht : ¬ hasT B s w) : M ((B 0 11).toNat + 4) (2 * s + w) = 0 ∧ B 100 (2 * s + w) = -1 := by
  rw [h.rr 4 _ (by omega)]
  have := ((h.st hs).2.2.2.2.1 w hw).2 ht
  exact ⟨this.2, this.1⟩
theorem CF.tb {B M : Mem} (h : CF B M) {s w : Nat} (hs : s < nS B) (hw : w < 2) : -1 ≤ B 100 (2 * s + w) ∧ B 100 (2 * s + w) ≤ 4 := by
  by_cases ht : hasT B s w
  · have := h.tn hs hw ht; omega
  · have := h.tx hs hw ht; omega
def tmIs (B M : Mem) (r t : Nat) : Prop := isZ (B 101 t) ∧ M (r + 5) t = B 101 t ∧ (0 ≤ B 102 t ∧ B 102 t ≤ 7) ∧ M (r + 6) t = B 102 t ∧ (B 102 t ≠ 7 → 0 ≤ B 103 t ∧ B 103 t ≤ 2 ∧ M (r + 7) t = B 103 t + 60) ∧ (0 ≤ B 104 t ∧ B 104 t ≤ 99) ∧ (B 102 t = 7 → B 104 t ≤ 7) ∧ M (r + 8) t = B 104 t
theorem CF.tm {B M : Mem} (h : CF B M) {s w t : Nat} (hs : s < nS B) (hw : w < 2) (ht4 : t < 4) (ht : (t : Int) < B 100 (2 * s + w)) : tmIs B M (B 0 11).toNat (4 * (2 * s + w) + t) := by
  have q := (h.st hs).2.2.2.2.2 w t hw ht4 ht
  unfold tmIs
  rw [h.rr 5 _ (by omega), h.rr 6 _ (by omega), h.rr 7 _ (by omega), h.rr 8 _ (by omega)]
  exact q

