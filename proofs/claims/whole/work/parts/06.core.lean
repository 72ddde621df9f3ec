/-! numbers: an int of the machine is i2 of an integer that is in its range -/
def i2 (x : Int) : Int32 := Int32.ofInt x
def inR (x : Int) : Prop := -2147483648 ≤ x ∧ x < 2147483648
def wrap (x : Int) : Int := (x + 2147483648) % 4294967296 - 2147483648
theorem inR_wrap (x : Int) : inR (wrap x) := by unfold inR wrap; omega
theorem wrap_id {x : Int} (h : inR x) : wrap x = x := by unfold inR at h; unfold wrap; omega
theorem wrap_of {x : Int} (h1 : -2147483648 ≤ x) (h2 : x < 2147483648) : wrap x = x := wrap_id ⟨h1, h2⟩
theorem i2_toInt' (x : Int) : (i2 x).toInt = wrap x := by
  unfold i2 wrap
  rw [Int32.toInt_ofInt, Int.bmod_def]
  have : ((Int32.size : Nat) : Int) = 4294967296 := rfl
  simp only [this]
  split <;> omega
theorem i2_toInt {x : Int} (h : inR x) : (i2 x).toInt = x := by rw [i2_toInt', wrap_id h]
theorem i2_of (x : Int32) : i2 x.toInt = x := by unfold i2; exact Int32.ofInt_toInt x
theorem inR_toInt (x : Int32) : inR x.toInt := ⟨Int32.le_toInt x, Int32.toInt_lt x⟩
theorem i2_wrap (x : Int) : i2 (wrap x) = i2 x := Int32.toInt_inj.mp (by rw [i2_toInt', i2_toInt', wrap_id (inR_wrap x)])
theorem i2_inj {x y : Int} (hx : inR x) (hy : inR y) : i2 x = i2 y ↔ x = y := ⟨fun h => by rw [← i2_toInt hx, ← i2_toInt hy, h], fun h => by rw [h]⟩
theorem i2_le {x y : Int} (hx : inR x) (hy : inR y) : i2 x ≤ i2 y ↔ x ≤ y := by rw [Int32.le_iff_toInt_le, i2_toInt hx, i2_toInt hy]
theorem i2_lt {x y : Int} (hx : inR x) (hy : inR y) : i2 x < i2 y ↔ x < y := by rw [Int32.lt_iff_toInt_lt, i2_toInt hx, i2_toInt hy]
theorem i2_add (x y : Int) : i2 x + i2 y = i2 (wrap (x + y)) := by rw [i2_wrap]; exact (Int32.ofInt_add x y).symm
theorem i2_sub (x y : Int) : i2 x - i2 y = i2 (wrap (x - y)) := by rw [i2_wrap]; exact (Int32.ofInt_sub x y).symm
theorem i2_mul (x y : Int) : i2 x * i2 y = i2 (wrap (x * y)) := by rw [i2_wrap]; exact (Int32.ofInt_mul x y).symm
theorem i2_clamp {x : Int} (hx : inR x) : (i2 x).toNatClampNeg = x.toNat := by rw [Int32.toNatClampNeg, i2_toInt hx]
theorem i2_in {x : Int} {n : Nat} (hx : inR x) (h : 0 ≤ x ∧ x < n) : vp_in (i2 x) n := by
  unfold vp_in
  have h0 : (0 : Int32) = i2 0 := rfl
  rw [i2_clamp hx, h0, i2_lt hx ⟨by decide, by decide⟩]
  omega
/-- what is done with bits, in integers -/
def band (x y : Int) : Int := (i2 x &&& i2 y).toInt
def bor (x y : Int) : Int := (i2 x ||| i2 y).toInt
def bxor (x y : Int) : Int := (i2 x ^^^ i2 y).toInt
def bshl (x y : Int) : Int := (i2 x <<< (i2 y &&& 31)).toInt
def bshr (x y : Int) : Int := (i2 x >>> (i2 y &&& 31)).toInt
def bushr (x y : Int) : Int := ((i2 x).toUInt32 >>> ((i2 y).toUInt32 &&& Int32.toUInt32 31)).toInt32.toInt
def jdiv (x y : Int) : Int := (i2 x / i2 y).toInt
def jrem (x y : Int) : Int := (i2 x - i2 x / i2 y * i2 y).toInt
def jbyte (x : Int) : Int := (i2 x).toInt8.toInt32.toInt
def jchar (x : Int) : Int := ((i2 x).toUInt32 % 65536).toInt32.toInt
/-! partial answers -/
def gd {α : Type} (p : Prop) [Decidable p] (x : Option α) : Option α := if p then x else none
theorem gd_some {α : Type} {p : Prop} [Decidable p] {x : Option α} {o : α} (h : gd p x = some o) : p ∧ x = some o := by
  unfold gd at h
  split at h
  · exact ⟨by assumption, h⟩
  · cases h
theorem gd_pos {α : Type} {p : Prop} [Decidable p] (x : Option α) (h : p) : gd p x = x := if_pos h
theorem ite_t {α : Type} {c : Prop} {inst : Decidable c} {x y : α} {o : α} (hc : c) (h : @ite α c inst x y = o) : x = o := by rw [if_pos hc] at h; exact h
theorem ite_f {α : Type} {c : Prop} {inst : Decidable c} {x y : α} {o : α} (hc : ¬ c) (h : @ite α c inst x y = o) : y = o := by rw [if_neg hc] at h; exact h
abbrev Mem : Type := Nat → Nat → Int
def mup (M : Mem) (c i : Nat) (v : Int) : Mem := fun c' i' => if c' = c ∧ i' = i then v else M c' i'
abbrev Res : Type := Int × Mem
def bnd {α : Type} (x : Option Res) (f : Int → Mem → Option α) : Option α := match x with
  | some q => f q.1 q.2
  | none => none
theorem bnd_some {α : Type} {x : Option Res} {f : Int → Mem → Option α} {o : α} (h : bnd x f = some o) : ∃ (r : Int) (M : Mem), x = some (r, M) ∧ f r M = some o := by
  match x, h with
  | some (r, M), h => exact ⟨r, M, rfl, h⟩
/-- a loop: a step goes on (inl) or leaves (inr) -/
def whl {S R : Type} (step : S → Option (S ⊕ R)) : Nat → S → Option R
  | 0, _ => none
  | n + 1, s => match step s with
    | none => none
    | some (.inl s') => whl step n s'
    | some (.inr r) => some r
/-- what a loop's answer leads to: out of it (inl), or out of the method (inr) -/
def lpe {S α : Type} (x : Option (S ⊕ α)) (f : S → Option α) : Option α := match x with
  | none => none
  | some (.inl s) => f s
  | some (.inr r) => some r
/-- more rounds than any loop makes; a number that no unifier can count down -/
noncomputable def FU : Nat := Classical.choose (p := fun n : Nat => n = 4294967296) ⟨4294967296, rfl⟩
theorem FU_eq : FU = 4294967296 := Classical.choose_spec (p := fun n : Nat => n = 4294967296) ⟨4294967296, rfl⟩
theorem whl_succ {S R : Type} {step : S → Option (S ⊕ R)} {n : Nat} {s : S} {out : R} (h : whl step (n + 1) s = some out) : (∃ s', step s = some (.inl s') ∧ whl step n s' = some out) ∨ step s = some (.inr out) := by
  unfold whl at h
  split at h
  · cases h
  · exact Or.inl ⟨_, by assumption, h⟩
  · cases h; exact Or.inr (by assumption)
theorem whl_step {S R : Type} {step : S → Option (S ⊕ R)} {n : Nat} {s : S} {out : R} (h : whl step (n + 1) s = some out) : ∃ o, step s = some o ∧ ((∀ s', o = .inl s' → whl step n s' = some out) ∧ ∀ r, o = .inr r → r = out) := by
  rcases whl_succ h with ⟨s', h1, h2⟩ | h1
  · exact ⟨_, h1, (fun s2 e => by cases e; exact h2), (fun r e => by cases e)⟩
  · exact ⟨_, h1, (fun s2 e => by cases e), (fun r e => by cases e; rfl)⟩
theorem lpe_some {S α : Type} {x : Option (S ⊕ α)} {f : S → Option α} {o : α} (h : lpe x f = some o) : ∃ q, x = some q ∧ (∀ s, q = .inl s → f s = some o) ∧ ∀ r, q = .inr r → r = o := by
  match x, h with
  | some (.inl s), h => exact ⟨_, rfl, (fun s2 e => by cases e; exact h), (fun r e => by cases e)⟩
  | some (.inr r), h => exact ⟨_, rfl, (fun s2 e => by cases e), (fun r2 e => by cases e; cases h; rfl)⟩
theorem some_pair {a b : Int} {M N : Mem} (h : some (a, M) = some (b, N)) : a = b ∧ M = N := by cases h; exact ⟨rfl, rfl⟩
def obn {α β : Type} (x : Option α) (f : α → Option β) : Option β := match x with
  | some q => f q
  | none => none
theorem obn_some {α β : Type} {x : Option α} {f : α → Option β} {o : β} (h : obn x f = some o) : ∃ r : α, x = some r ∧ f r = some o := by
  match x, h with
  | some r, h => exact ⟨r, rfl, h⟩
def lt {α β : Type} (x : α) (f : α → Option β) : Option β := f x
theorem lt_some {α β : Type} {x : α} {f : α → Option β} {o : β} (h : lt x f = some o) : ∃ r : α, r = x ∧ f r = some o := ⟨x, rfl, h⟩
/-- what a loop's answer leads to: behind it (inl), or out of the method (inr) -/
def lpr {S T α : Type} (x : Option (S ⊕ T)) (f : S → Option α) (g : T → Option α) : Option α := match x with
  | none => none
  | some (.inl s) => f s
  | some (.inr r) => g r
theorem lpr_some {S T α : Type} {x : Option (S ⊕ T)} {f : S → Option α} {g : T → Option α} {o : α} (h : lpr x f g = some o) : ∃ q, x = some q ∧ (∀ s, q = .inl s → f s = some o) ∧ ∀ r, q = .inr r → g r = some o := by
  match x, h with
  | some (.inl s), h => exact ⟨_, rfl, (fun s2 e => by cases e; exact h), (fun r e => by cases e)⟩
  | some (.inr r), h => exact ⟨_, rfl, (fun s2 e => by cases e), (fun r2 e => by cases e; exact h)⟩
theorem whl_zero {S R : Type} {step : S → Option (S ⊕ R)} {s : S} {out : R} (h : whl step 0 s = some out) : False := by
  unfold whl at h; cases h
theorem inL {n : Int} (h : (decide (-2147483648 ≤ n) && decide (n < 2147483648)) = true) : inR n := by
  simp only [Bool.and_eq_true, decide_eq_true_eq] at h
  exact h
theorem inR_nat {n : Nat} (h : n < 2147483648) : inR (n : Int) := ⟨by omega, by omega⟩
theorem inR_of {x y : Int} (e : x = y) (h : inR y) : inR x := e ▸ h
theorem inR_ite {c : Prop} [Decidable c] {x y : Int} (hx : inR x) (hy : inR y) : inR (if c then x else y) := by split <;> assumption
/-! the String constants: which class, which place, their bytes -/
def NS : Nat := 27
def sOwn : List String := ["ClassMaker$Tape", "ClassMaker", "ClassMaker", "ClassMaker", "ClassMaker", "ClassMakerModel", "ClassMakerModel", "ClassMakerModel", "ClassMakerModel", "ClassMakerModel", "ClassMakerModel", "ClassMakerModel", "ClassMakerModel", "ClassMakerModel", "ClassMakerModel", "ClassMakerModel", "ClassMakerModel", "ClassMakerModel", "ClassMakerModel", "ClassMakerModel", "ClassMakerModel", "ClassMakerModel", "ClassMakerModel", "ClassMakerModel", "ClassMakerModel", "ClassMakerModel", "ClassMakerModel"]
def sIdx : List Nat := [59, 277, 282, 284, 344, 182, 184, 186, 188, 190, 192, 194, 196, 198, 268, 270, 200, 201, 202, 204, 206, 207, 208, 278, 298, 299, 301]
def sTx : List String := ["sex month gift need owed wishes named tag even sum friend alone regret apart most least twins joined free not and from ", "no such child or place", "the wish is none", "no plan is allowed, or there are more than nine children", "no such child, or nothing such is told of it", "even", "sum", "friend", "alone", "regret", "apart", "most", "least", "twins", "not", "tag", "sex", "month", "gift", "need", "owed", "wishes", "named", "and", "from", "joined", "free"]
def sBy : List (List Nat) := [[115, 101, 120, 32, 109, 111, 110, 116, 104, 32, 103, 105, 102, 116, 32, 110, 101, 101, 100, 32, 111, 119, 101, 100, 32, 119, 105, 115, 104, 101, 115, 32, 110, 97, 109, 101, 100, 32, 116, 97, 103, 32, 101, 118, 101, 110, 32, 115, 117, 109, 32, 102, 114, 105, 101, 110, 100, 32, 97, 108, 111, 110, 101, 32, 114, 101, 103, 114, 101, 116, 32, 97, 112, 97, 114, 116, 32, 109, 111, 115, 116, 32, 108, 101, 97, 115, 116, 32, 116, 119, 105, 110, 115, 32, 106, 111, 105, 110, 101, 100, 32, 102, 114, 101, 101, 32, 110, 111, 116, 32, 97, 110, 100, 32, 102, 114, 111, 109, 32], [110, 111, 32, 115, 117, 99, 104, 32, 99, 104, 105, 108, 100, 32, 111, 114, 32, 112, 108, 97, 99, 101], [116, 104, 101, 32, 119, 105, 115, 104, 32, 105, 115, 32, 110, 111, 110, 101], [110, 111, 32, 112, 108, 97, 110, 32, 105, 115, 32, 97, 108, 108, 111, 119, 101, 100, 44, 32, 111, 114, 32, 116, 104, 101, 114, 101, 32, 97, 114, 101, 32, 109, 111, 114, 101, 32, 116, 104, 97, 110, 32, 110, 105, 110, 101, 32, 99, 104, 105, 108, 100, 114, 101, 110], [110, 111, 32, 115, 117, 99, 104, 32, 99, 104, 105, 108, 100, 44, 32, 111, 114, 32, 110, 111, 116, 104, 105, 110, 103, 32, 115, 117, 99, 104, 32, 105, 115, 32, 116, 111, 108, 100, 32, 111, 102, 32, 105, 116], [101, 118, 101, 110], [115, 117, 109], [102, 114, 105, 101, 110, 100], [97, 108, 111, 110, 101], [114, 101, 103, 114, 101, 116], [97, 112, 97, 114, 116], [109, 111, 115, 116], [108, 101, 97, 115, 116], [116, 119, 105, 110, 115], [110, 111, 116], [116, 97, 103], [115, 101, 120], [109, 111, 110, 116, 104], [103, 105, 102, 116], [110, 101, 101, 100], [111, 119, 101, 100], [119, 105, 115, 104, 101, 115], [110, 97, 109, 101, 100], [97, 110, 100], [102, 114, 111, 109], [106, 111, 105, 110, 101, 100], [102, 114, 101, 101]]
def nestW : Cond := .methodLinkNest "ClassMaker$Parser" 68 ⟨"ClassMaker", "within", "(III)Z"⟩ "ClassMaker"
def sLen (i : Nat) : Nat := (sBy.getD i []).length
def sAt (i j : Nat) : Int := ((sBy.getD i []).getD j 0 : Nat)
abbrev SG : Type := (Nat → Nat) × (Nat → Nat)
def STR (sg : SG) (A : Nat → Prop) (U : State) (H : Heap) : Prop :=
  (∀ i, i < NS → va_O "java/lang/String" (sg.1 i) A U H ∧ va_OF "java/lang/String" "coder" "B" (.int 0) (sg.1 i) A U H ∧ va_OF "java/lang/String" "value" "[B" (.ref (sg.2 i)) (sg.1 i) A U H ∧ va_T .byte (sg.2 i) (sLen i) (fun j => .int (i2 (sAt i j))) A U H ∧ vk_R (sOwn.getD i "") (sIdx.getD i 0) (sTx.getD i "") (sg.1 i) U) ∧
  va_Z "java/lang/String" "COMPACT_STRINGS" "Z" (.int 1) A U H ∧ va_Zq "jdk/internal/util/Preconditions" "SIOOBE_FORMATTER" "Ljava/util/function/BiFunction;" A U H ∧ va_Nw nestW U
theorem STR.warm {sg : SG} {A : Nat → Prop} {s U : State} {H : Heap} (hW : s.WarmedH U.vm) (h : STR sg A s H) : STR sg A U H :=
  ⟨fun i hi => ⟨va_O.moved hW.alike (h.1 i hi).1, va_OF.moved hW.alike (h.1 i hi).2.1, va_OF.moved hW.alike (h.1 i hi).2.2.1, va_T.moved hW.alike (h.1 i hi).2.2.2.1, vk_R.warm hW (h.1 i hi).2.2.2.2⟩, va_Z.moved hW.alike h.2.1, va_Zq.moved hW.alike h.2.2.1, va_Nw.warmM hW h.2.2.2⟩
theorem STR.vmEq {sg : SG} {A : Nat → Prop} {s U : State} {H : Heap} (hv : U.vm = s.vm) (h : STR sg A s H) : STR sg A U H := by
  have ha : s.vm.Alike U.vm := by rw [hv]; exact Vm.Alike.refl _
  exact ⟨fun i hi => ⟨va_O.moved ha (h.1 i hi).1, va_OF.moved ha (h.1 i hi).2.1, va_OF.moved ha (h.1 i hi).2.2.1, va_T.moved ha (h.1 i hi).2.2.2.1, vk_R.same hv (h.1 i hi).2.2.2.2⟩, va_Z.moved ha h.2.1, va_Zq.moved ha h.2.2.1, va_Nw.same rfl hv.symm h.2.2.2⟩
theorem STR.kept {sg : SG} {A : Nat → Prop} {U : State} {H H1 : Heap} (h : STR sg A U H) (hq : ∀ a : Nat, a < H.size → ¬ A a → H1[a]? = H[a]?) : STR sg A U H1 :=
  ⟨fun i hi => ⟨(h.1 i hi).1.kept hq, (h.1 i hi).2.1.kept hq, (h.1 i hi).2.2.1.kept hq, (h.1 i hi).2.2.2.1.kept hq, (h.1 i hi).2.2.2.2⟩, h.2.1.kept hq, h.2.2.1.kept hq, h.2.2.2⟩
theorem STR.narrow {sg : SG} {A B : Nat → Prop} {U : State} {H : Heap} (h : STR sg A U H) (hAB : ∀ q, B q → A q) : STR sg B U H :=
  ⟨fun i hi => ⟨(h.1 i hi).1.narrow hAB, (h.1 i hi).2.1.narrow hAB, (h.1 i hi).2.2.1.narrow hAB, (h.1 i hi).2.2.2.1.narrow hAB, (h.1 i hi).2.2.2.2⟩, h.2.1.narrow hAB, h.2.2.1.narrow hAB, h.2.2.2⟩
/-! the cells, by program: an object (inl: its class) or an array (inr: type, length); what its fields are: 0 an int, 1 one of the Rules, T + 2 the cell T -/
def NC : Nat := 121
def KD : List (Nat ⊕ (Nat × Nat)) := [.inl 10, .inr (0, 14), .inr (0, 3), .inl 1, .inr (0, 14), .inr (0, 14), .inr (0, 14), .inr (0, 14), .inr (0, 14), .inr (0, 42), .inr (0, 14), .inr (0, 14), .inr (0, 3), .inr (0, 196), .inr (0, 14), .inr (0, 14), .inr (0, 3), .inl 5, .inr (0, 300), .inr (0, 300), .inr (0, 300), .inr (0, 300), .inr (0, 300), .inr (0, 112), .inl 9, .inr (2, 400), .inr (0, 401), .inr (0, 401), .inr (0, 401), .inl 6, .inl 4, .inr (0, 98), .inr (0, 14), .inr (0, 16), .inr (0, 16), .inl 8, .inr (0, 9), .inr (0, 9), .inr (0, 9), .inr (0, 512), .inr (0, 512), .inr (0, 512), .inr (0, 16), .inr (0, 144), .inr (0, 48), .inr (0, 3), .inr (0, 9), .inr (0, 9), .inl 2, .inr (0, 3), .inr (0, 14), .inl 3, .inr (0, 6), .inr (0, 3), .inr (0, 3), .inr (0, 6), .inr (0, 6), .inl 0, .inr (0, 400), .inr (0, 400), .inr (0, 400), .inr (0, 14), .inl 7, .inr (0, 16), .inr (0, 16), .inr (0, 16), .inr (0, 32), .inr (1, 128), .inr (0, 128), .inr (0, 128), .inr (0, 128), .inl 7, .inr (0, 16), .inr (0, 16), .inr (0, 16), .inr (0, 32), .inr (1, 128), .inr (0, 128), .inr (0, 128), .inr (0, 128), .inl 11, .inr (0, 14), .inr (0, 14), .inr (0, 14), .inr (0, 14), .inr (0, 14), .inr (0, 42), .inr (0, 196), .inr (1, 196), .inr (1, 196), .inr (1, 42), .inr (0, 3), .inr (0, 300), .inr (0, 300), .inr (0, 300), .inr (0, 300), .inr (0, 300), .inr (0, 32), .inr (0, 32), .inr (0, 32), .inr (0, 64), .inr (1, 256), .inr (0, 256), .inr (0, 256), .inr (0, 256), .inr (3, 400), .inr (0, 98), .inr (1, 448), .inr (0, 14), .inr (0, 14), .inr (0, 14), .inr (1, 14), .inr (0, 6), .inr (0, 6), .inr (0, 14), .inr (0, 14), .inr (0, 400), .inr (0, 400), .inr (0, 400), .inr (0, 14), .inr (4, 1)]
def FRt : List (List Nat) := [[5, 19, 26, 31, 32, 37, 50, 53, 59, 3, 4, 1, 1, 0, 0, 0, 0, 0, 0], [], [], [0, 6, 7, 8, 9, 10, 11, 12, 13, 14, 15, 16, 17, 0, 18], [], [], [], [], [], [], [], [], [], [], [], [], [], [0, 20, 21, 22, 23, 24, 25], [], [], [], [], [], [], [0, 27, 0, 28, 29, 30], [], [], [], [], [0, 0, 26, 1, 0, 0, 0, 0], [5, 19, 1, 0, 33, 34, 35, 36], [], [], [], [], [5, 32, 0, 38, 39, 40, 41, 42, 43, 0, 44, 45, 46, 47, 48, 49, 0, 0, 0, 0], [], [], [], [], [], [], [], [], [], [], [], [], [5, 32, 51, 52, 0, 0, 0], [], [], [0, 54, 55, 56, 57, 58, 0], [], [], [], [], [], [0, 60, 61, 62, 63], [], [], [], [], [0, 65, 66, 67, 68, 69, 70, 71, 72], [], [], [], [], [], [], [], [], [0, 74, 75, 76, 77, 78, 79, 80, 81], [], [], [], [], [], [], [], [], [0, 0, 83, 84, 85, 86, 87, 88, 89, 90, 91, 92, 0, 93, 0, 0, 94, 95, 96, 97, 98, 0, 0, 99, 100, 101, 102, 103, 104, 105, 106, 107, 0, 0, 0, 0, 0, 0, 0, 108, 109, 110, 111, 0, 0, 0, 0, 112, 0, 113, 0, 114, 115, 116, 117, 0, 0, 118, 119, 120, 121], [], [], [], [], [], [], [], [], [], [], [], [], [], [], [], [], [], [], [], [], [], [], [], [], [], [], [], [], [], [], [], [], [], [], [], [], [], [], [], []]
def FR (c k : Nat) : Nat := ((FRt[c]?).getD [])[k]?.getD 0
theorem KD_0 : KD[0]? = some (.inl 10) := by decide +kernel
theorem KD_1 : KD[1]? = some (.inr (0, 14)) := by decide +kernel
theorem KD_2 : KD[2]? = some (.inr (0, 3)) := by decide +kernel
theorem KD_3 : KD[3]? = some (.inl 1) := by decide +kernel
theorem KD_4 : KD[4]? = some (.inr (0, 14)) := by decide +kernel
theorem KD_5 : KD[5]? = some (.inr (0, 14)) := by decide +kernel
theorem KD_6 : KD[6]? = some (.inr (0, 14)) := by decide +kernel
theorem KD_7 : KD[7]? = some (.inr (0, 14)) := by decide +kernel
theorem KD_8 : KD[8]? = some (.inr (0, 14)) := by decide +kernel
theorem KD_9 : KD[9]? = some (.inr (0, 42)) := by decide +kernel
theorem KD_10 : KD[10]? = some (.inr (0, 14)) := by decide +kernel
theorem KD_11 : KD[11]? = some (.inr (0, 14)) := by decide +kernel
theorem KD_12 : KD[12]? = some (.inr (0, 3)) := by decide +kernel
theorem KD_13 : KD[13]? = some (.inr (0, 196)) := by decide +kernel
theorem KD_14 : KD[14]? = some (.inr (0, 14)) := by decide +kernel
theorem KD_15 : KD[15]? = some (.inr (0, 14)) := by decide +kernel
theorem KD_16 : KD[16]? = some (.inr (0, 3)) := by decide +kernel
theorem KD_17 : KD[17]? = some (.inl 5) := by decide +kernel
theorem KD_18 : KD[18]? = some (.inr (0, 300)) := by decide +kernel
theorem KD_19 : KD[19]? = some (.inr (0, 300)) := by decide +kernel
theorem KD_20 : KD[20]? = some (.inr (0, 300)) := by decide +kernel
theorem KD_21 : KD[21]? = some (.inr (0, 300)) := by decide +kernel
theorem KD_22 : KD[22]? = some (.inr (0, 300)) := by decide +kernel
theorem KD_23 : KD[23]? = some (.inr (0, 112)) := by decide +kernel
theorem KD_24 : KD[24]? = some (.inl 9) := by decide +kernel
theorem KD_25 : KD[25]? = some (.inr (2, 400)) := by decide +kernel
theorem KD_26 : KD[26]? = some (.inr (0, 401)) := by decide +kernel
theorem KD_27 : KD[27]? = some (.inr (0, 401)) := by decide +kernel
theorem KD_28 : KD[28]? = some (.inr (0, 401)) := by decide +kernel
theorem KD_29 : KD[29]? = some (.inl 6) := by decide +kernel
theorem KD_30 : KD[30]? = some (.inl 4) := by decide +kernel
theorem KD_31 : KD[31]? = some (.inr (0, 98)) := by decide +kernel
theorem KD_32 : KD[32]? = some (.inr (0, 14)) := by decide +kernel
theorem KD_33 : KD[33]? = some (.inr (0, 16)) := by decide +kernel
theorem KD_34 : KD[34]? = some (.inr (0, 16)) := by decide +kernel
theorem KD_35 : KD[35]? = some (.inl 8) := by decide +kernel
theorem KD_36 : KD[36]? = some (.inr (0, 9)) := by decide +kernel
theorem KD_37 : KD[37]? = some (.inr (0, 9)) := by decide +kernel
theorem KD_38 : KD[38]? = some (.inr (0, 9)) := by decide +kernel
theorem KD_39 : KD[39]? = some (.inr (0, 512)) := by decide +kernel
theorem KD_40 : KD[40]? = some (.inr (0, 512)) := by decide +kernel
theorem KD_41 : KD[41]? = some (.inr (0, 512)) := by decide +kernel
theorem KD_42 : KD[42]? = some (.inr (0, 16)) := by decide +kernel
theorem KD_43 : KD[43]? = some (.inr (0, 144)) := by decide +kernel
theorem KD_44 : KD[44]? = some (.inr (0, 48)) := by decide +kernel
theorem KD_45 : KD[45]? = some (.inr (0, 3)) := by decide +kernel
theorem KD_46 : KD[46]? = some (.inr (0, 9)) := by decide +kernel
theorem KD_47 : KD[47]? = some (.inr (0, 9)) := by decide +kernel
theorem KD_48 : KD[48]? = some (.inl 2) := by decide +kernel
theorem KD_49 : KD[49]? = some (.inr (0, 3)) := by decide +kernel
theorem KD_50 : KD[50]? = some (.inr (0, 14)) := by decide +kernel
theorem KD_51 : KD[51]? = some (.inl 3) := by decide +kernel
theorem KD_52 : KD[52]? = some (.inr (0, 6)) := by decide +kernel
theorem KD_53 : KD[53]? = some (.inr (0, 3)) := by decide +kernel
theorem KD_54 : KD[54]? = some (.inr (0, 3)) := by decide +kernel
theorem KD_55 : KD[55]? = some (.inr (0, 6)) := by decide +kernel
theorem KD_56 : KD[56]? = some (.inr (0, 6)) := by decide +kernel
theorem KD_57 : KD[57]? = some (.inl 0) := by decide +kernel
theorem KD_58 : KD[58]? = some (.inr (0, 400)) := by decide +kernel
theorem KD_59 : KD[59]? = some (.inr (0, 400)) := by decide +kernel
theorem KD_60 : KD[60]? = some (.inr (0, 400)) := by decide +kernel
theorem KD_61 : KD[61]? = some (.inr (0, 14)) := by decide +kernel
theorem KD_62 : KD[62]? = some (.inl 7) := by decide +kernel
theorem KD_63 : KD[63]? = some (.inr (0, 16)) := by decide +kernel
theorem KD_64 : KD[64]? = some (.inr (0, 16)) := by decide +kernel
theorem KD_65 : KD[65]? = some (.inr (0, 16)) := by decide +kernel
theorem KD_66 : KD[66]? = some (.inr (0, 32)) := by decide +kernel
theorem KD_67 : KD[67]? = some (.inr (1, 128)) := by decide +kernel
theorem KD_68 : KD[68]? = some (.inr (0, 128)) := by decide +kernel
theorem KD_69 : KD[69]? = some (.inr (0, 128)) := by decide +kernel
theorem KD_70 : KD[70]? = some (.inr (0, 128)) := by decide +kernel
theorem KD_71 : KD[71]? = some (.inl 7) := by decide +kernel
theorem KD_72 : KD[72]? = some (.inr (0, 16)) := by decide +kernel
theorem KD_73 : KD[73]? = some (.inr (0, 16)) := by decide +kernel
theorem KD_74 : KD[74]? = some (.inr (0, 16)) := by decide +kernel
theorem KD_75 : KD[75]? = some (.inr (0, 32)) := by decide +kernel
theorem KD_76 : KD[76]? = some (.inr (1, 128)) := by decide +kernel
theorem KD_77 : KD[77]? = some (.inr (0, 128)) := by decide +kernel
theorem KD_78 : KD[78]? = some (.inr (0, 128)) := by decide +kernel
theorem KD_79 : KD[79]? = some (.inr (0, 128)) := by decide +kernel
theorem KD_80 : KD[80]? = some (.inl 11) := by decide +kernel
theorem KD_81 : KD[81]? = some (.inr (0, 14)) := by decide +kernel
theorem KD_82 : KD[82]? = some (.inr (0, 14)) := by decide +kernel
theorem KD_83 : KD[83]? = some (.inr (0, 14)) := by decide +kernel
theorem KD_84 : KD[84]? = some (.inr (0, 14)) := by decide +kernel
theorem KD_85 : KD[85]? = some (.inr (0, 14)) := by decide +kernel
theorem KD_86 : KD[86]? = some (.inr (0, 42)) := by decide +kernel
theorem KD_87 : KD[87]? = some (.inr (0, 196)) := by decide +kernel
theorem KD_88 : KD[88]? = some (.inr (1, 196)) := by decide +kernel
theorem KD_89 : KD[89]? = some (.inr (1, 196)) := by decide +kernel
theorem KD_90 : KD[90]? = some (.inr (1, 42)) := by decide +kernel
theorem KD_91 : KD[91]? = some (.inr (0, 3)) := by decide +kernel
theorem KD_92 : KD[92]? = some (.inr (0, 300)) := by decide +kernel
theorem KD_93 : KD[93]? = some (.inr (0, 300)) := by decide +kernel
theorem KD_94 : KD[94]? = some (.inr (0, 300)) := by decide +kernel
theorem KD_95 : KD[95]? = some (.inr (0, 300)) := by decide +kernel
theorem KD_96 : KD[96]? = some (.inr (0, 300)) := by decide +kernel
theorem KD_97 : KD[97]? = some (.inr (0, 32)) := by decide +kernel
theorem KD_98 : KD[98]? = some (.inr (0, 32)) := by decide +kernel
theorem KD_99 : KD[99]? = some (.inr (0, 32)) := by decide +kernel
theorem KD_100 : KD[100]? = some (.inr (0, 64)) := by decide +kernel
theorem KD_101 : KD[101]? = some (.inr (1, 256)) := by decide +kernel
theorem KD_102 : KD[102]? = some (.inr (0, 256)) := by decide +kernel
theorem KD_103 : KD[103]? = some (.inr (0, 256)) := by decide +kernel
theorem KD_104 : KD[104]? = some (.inr (0, 256)) := by decide +kernel
theorem KD_105 : KD[105]? = some (.inr (3, 400)) := by decide +kernel
theorem KD_106 : KD[106]? = some (.inr (0, 98)) := by decide +kernel
theorem KD_107 : KD[107]? = some (.inr (1, 448)) := by decide +kernel
theorem KD_108 : KD[108]? = some (.inr (0, 14)) := by decide +kernel
theorem KD_109 : KD[109]? = some (.inr (0, 14)) := by decide +kernel
theorem KD_110 : KD[110]? = some (.inr (0, 14)) := by decide +kernel
theorem KD_111 : KD[111]? = some (.inr (1, 14)) := by decide +kernel
theorem KD_112 : KD[112]? = some (.inr (0, 6)) := by decide +kernel
theorem KD_113 : KD[113]? = some (.inr (0, 6)) := by decide +kernel
theorem KD_114 : KD[114]? = some (.inr (0, 14)) := by decide +kernel
theorem KD_115 : KD[115]? = some (.inr (0, 14)) := by decide +kernel
theorem KD_116 : KD[116]? = some (.inr (0, 400)) := by decide +kernel
theorem KD_117 : KD[117]? = some (.inr (0, 400)) := by decide +kernel
theorem KD_118 : KD[118]? = some (.inr (0, 400)) := by decide +kernel
theorem KD_119 : KD[119]? = some (.inr (0, 14)) := by decide +kernel
theorem KD_120 : KD[120]? = some (.inr (4, 1)) := by decide +kernel
theorem FR_0_0 : FR 0 0 = 5 := by decide +kernel
theorem FR_0_1 : FR 0 1 = 19 := by decide +kernel
theorem FR_0_2 : FR 0 2 = 26 := by decide +kernel
theorem FR_0_3 : FR 0 3 = 31 := by decide +kernel
theorem FR_0_4 : FR 0 4 = 32 := by decide +kernel
theorem FR_0_5 : FR 0 5 = 37 := by decide +kernel
theorem FR_0_6 : FR 0 6 = 50 := by decide +kernel
theorem FR_0_7 : FR 0 7 = 53 := by decide +kernel
theorem FR_0_8 : FR 0 8 = 59 := by decide +kernel
theorem FR_0_9 : FR 0 9 = 3 := by decide +kernel
theorem FR_0_10 : FR 0 10 = 4 := by decide +kernel
theorem FR_0_11 : FR 0 11 = 1 := by decide +kernel
theorem FR_0_12 : FR 0 12 = 1 := by decide +kernel
theorem FR_0_13 : FR 0 13 = 0 := by decide +kernel
theorem FR_0_14 : FR 0 14 = 0 := by decide +kernel
theorem FR_0_15 : FR 0 15 = 0 := by decide +kernel
theorem FR_0_16 : FR 0 16 = 0 := by decide +kernel
theorem FR_0_17 : FR 0 17 = 0 := by decide +kernel
theorem FR_0_18 : FR 0 18 = 0 := by decide +kernel
theorem FR_3_0 : FR 3 0 = 0 := by decide +kernel
theorem FR_3_1 : FR 3 1 = 6 := by decide +kernel
theorem FR_3_2 : FR 3 2 = 7 := by decide +kernel
theorem FR_3_3 : FR 3 3 = 8 := by decide +kernel
theorem FR_3_4 : FR 3 4 = 9 := by decide +kernel
theorem FR_3_5 : FR 3 5 = 10 := by decide +kernel
theorem FR_3_6 : FR 3 6 = 11 := by decide +kernel
theorem FR_3_7 : FR 3 7 = 12 := by decide +kernel
theorem FR_3_8 : FR 3 8 = 13 := by decide +kernel
theorem FR_3_9 : FR 3 9 = 14 := by decide +kernel
theorem FR_3_10 : FR 3 10 = 15 := by decide +kernel
theorem FR_3_11 : FR 3 11 = 16 := by decide +kernel
theorem FR_3_12 : FR 3 12 = 17 := by decide +kernel
theorem FR_3_13 : FR 3 13 = 0 := by decide +kernel
theorem FR_3_14 : FR 3 14 = 18 := by decide +kernel
theorem FR_17_0 : FR 17 0 = 0 := by decide +kernel
theorem FR_17_1 : FR 17 1 = 20 := by decide +kernel
theorem FR_17_2 : FR 17 2 = 21 := by decide +kernel
theorem FR_17_3 : FR 17 3 = 22 := by decide +kernel
theorem FR_17_4 : FR 17 4 = 23 := by decide +kernel
theorem FR_17_5 : FR 17 5 = 24 := by decide +kernel
theorem FR_17_6 : FR 17 6 = 25 := by decide +kernel
theorem FR_24_0 : FR 24 0 = 0 := by decide +kernel
theorem FR_24_1 : FR 24 1 = 27 := by decide +kernel
theorem FR_24_2 : FR 24 2 = 0 := by decide +kernel
theorem FR_24_3 : FR 24 3 = 28 := by decide +kernel
theorem FR_24_4 : FR 24 4 = 29 := by decide +kernel
theorem FR_24_5 : FR 24 5 = 30 := by decide +kernel
theorem FR_29_0 : FR 29 0 = 0 := by decide +kernel
theorem FR_29_1 : FR 29 1 = 0 := by decide +kernel
theorem FR_29_2 : FR 29 2 = 26 := by decide +kernel
theorem FR_29_3 : FR 29 3 = 1 := by decide +kernel
theorem FR_29_4 : FR 29 4 = 0 := by decide +kernel
theorem FR_29_5 : FR 29 5 = 0 := by decide +kernel
theorem FR_29_6 : FR 29 6 = 0 := by decide +kernel
theorem FR_29_7 : FR 29 7 = 0 := by decide +kernel
theorem FR_30_0 : FR 30 0 = 5 := by decide +kernel
theorem FR_30_1 : FR 30 1 = 19 := by decide +kernel
theorem FR_30_2 : FR 30 2 = 1 := by decide +kernel
theorem FR_30_3 : FR 30 3 = 0 := by decide +kernel
theorem FR_30_4 : FR 30 4 = 33 := by decide +kernel
theorem FR_30_5 : FR 30 5 = 34 := by decide +kernel
theorem FR_30_6 : FR 30 6 = 35 := by decide +kernel
theorem FR_30_7 : FR 30 7 = 36 := by decide +kernel
theorem FR_35_0 : FR 35 0 = 5 := by decide +kernel
theorem FR_35_1 : FR 35 1 = 32 := by decide +kernel
theorem FR_35_2 : FR 35 2 = 0 := by decide +kernel
theorem FR_35_3 : FR 35 3 = 38 := by decide +kernel
theorem FR_35_4 : FR 35 4 = 39 := by decide +kernel
theorem FR_35_5 : FR 35 5 = 40 := by decide +kernel
theorem FR_35_6 : FR 35 6 = 41 := by decide +kernel
theorem FR_35_7 : FR 35 7 = 42 := by decide +kernel
theorem FR_35_8 : FR 35 8 = 43 := by decide +kernel
theorem FR_35_9 : FR 35 9 = 0 := by decide +kernel
theorem FR_35_10 : FR 35 10 = 44 := by decide +kernel
theorem FR_35_11 : FR 35 11 = 45 := by decide +kernel
theorem FR_35_12 : FR 35 12 = 46 := by decide +kernel
theorem FR_35_13 : FR 35 13 = 47 := by decide +kernel
theorem FR_35_14 : FR 35 14 = 48 := by decide +kernel
theorem FR_35_15 : FR 35 15 = 49 := by decide +kernel
theorem FR_35_16 : FR 35 16 = 0 := by decide +kernel
theorem FR_35_17 : FR 35 17 = 0 := by decide +kernel
theorem FR_35_18 : FR 35 18 = 0 := by decide +kernel
theorem FR_35_19 : FR 35 19 = 0 := by decide +kernel
theorem FR_48_0 : FR 48 0 = 5 := by decide +kernel
theorem FR_48_1 : FR 48 1 = 32 := by decide +kernel
theorem FR_48_2 : FR 48 2 = 51 := by decide +kernel
theorem FR_48_3 : FR 48 3 = 52 := by decide +kernel
theorem FR_48_4 : FR 48 4 = 0 := by decide +kernel
theorem FR_48_5 : FR 48 5 = 0 := by decide +kernel
theorem FR_48_6 : FR 48 6 = 0 := by decide +kernel
theorem FR_51_0 : FR 51 0 = 0 := by decide +kernel
theorem FR_51_1 : FR 51 1 = 54 := by decide +kernel
theorem FR_51_2 : FR 51 2 = 55 := by decide +kernel
theorem FR_51_3 : FR 51 3 = 56 := by decide +kernel
theorem FR_51_4 : FR 51 4 = 57 := by decide +kernel
theorem FR_51_5 : FR 51 5 = 58 := by decide +kernel
theorem FR_51_6 : FR 51 6 = 0 := by decide +kernel
theorem FR_57_0 : FR 57 0 = 0 := by decide +kernel
theorem FR_57_1 : FR 57 1 = 60 := by decide +kernel
theorem FR_57_2 : FR 57 2 = 61 := by decide +kernel
theorem FR_57_3 : FR 57 3 = 62 := by decide +kernel
theorem FR_57_4 : FR 57 4 = 63 := by decide +kernel
theorem FR_62_0 : FR 62 0 = 0 := by decide +kernel
theorem FR_62_1 : FR 62 1 = 65 := by decide +kernel
theorem FR_62_2 : FR 62 2 = 66 := by decide +kernel
theorem FR_62_3 : FR 62 3 = 67 := by decide +kernel
theorem FR_62_4 : FR 62 4 = 68 := by decide +kernel
theorem FR_62_5 : FR 62 5 = 69 := by decide +kernel
theorem FR_62_6 : FR 62 6 = 70 := by decide +kernel
theorem FR_62_7 : FR 62 7 = 71 := by decide +kernel
theorem FR_62_8 : FR 62 8 = 72 := by decide +kernel
theorem FR_71_0 : FR 71 0 = 0 := by decide +kernel
theorem FR_71_1 : FR 71 1 = 74 := by decide +kernel
theorem FR_71_2 : FR 71 2 = 75 := by decide +kernel
theorem FR_71_3 : FR 71 3 = 76 := by decide +kernel
theorem FR_71_4 : FR 71 4 = 77 := by decide +kernel
theorem FR_71_5 : FR 71 5 = 78 := by decide +kernel
theorem FR_71_6 : FR 71 6 = 79 := by decide +kernel
theorem FR_71_7 : FR 71 7 = 80 := by decide +kernel
theorem FR_71_8 : FR 71 8 = 81 := by decide +kernel
theorem FR_80_0 : FR 80 0 = 0 := by decide +kernel
theorem FR_80_1 : FR 80 1 = 0 := by decide +kernel
theorem FR_80_2 : FR 80 2 = 83 := by decide +kernel
theorem FR_80_3 : FR 80 3 = 84 := by decide +kernel
theorem FR_80_4 : FR 80 4 = 85 := by decide +kernel
theorem FR_80_5 : FR 80 5 = 86 := by decide +kernel
theorem FR_80_6 : FR 80 6 = 87 := by decide +kernel
theorem FR_80_7 : FR 80 7 = 88 := by decide +kernel
theorem FR_80_8 : FR 80 8 = 89 := by decide +kernel
theorem FR_80_9 : FR 80 9 = 90 := by decide +kernel
theorem FR_80_10 : FR 80 10 = 91 := by decide +kernel
theorem FR_80_11 : FR 80 11 = 92 := by decide +kernel
theorem FR_80_12 : FR 80 12 = 0 := by decide +kernel
theorem FR_80_13 : FR 80 13 = 93 := by decide +kernel
theorem FR_80_14 : FR 80 14 = 0 := by decide +kernel
theorem FR_80_15 : FR 80 15 = 0 := by decide +kernel
theorem FR_80_16 : FR 80 16 = 94 := by decide +kernel
theorem FR_80_17 : FR 80 17 = 95 := by decide +kernel
theorem FR_80_18 : FR 80 18 = 96 := by decide +kernel
theorem FR_80_19 : FR 80 19 = 97 := by decide +kernel
theorem FR_80_20 : FR 80 20 = 98 := by decide +kernel
theorem FR_80_21 : FR 80 21 = 0 := by decide +kernel
theorem FR_80_22 : FR 80 22 = 0 := by decide +kernel
theorem FR_80_23 : FR 80 23 = 99 := by decide +kernel
theorem FR_80_24 : FR 80 24 = 100 := by decide +kernel
theorem FR_80_25 : FR 80 25 = 101 := by decide +kernel
theorem FR_80_26 : FR 80 26 = 102 := by decide +kernel
theorem FR_80_27 : FR 80 27 = 103 := by decide +kernel
theorem FR_80_28 : FR 80 28 = 104 := by decide +kernel
theorem FR_80_29 : FR 80 29 = 105 := by decide +kernel
theorem FR_80_30 : FR 80 30 = 106 := by decide +kernel
theorem FR_80_31 : FR 80 31 = 107 := by decide +kernel
theorem FR_80_32 : FR 80 32 = 0 := by decide +kernel
theorem FR_80_33 : FR 80 33 = 0 := by decide +kernel
theorem FR_80_34 : FR 80 34 = 0 := by decide +kernel
theorem FR_80_35 : FR 80 35 = 0 := by decide +kernel
theorem FR_80_36 : FR 80 36 = 0 := by decide +kernel
theorem FR_80_37 : FR 80 37 = 0 := by decide +kernel
theorem FR_80_38 : FR 80 38 = 0 := by decide +kernel
theorem FR_80_39 : FR 80 39 = 108 := by decide +kernel
theorem FR_80_40 : FR 80 40 = 109 := by decide +kernel
theorem FR_80_41 : FR 80 41 = 110 := by decide +kernel
theorem FR_80_42 : FR 80 42 = 111 := by decide +kernel
theorem FR_80_43 : FR 80 43 = 0 := by decide +kernel
theorem FR_80_44 : FR 80 44 = 0 := by decide +kernel
theorem FR_80_45 : FR 80 45 = 0 := by decide +kernel
theorem FR_80_46 : FR 80 46 = 0 := by decide +kernel
theorem FR_80_47 : FR 80 47 = 112 := by decide +kernel
theorem FR_80_48 : FR 80 48 = 0 := by decide +kernel
theorem FR_80_49 : FR 80 49 = 113 := by decide +kernel
theorem FR_80_50 : FR 80 50 = 0 := by decide +kernel
theorem FR_80_51 : FR 80 51 = 114 := by decide +kernel
theorem FR_80_52 : FR 80 52 = 115 := by decide +kernel
theorem FR_80_53 : FR 80 53 = 116 := by decide +kernel
theorem FR_80_54 : FR 80 54 = 117 := by decide +kernel
theorem FR_80_55 : FR 80 55 = 0 := by decide +kernel
theorem FR_80_56 : FR 80 56 = 0 := by decide +kernel
theorem FR_80_57 : FR 80 57 = 118 := by decide +kernel
theorem FR_80_58 : FR 80 58 = 119 := by decide +kernel
theorem FR_80_59 : FR 80 59 = 120 := by decide +kernel
theorem FR_80_60 : FR 80 60 = 121 := by decide +kernel
abbrev isRu (r : Int) : Prop := r = 62 ∨ r = 71
theorem KD_ru {r : Int} (h : isRu r) : KD[r.toNat]? = some (.inl 7) := by rcases h with rfl | rfl <;> decide +kernel
theorem FR_ru_0 {r : Int} (h : isRu r) : FR r.toNat 0 = 0 := by rcases h with rfl | rfl <;> decide +kernel
theorem FR_ru_1 {r : Int} (h : isRu r) : FR r.toNat 1 = (r.toNat + 1) + 2 := by rcases h with rfl | rfl <;> decide +kernel
theorem KD_ru_1 {r : Int} (h : isRu r) : KD[r.toNat + 1]? = some (.inr (0, 16)) := by rcases h with rfl | rfl <;> decide +kernel
theorem FR_ru_2 {r : Int} (h : isRu r) : FR r.toNat 2 = (r.toNat + 2) + 2 := by rcases h with rfl | rfl <;> decide +kernel
theorem KD_ru_2 {r : Int} (h : isRu r) : KD[r.toNat + 2]? = some (.inr (0, 16)) := by rcases h with rfl | rfl <;> decide +kernel
theorem FR_ru_3 {r : Int} (h : isRu r) : FR r.toNat 3 = (r.toNat + 3) + 2 := by rcases h with rfl | rfl <;> decide +kernel
theorem KD_ru_3 {r : Int} (h : isRu r) : KD[r.toNat + 3]? = some (.inr (0, 16)) := by rcases h with rfl | rfl <;> decide +kernel
theorem FR_ru_4 {r : Int} (h : isRu r) : FR r.toNat 4 = (r.toNat + 4) + 2 := by rcases h with rfl | rfl <;> decide +kernel
theorem KD_ru_4 {r : Int} (h : isRu r) : KD[r.toNat + 4]? = some (.inr (0, 32)) := by rcases h with rfl | rfl <;> decide +kernel
theorem FR_ru_5 {r : Int} (h : isRu r) : FR r.toNat 5 = (r.toNat + 5) + 2 := by rcases h with rfl | rfl <;> decide +kernel
theorem KD_ru_5 {r : Int} (h : isRu r) : KD[r.toNat + 5]? = some (.inr (1, 128)) := by rcases h with rfl | rfl <;> decide +kernel
theorem FR_ru_6 {r : Int} (h : isRu r) : FR r.toNat 6 = (r.toNat + 6) + 2 := by rcases h with rfl | rfl <;> decide +kernel
theorem KD_ru_6 {r : Int} (h : isRu r) : KD[r.toNat + 6]? = some (.inr (0, 128)) := by rcases h with rfl | rfl <;> decide +kernel
theorem FR_ru_7 {r : Int} (h : isRu r) : FR r.toNat 7 = (r.toNat + 7) + 2 := by rcases h with rfl | rfl <;> decide +kernel
theorem KD_ru_7 {r : Int} (h : isRu r) : KD[r.toNat + 7]? = some (.inr (0, 128)) := by rcases h with rfl | rfl <;> decide +kernel
theorem FR_ru_8 {r : Int} (h : isRu r) : FR r.toNat 8 = (r.toNat + 8) + 2 := by rcases h with rfl | rfl <;> decide +kernel
theorem KD_ru_8 {r : Int} (h : isRu r) : KD[r.toNat + 8]? = some (.inr (0, 128)) := by rcases h with rfl | rfl <;> decide +kernel
/-! the world: all cells at the addresses ad, with the numbers of M -/
def obN (ci : Nat) : Nat := match vwCl[ci]? with
  | some q => q.2.2
  | none => 0
def fv (ad : Nat → Nat) (q : Nat) (x : Int) : Value := match q with
  | 0 => .int (i2 x)
  | 1 => if x < 0 then .null else .ref (ad x.toNat)
  | T + 2 => .ref (ad T)
theorem fv_0 {ad : Nat → Nat} {q : Nat} {x : Int} (h : q = 0) : fv ad q x = .int (i2 x) := by subst h; rfl
theorem fv_1 {ad : Nat → Nat} {q : Nat} {x : Int} (h : q = 1) (hx : 0 ≤ x) : fv ad q x = .ref (ad x.toNat) := by subst h; exact if_neg (by omega)
theorem fv_r {ad : Nat → Nat} {q T : Nat} {x : Int} (h : q = T + 2) : fv ad q x = .ref (ad T) := by subst h; rfl
def enc (aC : Nat → ClassId) (ad : Nat → Nat) (M : Mem) (c : Nat) : va_E := match KD[c]? with
  | some (.inl ci) => .inr (ci, (List.range (obN ci)).map fun k => fv ad (FR c k) (M c k))
  | some (.inr q) => if q.1 = 4 then .inl (aC q.1, (q.2, .inr (.inl fun j => Int64.ofInt (M c j)))) else .inl (aC q.1, (q.2, .inl fun j => i2 (M c j)))
  | none => .inr (0, [])
theorem enc_o {aC : Nat → ClassId} {ad : Nat → Nat} {M : Mem} {c ci : Nat} (h : KD[c]? = some (.inl ci)) : enc aC ad M c = .inr (ci, (List.range (obN ci)).map fun k => fv ad (FR c k) (M c k)) := by
  unfold enc; simp only [h]
theorem enc_a {aC : Nat → ClassId} {ad : Nat → Nat} {M : Mem} {c t n : Nat} (h : KD[c]? = some (.inr (t, n))) (ht : t ≠ 4) : enc aC ad M c = .inl (aC t, (n, .inl fun j => i2 (M c j))) := by
  unfold enc; simp only [h, if_neg ht]
theorem enc_l {aC : Nat → ClassId} {ad : Nat → Nat} {M : Mem} {c n : Nat} (h : KD[c]? = some (.inr (4, n))) : enc aC ad M c = .inl (aC 4, (n, .inr (.inl fun j => Int64.ofInt (M c j)))) := by
  unfold enc; simp only [h, if_true]
theorem enc_eq {aC : Nat → ClassId} {ad : Nat → Nat} {M M' : Mem} {c : Nat} (h : ∀ i, M c i = M' c i) : enc aC ad M c = enc aC ad M' c := by
  have e : M c = M' c := funext h
  unfold enc; rw [e]
def wl (aC : Nat → ClassId) (ad : Nat → Nat) (M : Mem) : va_W := (List.range NC).map fun c => (ad c, enc aC ad M c)
theorem KD_lt {c : Nat} {x : Nat ⊕ (Nat × Nat)} (h : KD[c]? = some x) : c < NC := by
  have := (List.getElem?_eq_some_iff.mp h).1
  have e : KD.length = NC := by decide +kernel
  omega
theorem wl_get {aC : Nat → ClassId} {ad : Nat → Nat} {M : Mem} {c : Nat} (h : c < NC) : (wl aC ad M)[c]? = some (ad c, enc aC ad M c) := by
  unfold wl
  rw [List.getElem?_map, List.getElem?_range h]; rfl
theorem wl_len {aC : Nat → ClassId} {ad : Nat → Nat} {M : Mem} : (wl aC ad M).length = NC := by unfold wl; rw [List.length_map, List.length_range]
theorem wl_none {aC : Nat → ClassId} {ad : Nat → Nat} {M : Mem} {k : Nat} {q : Nat × va_E} (h : (wl aC ad M)[k]? = some q) : k < NC ∧ q = (ad k, enc aC ad M k) := by
  have hk : k < NC := by have := (List.getElem?_eq_some_iff.mp h).1; rw [wl_len] at this; exact this
  rw [wl_get hk] at h
  exact ⟨hk, (Option.some.inj h).symm⟩
theorem wl_set {aC : Nat → ClassId} {ad : Nat → Nat} {M M' : Mem} {c : Nat} (hc : c < NC) (h : ∀ c', c' ≠ c → ∀ i, M c' i = M' c' i) {e : va_E} (he : e = enc aC ad M' c) : (wl aC ad M).set c (ad c, e) = wl aC ad M' := by
  subst he
  apply List.ext_getElem?
  intro k
  by_cases hk : k = c
  · subst hk
    rw [List.getElem?_set_self (by rw [wl_len]; exact hc), wl_get hc]
  · rw [List.getElem?_set_ne (Ne.symm hk)]
    by_cases hkN : k < NC
    · rw [wl_get hkN, wl_get hkN, enc_eq (h k hk)]
    · rw [List.getElem?_eq_none (by rw [wl_len]; omega), List.getElem?_eq_none (by rw [wl_len]; omega)]
theorem mup_ne {M : Mem} {c c' i : Nat} {v : Int} (h : c' ≠ c) (j : Nat) : mup M c i v c' j = M c' j := if_neg (fun q => h q.1)
theorem mup_self {M : Mem} {c i : Nat} {v : Int} : mup M c i v c i = v := if_pos ⟨rfl, rfl⟩
theorem mup_row {M : Mem} {c i : Nat} {v : Int} (j : Nat) : mup M c i v c j = if j = i then v else M c j := by
  unfold mup; by_cases h : j = i <;> simp [h]
def inM (M : Mem) : Prop := ∀ c i, inR (M c i)
theorem inM.up {M : Mem} (h : inM M) {c i : Nat} {v : Int} (hv : inR v) : inM (mup M c i v) := by
  intro c' i'
  unfold mup
  split
  · exact hv
  · exact h c' i'
def tysL (aC : Nat → ClassId) : List (ClassId × FieldType) := [(aC 0, .int), (aC 1, .boolean), (aC 2, .char), (aC 3, .byte), (aC 4, .long)]
/-- which addresses are the world's, or new -/
def AA (ad : Nat → Nat) (sz : Nat) : Nat → Prop := fun q => (∃ c, c < NC ∧ q = ad c) ∨ sz ≤ q
def Inj (ad : Nat → Nat) : Prop := ∀ i j, i < NC → j < NC → ad i = ad j → i = j
theorem wl_D {aC : Nat → ClassId} {ad : Nat → Nat} {M : Mem} (hi : Inj ad) {A : Nat → Prop} (hA : ∀ c, c < NC → A (ad c)) : va_D A (wl aC ad M) := by
  refine ⟨fun i j p q hp hq e => ?_, fun k q hq => ?_⟩
  · obtain ⟨h1, rfl⟩ := wl_none hp
    obtain ⟨h2, rfl⟩ := wl_none hq
    exact hi i j h1 h2 e
  · obtain ⟨h1, rfl⟩ := wl_none hq
    exact hA k h1
def WS (D : va_G) (aC : Nat → ClassId) (ad : Nat → Nat) (A : Nat → Prop) (H0 : Heap) (M : Mem) (H : Heap) (locs : List Loc) : Prop := va_P D vwCl (wl aC ad M) H ∧ va_S A H0 H locs ∧ inM M
abbrev CX (p : Program) (s : State) (m : MethodId) (args : Array Value) (c : Code) (cc : ByteArray) (nL : Nat) (own : String) (D : va_G) (aC : Nat → ClassId) (ad : Nat → Nat) (sg : SG) (A : Nat → Prop) (H0 : Heap) : Prop := CallFix p m c cc nL s args BW own ∧ va_K D vwCl (tysL aC) s ∧ Inj ad ∧ (∀ k, k < NC → A (ad k)) ∧ (∀ q, H0.size ≤ q → A q) ∧ H0 = s.heap ∧ STR sg A s H0
def FldG (own : String) (idx ci k : Nat) : Prop := ∃ (C : String) (T : u_T) (N : Nat), vwCl[ci]? = some (C, T, N) ∧ k < N ∧ (T k).1 = C ∧ (∀ w ∈ u_ws C T N, w ∈ BW) ∧ Cond.fieldLink own idx C (T k).2.1 (T k).2.2.1 ∈ BW
def FldP (own : String) (idx ci k : Nat) (ty : FieldType) : Prop := ∃ (C : String) (T : u_T) (N : Nat) (ty0 : Nat → FieldType), vwCl[ci]? = some (C, T, N) ∧ k < N ∧ (T k).1 = C ∧ (∀ w ∈ u_ws C T N, w ∈ BW) ∧ Cond.fieldLink own idx C (T k).2.1 (T k).2.2.1 ∈ BW ∧ (∀ k, k < N → parseFieldDescriptor (T k).2.2.1 = some (ty0 k)) ∧ (∀ a, a < N → ∀ b, b < N → a ≠ b → (T a).2.1 ≠ (T b).2.1) ∧ (T k).2.2.2 = false ∧ parseFieldDescriptor (T k).2.2.1 = some ty
theorem BW_good {w : Cond} (h : w ∈ BW) : (w.onTables && w.keeps) = true ∨ ∃ ty, w = .arrayClass ty := good_of_word (BW_ok h)
theorem obN_of {ci : Nat} {C : String} {T : u_T} {N : Nat} (h : vwCl[ci]? = some (C, T, N)) : obN ci = N := by unfold obN; rw [h]
section GROWS
variable {p : Program} {l : Launch} {e : Env} {R : Room} {s : State} {m : MethodId} {args : Array Value} {below : List Frame} {meth : Method} {c : Code} {H : Heap} {locs : List Loc} {cells slots : Nat} {Q : State → Prop}
variable {cc : ByteArray} {nL : Nat} {own : String} {D : va_G} {aC : Nat → ClassId} {ad : Nat → Nat} {sg : SG} {A : Nat → Prop} {H0 : Heap} {M : Mem} {pc : Nat} {ls : Array Slot} {rest : List Value}
theorem g_get {o k ci idx : Nat} {v : Value} (X : CX p s m args c cc nL own D aC ad sg A H0) (w : WS D aC ad A H0 M H locs) (fg : FldG own idx ci k) (ho : KD[o]? = some (.inl ci)) (hv : fv ad (FR o k) (M o k) = v) (dg : decode cc pc = .ok (.getfield idx, 3))
    (kk : W p l e R s m args below meth c H locs cells slots Q (F0 m (pc + 3) ls (v :: rest))) : W p l e R s m args below meth c H locs cells slots Q (F0 m pc ls (.ref (ad o) :: rest)) := by
  obtain ⟨⟨hx, hb, hml, hown, hts⟩, hK, hi, hA⟩ := X
  obtain ⟨C, T, N, h1, h2, h3, h4, h5⟩ := fg
  refine va_get (C := C) (T := T) (N := N) (ref := C) hx hb hts h4 hown hK w.1 o ((wl_get (KD_lt ho)).trans (by rw [enc_o ho])) h1 k h2 (hts _ h5) (fun x hx => by rw [h3] at hx; exact hx) (v := v) ?_ dg kk
  rw [List.getElem?_map, List.getElem?_range (by rw [obN_of h1]; exact h2)]
  exact congrArg some hv
theorem g_geti {o k ci idx : Nat} (X : CX p s m args c cc nL own D aC ad sg A H0) (w : WS D aC ad A H0 M H locs) (fg : FldG own idx ci k) (ho : KD[o]? = some (.inl ci)) (hf : FR o k = 0) (dg : decode cc pc = .ok (.getfield idx, 3))
    (kk : W p l e R s m args below meth c H locs cells slots Q (F0 m (pc + 3) ls (.int (i2 (M o k)) :: rest))) : W p l e R s m args below meth c H locs cells slots Q (F0 m pc ls (.ref (ad o) :: rest)) := g_get X w fg ho (fv_0 hf) dg kk
theorem g_getr {o k ci idx T : Nat} (X : CX p s m args c cc nL own D aC ad sg A H0) (w : WS D aC ad A H0 M H locs) (fg : FldG own idx ci k) (ho : KD[o]? = some (.inl ci)) (hf : FR o k = T + 2) (dg : decode cc pc = .ok (.getfield idx, 3))
    (kk : W p l e R s m args below meth c H locs cells slots Q (F0 m (pc + 3) ls (.ref (ad T) :: rest))) : W p l e R s m args below meth c H locs cells slots Q (F0 m pc ls (.ref (ad o) :: rest)) := g_get X w fg ho (fv_r hf) dg kk
theorem g_getd {o k ci idx : Nat} (X : CX p s m args c cc nL own D aC ad sg A H0) (w : WS D aC ad A H0 M H locs) (fg : FldG own idx ci k) (ho : KD[o]? = some (.inl ci)) (hf : FR o k = 1) (hr : isRu (M o k)) (dg : decode cc pc = .ok (.getfield idx, 3))
    (kk : W p l e R s m args below meth c H locs cells slots Q (F0 m (pc + 3) ls (.ref (ad (M o k).toNat) :: rest))) : W p l e R s m args below meth c H locs cells slots Q (F0 m pc ls (.ref (ad o) :: rest)) := g_get X w fg ho (fv_1 hf (by rcases hr with h | h <;> omega)) dg kk
theorem g_put {o k ci idx : Nat} {ty : FieldType} {v : Value} {x : Int} (X : CX p s m args c cc nL own D aC ad sg A H0) (w : WS D aC ad A H0 M H locs) (fp : FldP own idx ci k ty) (ho : KD[o]? = some (.inl ci)) (hv : fv ad (FR o k) x = v) (hx0 : inR x) (hn : narrow ty v = v) (hfit : fits ty v = true) (dg : decode cc pc = .ok (.putfield idx, 3))
    (kk : ∀ (H1 : Heap) (locs1 : List Loc), WS D aC ad A H0 (mup M o k x) H1 locs1 → W p l e R s m args below meth c H1 locs1 cells slots Q (F0 m (pc + 3) ls rest)) : W p l e R s m args below meth c H locs cells slots Q (F0 m pc ls (v :: .ref (ad o) :: rest)) := by
  obtain ⟨⟨hx, hb, hml, hown, hts⟩, hK, hi, hA, hA2, hSt⟩ := X
  obtain ⟨C, T, N, ty0, h1, h2, h3, h4, h5, h6, h7, h8, h9⟩ := fp
  refine va_put (C := C) (T := T) (N := N) (ref := C) hx hb hts h4 ty0 h6 h7 hown hK w.1 (wl_D hi hA) w.2.1 o ((wl_get (KD_lt ho)).trans (by rw [enc_o ho])) h1 k h2 (hts _ h5) (fun x hx => by rw [h3] at hx; exact hx) h8 h9 hn hfit (by rw [List.length_map, List.length_range, obN_of h1]; exact h2) dg (fun H1 locs1 hP hD hS => kk H1 locs1 ⟨?_, hS, w.2.2.up hx0⟩)
  rw [wl_set (M' := mup M o k x) (KD_lt ho) (fun c' hc i => (mup_ne hc i).symm)] at hP
  · exact hP
  · rw [enc_o ho]
    congr 2
    apply List.ext_getElem?
    intro j
    by_cases hj : j = k
    · subst hj
      rw [List.getElem?_set_self (by rw [List.length_map, List.length_range, obN_of h1]; exact h2), List.getElem?_map, List.getElem?_range (by rw [obN_of h1]; exact h2)]
      show some v = some (fv ad (FR o j) (mup M o j x o j))
      rw [mup_self, hv]
    · rw [List.getElem?_set_ne (Ne.symm hj), List.getElem?_map, List.getElem?_map]
      by_cases hjN : j < obN ci
      · rw [List.getElem?_range hjN]
        show some (fv ad (FR o j) (M o j)) = some (fv ad (FR o j) (mup M o k x o j))
        rw [mup_row, if_neg hj]
      · rw [List.getElem?_eq_none (by rw [List.length_range]; omega)]
        rfl
theorem g_puti {o k ci idx : Nat} {x : Int} (X : CX p s m args c cc nL own D aC ad sg A H0) (w : WS D aC ad A H0 M H locs) (fp : FldP own idx ci k .int) (ho : KD[o]? = some (.inl ci)) (hf : FR o k = 0) (hx0 : inR x) (dg : decode cc pc = .ok (.putfield idx, 3))
    (kk : ∀ (H1 : Heap) (locs1 : List Loc), WS D aC ad A H0 (mup M o k x) H1 locs1 → W p l e R s m args below meth c H1 locs1 cells slots Q (F0 m (pc + 3) ls rest)) : W p l e R s m args below meth c H locs cells slots Q (F0 m pc ls (.int (i2 x) :: .ref (ad o) :: rest)) := g_put X w fp ho (fv_0 hf) hx0 rfl rfl dg kk
theorem i2_bool {x : Int} (h : x = 0 ∨ x = 1) : narrow .boolean (.int (i2 x)) = .int (i2 x) ∧ fits .boolean (.int (i2 x)) = true := by rcases h with rfl | rfl <;> exact ⟨rfl, rfl⟩
theorem g_putz {o k ci idx : Nat} {x : Int} (X : CX p s m args c cc nL own D aC ad sg A H0) (w : WS D aC ad A H0 M H locs) (fp : FldP own idx ci k .boolean) (ho : KD[o]? = some (.inl ci)) (hf : FR o k = 0) (hx0 : x = 0 ∨ x = 1) (dg : decode cc pc = .ok (.putfield idx, 3))
    (kk : ∀ (H1 : Heap) (locs1 : List Loc), WS D aC ad A H0 (mup M o k x) H1 locs1 → W p l e R s m args below meth c H1 locs1 cells slots Q (F0 m (pc + 3) ls rest)) : W p l e R s m args below meth c H locs cells slots Q (F0 m pc ls (.int (i2 x) :: .ref (ad o) :: rest)) := g_put X w fp ho (fv_0 hf) (by rcases hx0 with rfl | rfl <;> exact ⟨by decide, by decide⟩) (i2_bool hx0).1 (i2_bool hx0).2 dg kk
theorem g_putd {o k ci idx : Nat} {C : String} {x : Int} (X : CX p s m args c cc nL own D aC ad sg A H0) (w : WS D aC ad A H0 M H locs) (fp : FldP own idx ci k (.object C)) (ho : KD[o]? = some (.inl ci)) (hf : FR o k = 1) (hx0 : isRu x) (dg : decode cc pc = .ok (.putfield idx, 3))
    (kk : ∀ (H1 : Heap) (locs1 : List Loc), WS D aC ad A H0 (mup M o k x) H1 locs1 → W p l e R s m args below meth c H1 locs1 cells slots Q (F0 m (pc + 3) ls rest)) : W p l e R s m args below meth c H locs cells slots Q (F0 m pc ls (.ref (ad x.toNat) :: .ref (ad o) :: rest)) := g_put X w fp ho (fv_1 hf (by rcases hx0 with h | h <;> omega)) (by rcases hx0 with rfl | rfl <;> exact ⟨by decide, by decide⟩) rfl rfl dg kk
/-! arrays -/
theorem g_iald {a n : Nat} {i : Int} (X : CX p s m args c cc nL own D aC ad sg A H0) (w : WS D aC ad A H0 M H locs) (ho : KD[a]? = some (.inr (0, n))) (hr : inR i) (hin : 0 ≤ i ∧ i < n) (dg : decode cc pc = .ok (.iaload, 1))
    (kk : W p l e R s m args below meth c H locs cells slots Q (F0 m (pc + 1) ls (.int (i2 (M a i.toNat)) :: rest))) : W p l e R s m args below meth c H locs cells slots Q (F0 m pc ls (.int (i2 i) :: .ref (ad a) :: rest)) := by
  obtain ⟨⟨hx, hb, hml, hown, hts⟩, hK, hi, hA, hA2, hSt⟩ := X
  refine va_iald hx hb hK w.1 a 0 ((wl_get (KD_lt ho)).trans (by rw [enc_a ho (by decide)])) rfl (i2_in hr hin) dg ?_
  rw [i2_clamp hr]; exact kk
theorem g_zald {a n : Nat} {i : Int} (X : CX p s m args c cc nL own D aC ad sg A H0) (w : WS D aC ad A H0 M H locs) (ho : KD[a]? = some (.inr (1, n))) (hr : inR i) (hin : 0 ≤ i ∧ i < n) (dg : decode cc pc = .ok (.baload, 1))
    (kk : W p l e R s m args below meth c H locs cells slots Q (F0 m (pc + 1) ls (.int (i2 (M a i.toNat)) :: rest))) : W p l e R s m args below meth c H locs cells slots Q (F0 m pc ls (.int (i2 i) :: .ref (ad a) :: rest)) := by
  obtain ⟨⟨hx, hb, hml, hown, hts⟩, hK, hi, hA, hA2, hSt⟩ := X
  refine va_zald hx hb hK w.1 a 1 ((wl_get (KD_lt ho)).trans (by rw [enc_a ho (by decide)])) rfl (i2_in hr hin) dg ?_
  rw [i2_clamp hr]; exact kk
theorem g_cald {a n : Nat} {i : Int} (X : CX p s m args c cc nL own D aC ad sg A H0) (w : WS D aC ad A H0 M H locs) (ho : KD[a]? = some (.inr (2, n))) (hr : inR i) (hin : 0 ≤ i ∧ i < n) (dg : decode cc pc = .ok (.caload, 1))
    (kk : W p l e R s m args below meth c H locs cells slots Q (F0 m (pc + 1) ls (.int (i2 (M a i.toNat)) :: rest))) : W p l e R s m args below meth c H locs cells slots Q (F0 m pc ls (.int (i2 i) :: .ref (ad a) :: rest)) := by
  obtain ⟨⟨hx, hb, hml, hown, hts⟩, hK, hi, hA, hA2, hSt⟩ := X
  refine va_cald hx hb hK w.1 a 2 ((wl_get (KD_lt ho)).trans (by rw [enc_a ho (by decide)])) rfl (i2_in hr hin) dg ?_
  rw [i2_clamp hr]; exact kk
theorem g_bald {a n : Nat} {i : Int} (X : CX p s m args c cc nL own D aC ad sg A H0) (w : WS D aC ad A H0 M H locs) (ho : KD[a]? = some (.inr (3, n))) (hr : inR i) (hin : 0 ≤ i ∧ i < n) (dg : decode cc pc = .ok (.baload, 1))
    (kk : W p l e R s m args below meth c H locs cells slots Q (F0 m (pc + 1) ls (.int (i2 (M a i.toNat)) :: rest))) : W p l e R s m args below meth c H locs cells slots Q (F0 m pc ls (.int (i2 i) :: .ref (ad a) :: rest)) := by
  obtain ⟨⟨hx, hb, hml, hown, hts⟩, hK, hi, hA, hA2, hSt⟩ := X
  refine va_bald hx hb hK w.1 a 3 ((wl_get (KD_lt ho)).trans (by rw [enc_a ho (by decide)])) rfl (i2_in hr hin) dg ?_
  rw [i2_clamp hr]; exact kk
theorem WS.arr {a t n : Nat} {i : Nat} {x : Int} {y : Int32} {H1 : Heap} {locs1 : List Loc} (w : WS D aC ad A H0 M H locs) (ho : KD[a]? = some (.inr (t, n))) (ht : t ≠ 4) (hx : inR x) (hy : y = i2 x) (hP : va_P D vwCl ((wl aC ad M).set a (ad a, .inl (aC t, n, .inl (upd (fun j => i2 (M a j)) i y)))) H1) (hS : va_S A H0 H1 locs1) : WS D aC ad A H0 (mup M a i x) H1 locs1 := by
  refine ⟨?_, hS, w.2.2.up hx⟩
  rw [wl_set (M' := mup M a i x) (KD_lt ho) (fun c' hc j => (mup_ne hc j).symm)] at hP
  · exact hP
  · rw [enc_a ho ht]
    congr 4
    funext j
    show upd (fun j => i2 (M a j)) i y j = i2 (mup M a i x a j)
    rw [mup_row, hy]
    unfold upd
    by_cases hj : j = i <;> simp [hj]
theorem g_iast {a n : Nat} {i x : Int} (X : CX p s m args c cc nL own D aC ad sg A H0) (w : WS D aC ad A H0 M H locs) (ho : KD[a]? = some (.inr (0, n))) (hr : inR i) (hin : 0 ≤ i ∧ i < n) (hx0 : inR x) (dg : decode cc pc = .ok (.iastore, 1))
    (kk : ∀ (H1 : Heap) (locs1 : List Loc), WS D aC ad A H0 (mup M a i.toNat x) H1 locs1 → W p l e R s m args below meth c H1 locs1 cells slots Q (F0 m (pc + 1) ls rest)) : W p l e R s m args below meth c H locs cells slots Q (F0 m pc ls (.int (i2 x) :: .int (i2 i) :: .ref (ad a) :: rest)) := by
  obtain ⟨⟨hx, hb, hml, hown, hts⟩, hK, hi, hA, hA2, hSt⟩ := X
  refine va_iast hx hb hK w.1 (wl_D hi hA) w.2.1 a 0 ((wl_get (KD_lt ho)).trans (by rw [enc_a ho (by decide)])) rfl (i2_in hr hin) dg (fun H1 locs1 hP hD hS => ?_)
  rw [i2_clamp hr] at hP
  exact kk H1 locs1 (w.arr ho (by decide) hx0 rfl hP hS)
theorem g_zast {a n : Nat} {i x : Int} (X : CX p s m args c cc nL own D aC ad sg A H0) (w : WS D aC ad A H0 M H locs) (ho : KD[a]? = some (.inr (1, n))) (hr : inR i) (hin : 0 ≤ i ∧ i < n) (hx0 : x = 0 ∨ x = 1) (dg : decode cc pc = .ok (.bastore, 1))
    (kk : ∀ (H1 : Heap) (locs1 : List Loc), WS D aC ad A H0 (mup M a i.toNat x) H1 locs1 → W p l e R s m args below meth c H1 locs1 cells slots Q (F0 m (pc + 1) ls rest)) : W p l e R s m args below meth c H locs cells slots Q (F0 m pc ls (.int (i2 x) :: .int (i2 i) :: .ref (ad a) :: rest)) := by
  obtain ⟨⟨hx, hb, hml, hown, hts⟩, hK, hi, hA, hA2, hSt⟩ := X
  refine va_zast hx hb hK w.1 (wl_D hi hA) w.2.1 a 1 ((wl_get (KD_lt ho)).trans (by rw [enc_a ho (by decide)])) rfl (i2_in hr hin) dg (fun H1 locs1 hP hD hS => ?_)
  rw [i2_clamp hr] at hP
  exact kk H1 locs1 (w.arr ho (by decide) (by rcases hx0 with rfl | rfl <;> exact ⟨by decide, by decide⟩) (by unfold vp_nar; rw [(i2_bool hx0).1]) hP hS)
theorem nar_char {x : Int} (h : 0 ≤ x ∧ x < 65536) : vp_nar .char (i2 x) = i2 x := by
  obtain ⟨k, rfl⟩ : ∃ k : Nat, x = k := ⟨x.toNat, by omega⟩
  rw [vp_nar_char, show i2 (k : Int) = Int32.ofNat k from Int32.ofInt_eq_ofNat]
  have e : (UInt32.ofNat k).toUInt16.toUInt32 = UInt32.ofNat k := by
    apply UInt32.toNat_inj.mp
    rw [UInt16.toNat_toUInt32, UInt32.toNat_toUInt16, UInt32.toNat_ofNat']
    omega
  show (UInt32.ofNat k).toUInt16.toUInt32.toInt32 = Int32.ofNat k
  rw [e]; rfl
theorem nar_byte {x : Int} (h : -128 ≤ x ∧ x < 128) : vp_nar .byte (i2 x) = i2 x := by
  have hr : inR x := ⟨by omega, by omega⟩
  rw [vp_nar_byte]
  apply Int32.toInt_inj.mp
  rw [Int8.toInt_toInt32, Int32.toInt_toInt8, i2_toInt hr, Int.bmod_def]
  split <;> omega
theorem g_cast {a n : Nat} {i x : Int} (X : CX p s m args c cc nL own D aC ad sg A H0) (w : WS D aC ad A H0 M H locs) (ho : KD[a]? = some (.inr (2, n))) (hr : inR i) (hin : 0 ≤ i ∧ i < n) (hx0 : 0 ≤ x ∧ x < 65536) (dg : decode cc pc = .ok (.castore, 1))
    (kk : ∀ (H1 : Heap) (locs1 : List Loc), WS D aC ad A H0 (mup M a i.toNat x) H1 locs1 → W p l e R s m args below meth c H1 locs1 cells slots Q (F0 m (pc + 1) ls rest)) : W p l e R s m args below meth c H locs cells slots Q (F0 m pc ls (.int (i2 x) :: .int (i2 i) :: .ref (ad a) :: rest)) := by
  obtain ⟨⟨hx, hb, hml, hown, hts⟩, hK, hi, hA, hA2, hSt⟩ := X
  refine va_cast hx hb hK w.1 (wl_D hi hA) w.2.1 a 2 ((wl_get (KD_lt ho)).trans (by rw [enc_a ho (by decide)])) rfl (i2_in hr hin) dg (fun H1 locs1 hP hD hS => ?_)
  rw [i2_clamp hr] at hP
  exact kk H1 locs1 (w.arr ho (by decide) ⟨by omega, by omega⟩ (nar_char hx0) hP hS)
theorem g_bast {a n : Nat} {i x : Int} (X : CX p s m args c cc nL own D aC ad sg A H0) (w : WS D aC ad A H0 M H locs) (ho : KD[a]? = some (.inr (3, n))) (hr : inR i) (hin : 0 ≤ i ∧ i < n) (hx0 : -128 ≤ x ∧ x < 128) (dg : decode cc pc = .ok (.bastore, 1))
    (kk : ∀ (H1 : Heap) (locs1 : List Loc), WS D aC ad A H0 (mup M a i.toNat x) H1 locs1 → W p l e R s m args below meth c H1 locs1 cells slots Q (F0 m (pc + 1) ls rest)) : W p l e R s m args below meth c H locs cells slots Q (F0 m pc ls (.int (i2 x) :: .int (i2 i) :: .ref (ad a) :: rest)) := by
  obtain ⟨⟨hx, hb, hml, hown, hts⟩, hK, hi, hA, hA2, hSt⟩ := X
  refine va_bast hx hb hK w.1 (wl_D hi hA) w.2.1 a 3 ((wl_get (KD_lt ho)).trans (by rw [enc_a ho (by decide)])) rfl (i2_in hr hin) dg (fun H1 locs1 hP hD hS => ?_)
  rw [i2_clamp hr] at hP
  exact kk H1 locs1 (w.arr ho (by decide) ⟨by omega, by omega⟩ (nar_byte hx0) hP hS)
theorem g_alen {a t n : Nat} (X : CX p s m args c cc nL own D aC ad sg A H0) (w : WS D aC ad A H0 M H locs) (ho : KD[a]? = some (.inr (t, n))) (ht : t < 4) (dg : decode cc pc = .ok (.arraylength, 1))
    (kk : W p l e R s m args below meth c H locs cells slots Q (F0 m (pc + 1) ls (.int (i2 (n : Int)) :: rest))) : W p l e R s m args below meth c H locs cells slots Q (F0 m pc ls (.ref (ad a) :: rest)) := by
  obtain ⟨⟨hx, hb, hml, hown, hts⟩, hK, hi, hA, hA2, hSt⟩ := X
  have e : ∃ ty, (tysL aC)[t]? = some (aC t, ty) := by
    match t, ht with
    | 0, _ => exact ⟨_, rfl⟩
    | 1, _ => exact ⟨_, rfl⟩
    | 2, _ => exact ⟨_, rfl⟩
    | 3, _ => exact ⟨_, rfl⟩
  obtain ⟨ty, e⟩ := e
  exact va_alen hx hb hK w.1 a t ((wl_get (KD_lt ho)).trans (by rw [enc_a ho (by omega)])) e (v := i2 (n : Int)) (by unfold i2; exact (Int32.ofInt_eq_ofNat).symm) dg kk
end GROWS
def aln (a : Nat) : Nat := match KD[a]? with
  | some (.inr q) => q.2
  | _ => 0
theorem aln_R (a : Nat) : inR (aln a : Int) := by
  have h : KD.all (fun q => match q with | .inr q => decide (q.2 < 1000) | .inl _ => true) = true := by decide +kernel
  unfold aln
  split
  · rename_i q hq
    have h1 := List.all_eq_true.mp h _ (List.mem_of_getElem? hq)
    have h2 : q.2 < 1000 := by simpa using h1
    exact ⟨by omega, by omega⟩
  · exact ⟨by decide, by decide⟩
theorem nle {a b : Nat} (h : Nat.ble a b = true) : a ≤ b := Nat.le_of_ble_eq_true h
theorem sLen_R (i : Nat) : inR (sLen i : Int) := by
  have h : sBy.all (fun q => decide (q.length < 1000)) = true := by decide +kernel
  unfold sLen
  by_cases hi : i < sBy.length
  · have h1 := List.all_eq_true.mp h (sBy.getD i []) (by rw [List.getD_eq_getElem?_getD, List.getElem?_eq_getElem hi]; exact List.getElem_mem hi)
    have h2 : (sBy.getD i []).length < 1000 := by simpa using h1
    exact ⟨by omega, by omega⟩
  · have h2 : (sBy.getD i []).length = 0 := by rw [List.getD_eq_getElem?_getD, List.getElem?_eq_none (by omega)]; rfl
    exact ⟨by omega, by omega⟩
theorem sAt_b (i j : Nat) : 0 ≤ sAt i j ∧ sAt i j < 128 := by
  have h : sBy.all (fun q => q.all fun x => decide (x < 128)) = true := by decide +kernel
  unfold sAt
  by_cases hi : i < sBy.length
  · have h1 := List.all_eq_true.mp h (sBy.getD i []) (by rw [List.getD_eq_getElem?_getD, List.getElem?_eq_getElem hi]; exact List.getElem_mem hi)
    by_cases hj : j < (sBy.getD i []).length
    · have h2 := List.all_eq_true.mp h1 ((sBy.getD i []).getD j 0) (by rw [List.getD_eq_getElem?_getD (l := sBy.getD i []), List.getElem?_eq_getElem hj]; exact List.getElem_mem hj)
      have h3 : (sBy.getD i []).getD j 0 < 128 := by simpa using h2
      omega
    · have h3 : (sBy.getD i []).getD j 0 = 0 := by rw [List.getD_eq_getElem?_getD (l := sBy.getD i []), List.getElem?_eq_none (by omega)]; rfl
      omega
  · have h4 : sBy.getD i [] = [] := by rw [List.getD_eq_getElem?_getD, List.getElem?_eq_none (by omega)]; rfl
    rw [h4]
    show 0 ≤ ((([] : List Nat).getD j 0 : Nat) : Int) ∧ ((([] : List Nat).getD j 0 : Nat) : Int) < 128
    exact ⟨by simp, by simp⟩
theorem sAt_R (i j : Nat) : inR (sAt i j) := ⟨by have := sAt_b i j; omega, by have := sAt_b i j; omega⟩
theorem KA_1 : KD[1]? = some (.inr (0, aln 1)) := by decide +kernel
theorem KA_2 : KD[2]? = some (.inr (0, aln 2)) := by decide +kernel
theorem KA_4 : KD[4]? = some (.inr (0, aln 4)) := by decide +kernel
theorem KA_5 : KD[5]? = some (.inr (0, aln 5)) := by decide +kernel
theorem KA_6 : KD[6]? = some (.inr (0, aln 6)) := by decide +kernel
theorem KA_7 : KD[7]? = some (.inr (0, aln 7)) := by decide +kernel
theorem KA_8 : KD[8]? = some (.inr (0, aln 8)) := by decide +kernel
theorem KA_9 : KD[9]? = some (.inr (0, aln 9)) := by decide +kernel
theorem KA_10 : KD[10]? = some (.inr (0, aln 10)) := by decide +kernel
theorem KA_11 : KD[11]? = some (.inr (0, aln 11)) := by decide +kernel
theorem KA_12 : KD[12]? = some (.inr (0, aln 12)) := by decide +kernel
theorem KA_13 : KD[13]? = some (.inr (0, aln 13)) := by decide +kernel
theorem KA_14 : KD[14]? = some (.inr (0, aln 14)) := by decide +kernel
theorem KA_15 : KD[15]? = some (.inr (0, aln 15)) := by decide +kernel
theorem KA_16 : KD[16]? = some (.inr (0, aln 16)) := by decide +kernel
theorem KA_18 : KD[18]? = some (.inr (0, aln 18)) := by decide +kernel
theorem KA_19 : KD[19]? = some (.inr (0, aln 19)) := by decide +kernel
theorem KA_20 : KD[20]? = some (.inr (0, aln 20)) := by decide +kernel
theorem KA_21 : KD[21]? = some (.inr (0, aln 21)) := by decide +kernel
theorem KA_22 : KD[22]? = some (.inr (0, aln 22)) := by decide +kernel
theorem KA_23 : KD[23]? = some (.inr (0, aln 23)) := by decide +kernel
theorem KA_25 : KD[25]? = some (.inr (2, aln 25)) := by decide +kernel
theorem KA_26 : KD[26]? = some (.inr (0, aln 26)) := by decide +kernel
theorem KA_27 : KD[27]? = some (.inr (0, aln 27)) := by decide +kernel
theorem KA_28 : KD[28]? = some (.inr (0, aln 28)) := by decide +kernel
theorem KA_31 : KD[31]? = some (.inr (0, aln 31)) := by decide +kernel
theorem KA_32 : KD[32]? = some (.inr (0, aln 32)) := by decide +kernel
theorem KA_33 : KD[33]? = some (.inr (0, aln 33)) := by decide +kernel
theorem KA_34 : KD[34]? = some (.inr (0, aln 34)) := by decide +kernel
theorem KA_36 : KD[36]? = some (.inr (0, aln 36)) := by decide +kernel
theorem KA_37 : KD[37]? = some (.inr (0, aln 37)) := by decide +kernel
theorem KA_38 : KD[38]? = some (.inr (0, aln 38)) := by decide +kernel
theorem KA_39 : KD[39]? = some (.inr (0, aln 39)) := by decide +kernel
theorem KA_40 : KD[40]? = some (.inr (0, aln 40)) := by decide +kernel
theorem KA_41 : KD[41]? = some (.inr (0, aln 41)) := by decide +kernel
theorem KA_42 : KD[42]? = some (.inr (0, aln 42)) := by decide +kernel
theorem KA_43 : KD[43]? = some (.inr (0, aln 43)) := by decide +kernel
theorem KA_44 : KD[44]? = some (.inr (0, aln 44)) := by decide +kernel
theorem KA_45 : KD[45]? = some (.inr (0, aln 45)) := by decide +kernel
theorem KA_46 : KD[46]? = some (.inr (0, aln 46)) := by decide +kernel
theorem KA_47 : KD[47]? = some (.inr (0, aln 47)) := by decide +kernel
theorem KA_49 : KD[49]? = some (.inr (0, aln 49)) := by decide +kernel
theorem KA_50 : KD[50]? = some (.inr (0, aln 50)) := by decide +kernel
theorem KA_52 : KD[52]? = some (.inr (0, aln 52)) := by decide +kernel
theorem KA_53 : KD[53]? = some (.inr (0, aln 53)) := by decide +kernel
theorem KA_54 : KD[54]? = some (.inr (0, aln 54)) := by decide +kernel
theorem KA_55 : KD[55]? = some (.inr (0, aln 55)) := by decide +kernel
theorem KA_56 : KD[56]? = some (.inr (0, aln 56)) := by decide +kernel
theorem KA_58 : KD[58]? = some (.inr (0, aln 58)) := by decide +kernel
theorem KA_59 : KD[59]? = some (.inr (0, aln 59)) := by decide +kernel
theorem KA_60 : KD[60]? = some (.inr (0, aln 60)) := by decide +kernel
theorem KA_61 : KD[61]? = some (.inr (0, aln 61)) := by decide +kernel
theorem KA_63 : KD[63]? = some (.inr (0, aln 63)) := by decide +kernel
theorem KA_64 : KD[64]? = some (.inr (0, aln 64)) := by decide +kernel
theorem KA_65 : KD[65]? = some (.inr (0, aln 65)) := by decide +kernel
theorem KA_66 : KD[66]? = some (.inr (0, aln 66)) := by decide +kernel
theorem KA_67 : KD[67]? = some (.inr (1, aln 67)) := by decide +kernel
theorem KA_68 : KD[68]? = some (.inr (0, aln 68)) := by decide +kernel
theorem KA_69 : KD[69]? = some (.inr (0, aln 69)) := by decide +kernel
theorem KA_70 : KD[70]? = some (.inr (0, aln 70)) := by decide +kernel
theorem KA_72 : KD[72]? = some (.inr (0, aln 72)) := by decide +kernel
theorem KA_73 : KD[73]? = some (.inr (0, aln 73)) := by decide +kernel
theorem KA_74 : KD[74]? = some (.inr (0, aln 74)) := by decide +kernel
theorem KA_75 : KD[75]? = some (.inr (0, aln 75)) := by decide +kernel
theorem KA_76 : KD[76]? = some (.inr (1, aln 76)) := by decide +kernel
theorem KA_77 : KD[77]? = some (.inr (0, aln 77)) := by decide +kernel
theorem KA_78 : KD[78]? = some (.inr (0, aln 78)) := by decide +kernel
theorem KA_79 : KD[79]? = some (.inr (0, aln 79)) := by decide +kernel
theorem KA_81 : KD[81]? = some (.inr (0, aln 81)) := by decide +kernel
theorem KA_82 : KD[82]? = some (.inr (0, aln 82)) := by decide +kernel
theorem KA_83 : KD[83]? = some (.inr (0, aln 83)) := by decide +kernel
theorem KA_84 : KD[84]? = some (.inr (0, aln 84)) := by decide +kernel
theorem KA_85 : KD[85]? = some (.inr (0, aln 85)) := by decide +kernel
theorem KA_86 : KD[86]? = some (.inr (0, aln 86)) := by decide +kernel
theorem KA_87 : KD[87]? = some (.inr (0, aln 87)) := by decide +kernel
theorem KA_88 : KD[88]? = some (.inr (1, aln 88)) := by decide +kernel
theorem KA_89 : KD[89]? = some (.inr (1, aln 89)) := by decide +kernel
theorem KA_90 : KD[90]? = some (.inr (1, aln 90)) := by decide +kernel
theorem KA_91 : KD[91]? = some (.inr (0, aln 91)) := by decide +kernel
theorem KA_92 : KD[92]? = some (.inr (0, aln 92)) := by decide +kernel
theorem KA_93 : KD[93]? = some (.inr (0, aln 93)) := by decide +kernel
theorem KA_94 : KD[94]? = some (.inr (0, aln 94)) := by decide +kernel
theorem KA_95 : KD[95]? = some (.inr (0, aln 95)) := by decide +kernel
theorem KA_96 : KD[96]? = some (.inr (0, aln 96)) := by decide +kernel
theorem KA_97 : KD[97]? = some (.inr (0, aln 97)) := by decide +kernel
theorem KA_98 : KD[98]? = some (.inr (0, aln 98)) := by decide +kernel
theorem KA_99 : KD[99]? = some (.inr (0, aln 99)) := by decide +kernel
theorem KA_100 : KD[100]? = some (.inr (0, aln 100)) := by decide +kernel
theorem KA_101 : KD[101]? = some (.inr (1, aln 101)) := by decide +kernel
theorem KA_102 : KD[102]? = some (.inr (0, aln 102)) := by decide +kernel
theorem KA_103 : KD[103]? = some (.inr (0, aln 103)) := by decide +kernel
theorem KA_104 : KD[104]? = some (.inr (0, aln 104)) := by decide +kernel
theorem KA_105 : KD[105]? = some (.inr (3, aln 105)) := by decide +kernel
theorem KA_106 : KD[106]? = some (.inr (0, aln 106)) := by decide +kernel
theorem KA_107 : KD[107]? = some (.inr (1, aln 107)) := by decide +kernel
theorem KA_108 : KD[108]? = some (.inr (0, aln 108)) := by decide +kernel
theorem KA_109 : KD[109]? = some (.inr (0, aln 109)) := by decide +kernel
theorem KA_110 : KD[110]? = some (.inr (0, aln 110)) := by decide +kernel
theorem KA_111 : KD[111]? = some (.inr (1, aln 111)) := by decide +kernel
theorem KA_112 : KD[112]? = some (.inr (0, aln 112)) := by decide +kernel
theorem KA_113 : KD[113]? = some (.inr (0, aln 113)) := by decide +kernel
theorem KA_114 : KD[114]? = some (.inr (0, aln 114)) := by decide +kernel
theorem KA_115 : KD[115]? = some (.inr (0, aln 115)) := by decide +kernel
theorem KA_116 : KD[116]? = some (.inr (0, aln 116)) := by decide +kernel
theorem KA_117 : KD[117]? = some (.inr (0, aln 117)) := by decide +kernel
theorem KA_118 : KD[118]? = some (.inr (0, aln 118)) := by decide +kernel
theorem KA_119 : KD[119]? = some (.inr (0, aln 119)) := by decide +kernel
theorem KA_ru_1 {r : Int} (h : isRu r) : KD[r.toNat + 1]? = some (.inr (0, aln (r.toNat + 1))) := by rcases h with rfl | rfl <;> decide +kernel
theorem KA_ru_2 {r : Int} (h : isRu r) : KD[r.toNat + 2]? = some (.inr (0, aln (r.toNat + 2))) := by rcases h with rfl | rfl <;> decide +kernel
theorem KA_ru_3 {r : Int} (h : isRu r) : KD[r.toNat + 3]? = some (.inr (0, aln (r.toNat + 3))) := by rcases h with rfl | rfl <;> decide +kernel
theorem KA_ru_4 {r : Int} (h : isRu r) : KD[r.toNat + 4]? = some (.inr (0, aln (r.toNat + 4))) := by rcases h with rfl | rfl <;> decide +kernel
theorem KA_ru_5 {r : Int} (h : isRu r) : KD[r.toNat + 5]? = some (.inr (1, aln (r.toNat + 5))) := by rcases h with rfl | rfl <;> decide +kernel
theorem KA_ru_6 {r : Int} (h : isRu r) : KD[r.toNat + 6]? = some (.inr (0, aln (r.toNat + 6))) := by rcases h with rfl | rfl <;> decide +kernel
theorem KA_ru_7 {r : Int} (h : isRu r) : KD[r.toNat + 7]? = some (.inr (0, aln (r.toNat + 7))) := by rcases h with rfl | rfl <;> decide +kernel
theorem KA_ru_8 {r : Int} (h : isRu r) : KD[r.toNat + 8]? = some (.inr (0, aln (r.toNat + 8))) := by rcases h with rfl | rfl <;> decide +kernel
