/-! level 2: what the functions answer -/
def Okk {α : Type} (x : Option α) (Q : α → Prop) : Prop := ∃ a, x = some a ∧ Q a
theorem ok_some {α : Type} {a : α} {Q : α → Prop} (h : Q a) : Okk (some a) Q := ⟨a, rfl, h⟩
theorem ok_gd {α : Type} {p : Prop} {_ : Decidable p} {x : Option α} {Q : α → Prop} (hp : p) (h : Okk x Q) : Okk (gd p x) Q := by
  unfold gd; rw [if_pos hp]; exact h
theorem ok_lt {α β : Type} {x : α} {f : α → Option β} {Q : β → Prop} (h : Okk (f x) Q) : Okk (lt x f) Q := h
theorem ok_ite {α : Type} {c : Prop} {_ : Decidable c} {x y : Option α} {Q : α → Prop} (h1 : c → Okk x Q) (h2 : ¬ c → Okk y Q) : Okk (if c then x else y) Q := by
  split
  · exact h1 (by assumption)
  · exact h2 (by assumption)
theorem ok_obn {α β : Type} {x : Option α} {f : α → Option β} {P : α → Prop} {Q : β → Prop} (h : Okk x P) (k : ∀ a, P a → Okk (f a) Q) : Okk (obn x f) Q := by
  obtain ⟨a, rfl, ha⟩ := h
  exact k a ha
theorem ok_bnd {β : Type} {x : Option Res} {f : Int → Mem → Option β} {P : Res → Prop} {Q : β → Prop} (h : Okk x P) (k : ∀ r M, P (r, M) → Okk (f r M) Q) : Okk (bnd x f) Q := by
  obtain ⟨⟨r, M⟩, rfl, ha⟩ := h
  exact k r M ha
def inS {S R : Type} (P : S → Prop) (Q : R → Prop) : S ⊕ R → Prop := fun o => match o with
  | .inl s => P s
  | .inr r => Q r
theorem ok_lpr {S T α : Type} {x : Option (S ⊕ T)} {f : S → Option α} {g : T → Option α} {P : S → Prop} {P2 : T → Prop} {Q : α → Prop} (h : Okk x (inS P P2)) (k : ∀ s, P s → Okk (f s) Q) (k2 : ∀ t, P2 t → Okk (g t) Q) : Okk (lpr x f g) Q := by
  obtain ⟨a, rfl, ha⟩ := h
  match a, ha with
  | .inl s, ha => exact k s ha
  | .inr t, ha => exact k2 t ha
theorem ok_mono {α : Type} {x : Option α} {P Q : α → Prop} (h : Okk x P) (k : ∀ a, P a → Q a) : Okk x Q := by
  obtain ⟨a, h1, h2⟩ := h
  exact ⟨a, h1, k a h2⟩
/-- a loop with a counter: at most n rounds -/
theorem ok_whl {S R : Type} {step : S → Option (S ⊕ R)} {Q : R → Prop} (n : Nat) (I : Nat → S → Prop) {N : Nat} {s0 : S} (hN : n < N) (h0 : I 0 s0)
    (hs : ∀ k s, k ≤ n → I k s → Okk (step s) (inS (fun s' => k < n ∧ I (k + 1) s') Q)) : Okk (whl step N s0) Q := by
  have key : ∀ (j : Nat) (N : Nat) (k : Nat) (s : S), k + j = n → j < N → I k s → Okk (whl step N s) Q := by
    intro j
    induction j with
    | zero =>
      intro N k s hk hj hI
      obtain ⟨N, rfl⟩ : ∃ N', N = N' + 1 := ⟨N - 1, by omega⟩
      obtain ⟨o, h1, h2⟩ := hs k s (by omega) hI
      unfold whl
      rw [h1]
      match o, h2 with
      | .inl s', h2 => exact absurd h2.1 (by omega)
      | .inr r, h2 => exact ⟨r, rfl, h2⟩
    | succ j ih =>
      intro N k s hk hj hI
      obtain ⟨N, rfl⟩ : ∃ N', N = N' + 1 := ⟨N - 1, by omega⟩
      obtain ⟨o, h1, h2⟩ := hs k s (by omega) hI
      unfold whl
      rw [h1]
      match o, h2 with
      | .inl s', h2 => exact ih N (k + 1) s' (by omega) (by omega) h2.2
      | .inr r, h2 => exact ⟨r, rfl, h2⟩
  exact key n N 0 s0 (by omega) hN h0
theorem FU_big {n : Nat} (h : n < 4294967296) : n < FU := by rw [FU_eq]; exact h
theorem ok_eq {α : Type} {x : Option α} {a : α} (h : x = some a) : Okk x (fun r => r = a) := ⟨a, h, rfl⟩
theorem ok_ite_t {α : Type} {c : Prop} {_ : Decidable c} {x y : Option α} {Q : α → Prop} (hc : c) (h1 : Okk x Q) : Okk (if c then x else y) Q := by rw [if_pos hc]; exact h1
theorem ok_ite_f {α : Type} {c : Prop} {_ : Decidable c} {x y : Option α} {Q : α → Prop} (hc : ¬ c) (h1 : Okk y Q) : Okk (if c then x else y) Q := by rw [if_neg hc]; exact h1
theorem ok_ltw {β : Type} {x : Int} {f : Int → Option β} {Q : β → Prop} (h : -2147483648 ≤ x ∧ x < 2147483648) (k : Okk (f x) Q) : Okk (lt (wrap x) f) Q := by
  unfold lt; rw [wrap_of h.1 h.2]; exact k
theorem obn_s {α β : Type} (a : α) (f : α → Option β) : obn (some a) f = f a := rfl
theorem bnd_s {β : Type} (r : Int) (M : Mem) (f : Int → Mem → Option β) : bnd (some (r, M)) f = f r M := rfl
def b2i (p : Prop) [Decidable p] : Int := if p then 1 else 0
theorem b2i_0 (p : Prop) [Decidable p] : (b2i p = 0) = ¬ p := by unfold b2i; by_cases h : p <;> simp [h]
theorem b2i_1 (p : Prop) [Decidable p] : (b2i p = 1) = p := by unfold b2i; by_cases h : p <;> simp [h]
theorem b2i_z (p : Prop) [Decidable p] : isZ (b2i p) := by unfold b2i isZ; by_cases h : p <;> simp [h]
theorem b2i_t {p : Prop} [Decidable p] (h : p) : b2i p = 1 := if_pos h
theorem b2i_f {p : Prop} [Decidable p] (h : ¬ p) : b2i p = 0 := if_neg h
theorem gd_z (p : Prop) [Decidable p] {α : Type} (x : Option α) : gd (isZ (b2i p)) x = x := gd_pos x (b2i_z p)
/-! bits of numbers that aren't negative -/
theorem i2_nat (a : Nat) : i2 (a : Int) = nI a := Int32.ofInt_eq_ofNat
theorem nx_or (a b : Nat) : nI a ||| nI b = nI (a ||| b) := by
  apply Int32.toBitVec_inj.mp
  rw [Int32.toBitVec_or]
  show BitVec.ofNat 32 a ||| BitVec.ofNat 32 b = BitVec.ofNat 32 (a ||| b)
  apply BitVec.eq_of_toNat_eq
  simp [BitVec.toNat_or, BitVec.toNat_ofNat, Nat.or_mod_two_pow]
theorem band_n {a b : Nat} (ha : a < 2147483648) : band (a : Int) (b : Int) = ((a &&& b : Nat) : Int) := by
  unfold band
  rw [i2_nat, i2_nat, nx_and, nI_toInt (Nat.lt_of_le_of_lt Nat.and_le_left ha)]
theorem bor_n {a b : Nat} (ha : a < 2147483648) (hb : b < 2147483648) : bor (a : Int) (b : Int) = ((a ||| b : Nat) : Int) := by
  unfold bor
  rw [i2_nat, i2_nat, nx_or, nI_toInt (Nat.or_lt_two_pow (n := 31) ha hb)]
theorem bxor_n {a b : Nat} (ha : a < 2147483648) (hb : b < 2147483648) : bxor (a : Int) (b : Int) = ((a ^^^ b : Nat) : Int) := by
  unfold bxor
  rw [i2_nat, i2_nat, nx_xor, nI_toInt (Nat.xor_lt_two_pow (n := 31) ha hb)]
theorem bshl1_n : ∀ k : Nat, k < 31 → bshl 1 (k : Int) = ((2 ^ k : Nat) : Int) := by decide +kernel
theorem bshr_n {a k : Nat} (ha : a < 2147483648) (hk : k < 32) : bshr (a : Int) (k : Int) = ((a >>> k : Nat) : Int) := by
  have h : (i2 (a : Int) >>> (i2 (k : Int) &&& 31)) = nI (a >>> k) := by
    rw [i2_nat, i2_nat]
    apply b_ext
    intro i hi
    rw [b_sshr k hk _ hi]
    have hb : ∀ j, bt (nI a) j = (decide (j < 32) && a.testBit j) := fun j => by
      unfold bt nI
      show (BitVec.ofNat 32 a).getLsbD j = _
      rw [BitVec.getLsbD_ofNat]
    have hb2 : bt (nI (a >>> k)) i = (decide (i < 32) && (a >>> k).testBit i) := by
      unfold bt nI
      show (BitVec.ofNat 32 (a >>> k)).getLsbD i = _
      rw [BitVec.getLsbD_ofNat]
    rw [hb2, Nat.testBit_shiftRight]
    have h31 : ∀ j, 31 ≤ j → a.testBit j = false := fun j hj => Nat.testBit_lt_two_pow (Nat.lt_of_lt_of_le ha (Nat.pow_le_pow_right (n := 2) (by decide) hj))
    split
    · rw [hb]; simp [hi]; omega
    · rw [hb, h31 31 (by omega), h31 (k + i) (by omega)]; simp
  unfold bshr
  rw [h, nI_toInt (Nat.lt_of_le_of_lt (Nat.shiftRight_le a k) ha)]
theorem bit_n {a k : Nat} (ha : a < 2147483648) (hk : k < 32) : band (bshr (a : Int) (k : Int)) 1 = if a.testBit k then 1 else 0 := by
  rw [bshr_n ha hk, show (1 : Int) = ((1 : Nat) : Int) from rfl, band_n (Nat.lt_of_le_of_lt (Nat.shiftRight_le a k) ha), Nat.and_one_is_mod]
  have h := Nat.testBit_eq_decide_div_mod_eq (x := a) (i := k)
  rw [Nat.shiftRight_eq_div_pow, h]
  rcases Nat.mod_two_eq_zero_or_one (a / 2 ^ k) with h1 | h1 <;> simp [h1]
theorem bandnot_n {a b : Nat} (ha : a < 2147483648) (hb : b < 2147483648) : band (a : Int) (bxor (b : Int) (-1)) = ((a ^^^ (a &&& b) : Nat) : Int) := by
  have h : i2 (a : Int) &&& (i2 (b : Int) ^^^ i2 (-1)) = nI (a ^^^ (a &&& b)) := by
    rw [← nx_xor, ← nx_and, i2_nat, i2_nat]
    apply b_ext
    intro i hi
    rw [b_and, b_xor, b_xor, b_and, show i2 (-1) = -1 from rfl, b_m1 i hi]
    cases bt (nI a) i <;> cases bt (nI b) i <;> rfl
  unfold band bxor
  rw [i2_of, h, nI_toInt]
  exact Nat.xor_lt_two_pow (n := 31) ha (Nat.lt_of_le_of_lt Nat.and_le_left ha)
/-- how many bits: Integer.bitCount of a mask of 14 -/
theorem bushr_n {a k : Nat} (ha : a < 65536) (hk : k < 32) : bushr (a : Int) (k : Int) = ((a >>> k : Nat) : Int) := by
  unfold bushr
  rw [i2_nat, i2_nat, nx_ush ha hk, nI_toInt (Nat.lt_of_le_of_lt (Nat.shiftRight_le a k) (by omega))]
def pcN (a : Nat) : Nat :=
  let b := a - ((a >>> 1) &&& 1431655765)
  let c := (b &&& 858993459) + ((b >>> 2) &&& 858993459)
  let d := (c + (c >>> 4)) &&& 252645135
  let e := d + (d >>> 8)
  let f := e + (e >>> 16)
  f &&& 63
theorem pc_all : ∀ a, a < 128 → ∀ b, b < 128 → pcN (128 * a + b) = fb_ct (fun i => (128 * a + b).testBit i) 14 := by decide +kernel
theorem pc_f {a : Nat} (ha : a < 16384) (M : Mem) : f_J6_bitCount_0f7a4 (a : Int) M = some ((pcN a : Nat) : Int) := by
  have k0 : ∀ x y : Nat, x &&& y ≤ x := fun _ _ => Nat.and_le_left
  have k1 : ∀ x y : Nat, x >>> y ≤ x := fun x y => Nat.shiftRight_le x y
  have c0 : ∀ x m : Nat, x < 65536 → band (x : Int) (m : Int) = ((x &&& m : Nat) : Int) := fun x m h => band_n (by omega)
  have b1 := Nat.le_trans (k0 (a >>> 1) 1431655765) (k1 a 1)
  have e1 : band (bushr (a : Int) 1) 1431655765 = ((a >>> 1 &&& 1431655765 : Nat) : Int) := by
    rw [show (1 : Int) = ((1 : Nat) : Int) from rfl, bushr_n (by omega) (by omega)]
    exact c0 _ _ (by have := k1 a 1; omega)
  have e2 : wrap ((a : Int) - band (bushr (a : Int) 1) 1431655765) = ((a - (a >>> 1 &&& 1431655765) : Nat) : Int) := by
    rw [e1, wrap_of (by omega) (by omega)]; omega
  unfold f_J6_bitCount_0f7a4
  simp only [lt]
  rw [e2]
  generalize hb : a - (a >>> 1 &&& 1431655765) = b
  have hb2 : b < 16384 := by omega
  have e3 : band (b : Int) 858993459 = ((b &&& 858993459 : Nat) : Int) := c0 _ _ (by omega)
  have e4 : band (bushr (b : Int) 2) 858993459 = ((b >>> 2 &&& 858993459 : Nat) : Int) := by
    rw [show (2 : Int) = ((2 : Nat) : Int) from rfl, bushr_n (by omega) (by omega)]
    exact c0 _ _ (by have := k1 b 2; omega)
  have g3 := k0 b 858993459
  have g4 := Nat.le_trans (k0 (b >>> 2) 858993459) (k1 b 2)
  have e5 : wrap (band (b : Int) 858993459 + band (bushr (b : Int) 2) 858993459) = (((b &&& 858993459) + (b >>> 2 &&& 858993459) : Nat) : Int) := by
    rw [e3, e4, wrap_of (by omega) (by omega)]; omega
  rw [e5]
  generalize hc : (b &&& 858993459) + (b >>> 2 &&& 858993459) = c
  have hc2 : c < 32768 := by omega
  have g5 := k1 c 4
  have e6 : band (wrap ((c : Int) + bushr (c : Int) 4)) 252645135 = (((c + c >>> 4) &&& 252645135 : Nat) : Int) := by
    rw [show (4 : Int) = ((4 : Nat) : Int) from rfl, bushr_n (by omega) (by omega), ← Int.natCast_add, wrap_of (by omega) (by omega)]
    exact c0 _ _ (by omega)
  rw [e6]
  generalize hd : (c + c >>> 4) &&& 252645135 = d
  have g6 := k1 d 8
  have hd3 : d ≤ 3855 := by
    rw [← hd]
    have q : (c + c >>> 4) &&& 252645135 = ((c + c >>> 4) &&& 65535) &&& 3855 := by
      rw [Nat.and_assoc, show (65535 &&& 3855 : Nat) = 65535 &&& 252645135 from by decide, ← Nat.and_assoc, show (65535 : Nat) = 2 ^ 16 - 1 from rfl, Nat.and_two_pow_sub_one_eq_mod, Nat.mod_eq_of_lt (by omega)]
    rw [q]
    exact Nat.and_le_right
  have e7 : wrap ((d : Int) + bushr (d : Int) 8) = ((d + d >>> 8 : Nat) : Int) := by
    rw [show (8 : Int) = ((8 : Nat) : Int) from rfl, bushr_n (by omega) (by omega), ← Int.natCast_add, wrap_of (by omega) (by omega)]
  rw [e7]
  generalize he : d + d >>> 8 = e
  have g7 := k1 e 16
  have e8 : wrap ((e : Int) + bushr (e : Int) 16) = ((e + e >>> 16 : Nat) : Int) := by
    rw [show (16 : Int) = ((16 : Nat) : Int) from rfl, bushr_n (by omega) (by omega), ← Int.natCast_add, wrap_of (by omega) (by omega)]
  rw [e8, show (63 : Int) = ((63 : Nat) : Int) from rfl, c0 _ _ (by omega)]
  unfold pcN
  simp only [hb, hc, hd, he]
theorem pc_n {a : Nat} (ha : a < 16384) (M : Mem) : f_J6_bitCount_0f7a4 (a : Int) M = some ((fb_ct (fun i => a.testBit i) 14 : Nat) : Int) := by
  rw [pc_f ha]
  have h := pc_all (a / 128) (by omega) (a % 128) (by omega)
  rw [Nat.div_add_mod] at h
  rw [h]
/-- a mask out of a property -/
def maskN (p : Nat → Bool) : Nat → Nat
  | 0 => 0
  | k + 1 => maskN p k + if p k then 2 ^ k else 0
theorem maskN_lt (p : Nat → Bool) : ∀ n, maskN p n < 2 ^ n
  | 0 => Nat.one_pos
  | n + 1 => by
    have := maskN_lt p n
    unfold maskN
    rw [Nat.pow_succ]
    split <;> omega
theorem maskN_bit (p : Nat → Bool) : ∀ n i, (maskN p n).testBit i = (decide (i < n) && p i)
  | 0, i => by simp [maskN]
  | n + 1, i => by
    have hl := maskN_lt p n
    have ih := maskN_bit p n i
    unfold maskN
    by_cases hp : p n = true
    · rw [if_pos hp, Nat.add_comm]
      by_cases hi : i = n
      · subst hi
        rw [Nat.testBit_two_pow_add_eq, Nat.testBit_lt_two_pow hl]
        simp [hp]
      · by_cases hi2 : i < n
        · rw [Nat.testBit_two_pow_add_gt hi2, ih]
          simp [hi2]; omega
        · have e : (2 ^ n + maskN p n) < 2 ^ i := Nat.lt_of_lt_of_le (m := 2 ^ (n + 1)) (by rw [Nat.pow_succ]; omega) (Nat.pow_le_pow_right (by decide) (by omega))
          rw [Nat.testBit_lt_two_pow e]
          simp; omega
    · rw [if_neg hp, Nat.add_zero, ih]
      by_cases hi : i = n
      · subst hi; simp [hp]
      · have : (i < n) ↔ (i < n + 1) := by omega
        simp [this]
theorem mask_ext {a b : Nat} (h : ∀ i, a.testBit i = b.testBit i) : a = b := Nat.eq_of_testBit_eq h
