/-! loops in equations -/
theorem ok_to {α : Type} {x : Option α} {a : α} (h : Okk x (fun r => r = a)) : x = some a := by
  obtain ⟨b, h1, h2⟩ := h
  rw [h1, h2]
theorem of_ok {α : Type} {x : Option α} {a : α} {Q : α → Prop} (h : Okk x Q) (e : x = some a) : Q a := by
  obtain ⟨b, h1, h2⟩ := h
  rw [e] at h1
  cases h1
  exact h2
theorem ok_e {α β : Type} {x : Option α} {a : α} {f : α → Option β} {Q : β → Prop} (h : x = some a) (k : Okk (f a) Q) : Okk (obn x f) Q := by
  rw [h]; exact k
theorem ok_be {β : Type} {x : Option Res} {r : Int} {M : Mem} {f : Int → Mem → Option β} {Q : β → Prop} (h : x = some (r, M)) (k : Okk (f r M) Q) : Okk (bnd x f) Q := by
  rw [h]; exact k
theorem obn_e {α β : Type} {x : Option α} {a : α} (f : α → Option β) (h : x = some a) : obn x f = f a := by rw [h]; rfl
theorem lpr_l {S T α : Type} {x : Option (S ⊕ T)} {s : S} (f : S → Option α) (g : T → Option α) (h : x = some (.inl s)) : lpr x f g = f s := by rw [h]; rfl
theorem lpr_r {S T α : Type} {x : Option (S ⊕ T)} {s : T} (f : S → Option α) (g : T → Option α) (h : x = some (.inr s)) : lpr x f g = g s := by rw [h]; rfl
/-- a loop whose states are known ahead -/
theorem whl_n {S R : Type} {step : S → Option (S ⊕ R)} (n : Nat) (st : Nat → S) {r : R} {s0 : S} (hn : n < 4294967296) (h0 : s0 = st 0)
    (hs : ∀ k, k < n → step (st k) = some (.inl (st (k + 1)))) (he : step (st n) = some (.inr r)) : whl step FU s0 = some r := by
  subst h0
  refine ok_to (ok_whl n (fun k s => s = st k) (FU_big hn) rfl ?_)
  rintro k s hk rfl
  by_cases h : k < n
  · exact ⟨_, hs k h, ⟨h, rfl⟩⟩
  · have e : k = n := by omega
    subst e
    exact ⟨_, he, rfl⟩
theorem whl_cnt {step : Int × Int → Option ((Int × Int) ⊕ (Int × Int))} {n : Nat} (hn : n < 100000) (p : Nat → Prop) [∀ k, Decidable (p k)]
    (hs : ∀ k : Nat, k < n → ∀ v : Int, 0 ≤ v → v ≤ k → Okk (step (v, (k : Int))) (fun o => o = .inl (v + (if p k then 1 else 0), ((k + 1 : Nat) : Int))))
    (he : ∀ v : Int, Okk (step (v, (n : Int))) (fun o => o = .inr (v, (n : Int)))) : whl step FU (0, 0) = some (cnt p n, (n : Int)) := by
  refine whl_n n (fun k => (cnt p k, (k : Int))) (by omega) rfl (fun k hk => ?_) (ok_to (he _))
  have b := cnt_b p k
  exact ok_to (hs k hk _ b.1 b.2)
theorem whl_sum {step : Int × Int → Option ((Int × Int) ⊕ (Int × Int))} {n : Nat} (hn : n < 100000) (f : Nat → Int) (b L : Int) (hb : 0 ≤ b) (hL : (n : Int) * b ≤ L) (hf : ∀ k, k < n → -b ≤ f k ∧ f k ≤ b)
    (hs : ∀ k : Nat, k < n → ∀ v : Int, -L ≤ v → v ≤ L → -L ≤ v + f k → v + f k ≤ L → Okk (step (v, (k : Int))) (fun o => o = .inl (v + f k, ((k + 1 : Nat) : Int))))
    (he : ∀ v : Int, Okk (step (v, (n : Int))) (fun o => o = .inr (v, (n : Int)))) : whl step FU (0, 0) = some (fb_si f n, (n : Int)) := by
  refine whl_n n (fun k => (fb_si f k, (k : Int))) (by omega) rfl (fun k hk => ?_) (ok_to (he _))
  have b0 := si_b hb (n := k) (fun j hj => hf j (by omega))
  have b1 := si_b hb (n := k + 1) (fun j hj => hf j (by omega))
  have m1 := mulB hb (k := k) (n := n) (by omega)
  have m2 := mulB hb (k := k + 1) (n := n) (by omega)
  rw [fb_si_succ] at b1
  exact ok_to (hs k hk _ (by omega) (by omega) (by omega) (by omega))
/-- a loop that stops at the first that says no -/
theorem whl_all {step : Int → Option (Int ⊕ (Int ⊕ Int))} {n : Nat} {z : Int} (hn : n < 100000) (p : Nat → Prop) [∀ k, Decidable (p k)]
    (hs : ∀ k : Nat, k < n → Okk (step (k : Int)) (fun o => o = if p k then .inl ((k + 1 : Nat) : Int) else .inr (.inr z)))
    (he : Okk (step (n : Int)) (fun o => o = .inr (.inl (n : Int)))) : whl step FU 0 = if (∀ k, k < n → p k) then some (.inl (n : Int)) else some (.inr z) := by
  by_cases h : ∀ k, k < n → p k
  · rw [if_pos h]
    refine whl_n n (fun k => (k : Int)) (by omega) rfl (fun k hk => ?_) (ok_to he)
    have := ok_to (hs k hk)
    rw [if_pos (h k hk)] at this
    exact this
  · rw [if_neg h]
    have h2 : ∃ k, k < n ∧ ¬ p k := by
      apply Classical.byContradiction
      intro hc
      exact h (fun k hk => Classical.byContradiction (fun hp => hc ⟨k, hk, hp⟩))
    obtain ⟨m, hm, hp, hj⟩ := fb_first h2
    refine whl_n m (fun k => (k : Int)) (by omega) rfl (fun k hk => ?_) ?_
    · have := ok_to (hs k (by omega))
      rw [if_pos (Classical.not_not.mp (hj k hk))] at this
      exact this
    · have := ok_to (hs m hm)
      rw [if_neg hp] at this
      exact this
/-- the numbers of places, as numbers that count -/
theorem nA (a b : Nat) : (a : Int) + (b : Int) = ((a + b : Nat) : Int) := by omega
theorem n1 (a : Nat) : (a : Int) + 1 = ((a + 1 : Nat) : Int) := by omega
theorem mr2 (a : Nat) : (a : Int) * 2 = ((2 * a : Nat) : Int) := by omega
theorem mr3 (a : Nat) : (a : Int) * 3 = ((3 * a : Nat) : Int) := by omega
theorem mr4 (a : Nat) : (a : Int) * 4 = ((4 * a : Nat) : Int) := by omega
theorem mr9 (a : Nat) : (a : Int) * 9 = ((9 * a : Nat) : Int) := by omega
theorem mr14 (a : Nat) : (a : Int) * 14 = ((14 * a : Nat) : Int) := by omega
theorem ml2 (a : Nat) : 2 * (a : Int) = ((2 * a : Nat) : Int) := by omega
theorem ml3 (a : Nat) : 3 * (a : Int) = ((3 * a : Nat) : Int) := by omega
theorem ml4 (a : Nat) : 4 * (a : Int) = ((4 * a : Nat) : Int) := by omega
theorem ml7 (a : Nat) : 7 * (a : Int) = ((7 * a : Nat) : Int) := by omega
theorem ml14 (a : Nat) : 14 * (a : Int) = ((14 * a : Nat) : Int) := by omega
theorem ml28 (a : Nat) : 28 * (a : Int) = ((28 * a : Nat) : Int) := by omega
/-! masks of 14: which bits -/
def gb (v : Int) (c : Nat) : Bool := v.toNat.testBit c
def mIs (v : Int) (G : Nat → Bool) : Prop := 0 ≤ v ∧ v < 16384 ∧ ∀ c, c < 14 → gb v c = G c
theorem mIs.self {v : Int} (h : 0 ≤ v) (h2 : v < 16384) : mIs v (gb v) := ⟨h, h2, fun _ _ => rfl⟩
theorem gb_far {v : Int} (h : v < 16384) {c : Nat} (hc : 14 ≤ c) : gb v c = false := by
  have e : (2 ^ 14 : Nat) = 16384 := by decide
  exact Nat.testBit_lt_two_pow (Nat.lt_of_lt_of_le (m := 2 ^ 14) (by omega) (Nat.pow_le_pow_right (by decide) hc))
theorem mIs.congr {v : Int} {G H : Nat → Bool} (h : mIs v G) (e : ∀ c, c < 14 → G c = H c) : mIs v H := ⟨h.1, h.2.1, fun c hc => (h.2.2 c hc).trans (e c hc)⟩
theorem mIs.nat {v : Int} {G : Nat → Bool} (h : mIs v G) : ∃ a : Nat, v = (a : Int) ∧ a < 16384 ∧ ∀ c, c < 14 → a.testBit c = G c :=
  ⟨v.toNat, by have := h.1; omega, by have := h.2.1; omega, h.2.2⟩
theorem mIs.of {a : Nat} {G : Nat → Bool} (ha : a < 16384) (h : ∀ c, c < 14 → a.testBit c = G c) : mIs (a : Int) G := ⟨by omega, by omega, fun c hc => by unfold gb; rw [toN]; exact h c hc⟩
theorem p14 : (2 ^ 14 : Nat) = 16384 := by decide
theorem lt14 {a b : Nat} (h : a < 2 ^ 14) (e : a = b) : b < 16384 := by rw [← e]; exact p14 ▸ h
theorem pow_lt14 {j : Nat} (hj : j < 14) : 2 ^ j < 16384 := by rw [← p14]; exact Nat.pow_lt_pow_right (by decide) hj
theorem mIs_0 : mIs 0 (fun _ => false) := mIs.of (a := 0) (by decide) (fun c _ => Nat.zero_testBit c)
theorem mIs_1 {j : Nat} (hj : j < 14) : mIs (bshl 1 (j : Int)) (fun c => decide (c = j)) := by
  rw [bshl1_n j (by omega)]
  refine mIs.of (pow_lt14 hj) (fun c _ => ?_)
  rw [Nat.testBit_two_pow]
  exact decide_eq_decide.mpr ⟨fun h => h.symm, fun h => h.symm⟩
theorem mIs_or {v w : Int} {G H : Nat → Bool} (h : mIs v G) (k : mIs w H) : mIs (bor v w) (fun c => G c || H c) := by
  obtain ⟨a, rfl, ha, h⟩ := h.nat
  obtain ⟨b, rfl, hb, k⟩ := k.nat
  rw [bor_n (by omega) (by omega)]
  refine mIs.of (lt14 (Nat.or_lt_two_pow (n := 14) (p14 ▸ ha) (p14 ▸ hb)) rfl) (fun c hc => ?_)
  rw [Nat.testBit_or, h c hc, k c hc]
theorem mIs_xor {v w : Int} {G H : Nat → Bool} (h : mIs v G) (k : mIs w H) : mIs (bxor v w) (fun c => G c ^^ H c) := by
  obtain ⟨a, rfl, ha, h⟩ := h.nat
  obtain ⟨b, rfl, hb, k⟩ := k.nat
  rw [bxor_n (by omega) (by omega)]
  refine mIs.of (lt14 (Nat.xor_lt_two_pow (n := 14) (p14 ▸ ha) (p14 ▸ hb)) rfl) (fun c hc => ?_)
  rw [Nat.testBit_xor, h c hc, k c hc]
theorem mIs_and {v w : Int} {G H : Nat → Bool} (h : mIs v G) (k : mIs w H) : mIs (band v w) (fun c => G c && H c) := by
  obtain ⟨a, rfl, ha, h⟩ := h.nat
  obtain ⟨b, rfl, hb, k⟩ := k.nat
  rw [band_n (by omega)]
  refine mIs.of (Nat.lt_of_le_of_lt Nat.and_le_left ha) (fun c hc => ?_)
  rw [Nat.testBit_and, h c hc, k c hc]
theorem mIs_andn {v w : Int} {G H : Nat → Bool} (h : mIs v G) (k : mIs w H) : mIs (band v (bxor w (-1))) (fun c => G c && !H c) := by
  obtain ⟨a, rfl, ha, h⟩ := h.nat
  obtain ⟨b, rfl, hb, k⟩ := k.nat
  rw [bandnot_n (by omega) (by omega)]
  refine mIs.of (lt14 (Nat.xor_lt_two_pow (n := 14) (p14 ▸ ha) (p14 ▸ (Nat.lt_of_le_of_lt Nat.and_le_left ha))) rfl) (fun c hc => ?_)
  rw [Nat.testBit_xor, Nat.testBit_and, h c hc, k c hc]
  cases G c <;> cases H c <;> rfl
theorem mIs_bit {v : Int} {G : Nat → Bool} (h : mIs v G) {j : Nat} (hj : j < 14) : band (bshr v (j : Int)) 1 = if G j then 1 else 0 := by
  obtain ⟨a, rfl, ha, h⟩ := h.nat
  rw [bit_n (by omega) (by omega), h j hj]
theorem mIs_bit0 {v : Int} {G : Nat → Bool} (h : mIs v G) {j : Nat} (hj : j < 14) : band (bshr v (j : Int)) 1 = 0 ↔ G j = false := by
  rw [mIs_bit h hj]
  cases G j <;> simp
theorem mIs_eq {v w : Int} {G H : Nat → Bool} (h : mIs v G) (k : mIs w H) : v = w ↔ ∀ c, c < 14 → G c = H c := by
  constructor
  · intro e c hc
    rw [← h.2.2 c hc, ← k.2.2 c hc, e]
  · intro e
    have key : v.toNat = w.toNat := Nat.eq_of_testBit_eq (fun i => by
      by_cases hi : i < 14
      · exact (h.2.2 i hi).trans ((e i hi).trans (k.2.2 i hi).symm)
      · exact (gb_far h.2.1 (by omega)).trans (gb_far k.2.1 (by omega)).symm)
    have := h.1
    have := k.1
    omega
theorem mIs_eq0 {v : Int} {G : Nat → Bool} (h : mIs v G) : v = 0 ↔ ∀ c, c < 14 → G c = false := mIs_eq h mIs_0
theorem ct_cnt (p : Nat → Bool) : ∀ n, ((fb_ct p n : Nat) : Int) = cnt (fun c => p c = true) n
  | 0 => rfl
  | n + 1 => by
    rw [fb_ct_succ, cnt_succ, ← ct_cnt p n]
    by_cases h : p n = true
    · rw [if_pos h, if_pos h]; rfl
    · rw [if_neg h, if_neg h]; rfl
theorem mIs_cnt {v : Int} {G : Nat → Bool} (h : mIs v G) (M : Mem) : f_J6_bitCount_0f7a4 v M = some (cnt (fun c => G c = true) 14) := by
  obtain ⟨a, rfl, ha, h⟩ := h.nat
  rw [pc_n ha, ct_cnt]
  exact congrArg some (cnt_congr (fun c hc => by rw [h c hc]))
theorem one_all : ∀ a, a < 128 → ∀ b, b < 128 → ((128 * a + b) &&& (128 * a + b - 1) = 0) = (fb_ct (fun i => (128 * a + b).testBit i) 14 ≤ 1) := by
  have h : ∀ a, a < 128 → ∀ b, b < 128 → (((128 * a + b) &&& (128 * a + b - 1) == 0) == Nat.ble (fb_ct (fun i => (128 * a + b).testBit i) 14) 1) = true := by decide +kernel
  intro a ha b hb
  have h1 := h a ha b hb
  rw [beq_iff_eq] at h1
  apply propext
  rw [← Nat.ble_eq, ← h1, beq_iff_eq]
/-- at most one bit -/
theorem mIs_one {v : Int} {G : Nat → Bool} (h : mIs v G) : band v (wrap (v - 1)) = 0 ↔ cnt (fun c => G c = true) 14 ≤ 1 := by
  have e := h.nat
  obtain ⟨a, rfl, ha, k⟩ := e
  have hc : cnt (fun c => G c = true) 14 = ((fb_ct (fun i => a.testBit i) 14 : Nat) : Int) := by
    rw [ct_cnt]; exact (cnt_congr (fun c hc => by rw [k c hc])).symm
  rw [hc]
  by_cases h0 : a = 0
  · subst h0
    have e1 : fb_ct (fun i => (0 : Nat).testBit i) 14 = 0 := fb_ct_zero.mpr (fun k _ => Nat.zero_testBit k)
    rw [e1]
    have e2 : band ((0 : Nat) : Int) (wrap (((0 : Nat) : Int) - 1)) = 0 := by decide +kernel
    rw [e2]
    omega
  · have e1 : wrap ((a : Int) - 1) = ((a - 1 : Nat) : Int) := by rw [wrap_of (by omega) (by omega)]; omega
    rw [e1, band_n (by omega)]
    have h2 := one_all (a / 128) (by omega) (a % 128) (by omega)
    rw [Nat.div_add_mod] at h2
    constructor
    · intro z
      have : (a &&& a - 1) = 0 := by omega
      rw [h2] at this
      omega
    · intro z
      have : fb_ct (fun i => a.testBit i) 14 ≤ 1 := by omega
      rw [← h2] at this
      omega
