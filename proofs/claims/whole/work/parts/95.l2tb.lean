/-! feed -/
theorem by8 (y : Int32) : y.toInt8.toInt32 &&& 255 = y &&& 255 := by
  apply Int32.toBitVec_inj.mp
  rw [Int32.toBitVec_and, Int32.toBitVec_and]
  apply BitVec.eq_of_getLsbD_eq
  intro i hi
  rw [BitVec.getLsbD_and, BitVec.getLsbD_and]
  show (((y.toBitVec.signExtend 8).signExtend 32).getLsbD i && _) = _
  rw [BitVec.getLsbD_signExtend]
  by_cases h : i < 8
  · rw [BitVec.getLsbD_signExtend]
    simp [h, hi]
  · have e : (255#32).getLsbD i = false := by
      have := hi
      simp [BitVec.getLsbD_ofNat]
      intro _
      exact Nat.testBit_lt_two_pow (Nat.lt_of_lt_of_le (m := 2 ^ 8) (by decide) (Nat.pow_le_pow_right (by decide) (by omega)))
    show (_ && (255#32).getLsbD i) = (_ && (255#32).getLsbD i)
    rw [e]; simp
theorem by0 (y : Int32) : (y &&& 255).toInt = (((y &&& 255).toBitVec.toNat : Nat) : Int) ∧ (y &&& 255).toBitVec.toNat ≤ 255 := by
  have h : (y &&& 255).toBitVec.toNat ≤ 255 := by
    rw [Int32.toBitVec_and, BitVec.toNat_and]
    exact Nat.and_le_right
  refine ⟨?_, h⟩
  show (y &&& 255).toBitVec.toInt = _
  rw [BitVec.toInt_eq_toNat_cond, if_pos (by omega)]
theorem by16 (z : Int32) (h : 0 ≤ z.toInt) (h2 : z.toInt ≤ 255) : (z.toUInt32 % 65536).toInt32.toInt = z.toInt := by
  have e : z.toUInt32 % 65536 = z.toUInt32 := by
    apply UInt32.toNat_inj.mp
    rw [UInt32.toNat_mod]
    have : z.toUInt32.toNat = z.toBitVec.toNat := rfl
    have h3 : z.toBitVec.toInt = z.toInt := rfl
    rw [BitVec.toInt_eq_toNat_cond] at h3
    have := z.toBitVec.isLt
    show _ % 65536 = _
    split at h3 <;> omega
  rw [e]
  rfl
theorem byr (y : Int32) : -128 ≤ y.toInt8.toInt32.toInt ∧ y.toInt8.toInt32.toInt < 128 := by
  rw [Int8.toInt_toInt32]
  exact ⟨Int8.le_toInt _, Int8.toInt_lt _⟩
theorem b255 : i2 255 = 255 := rfl
/-- a byte, as the class and as the model keep it -/
theorem byte_ok (y : Int) : (0 ≤ jchar (band y 255) ∧ jchar (band y 255) ≤ 255) ∧ (-128 ≤ jbyte y ∧ jbyte y < 128) ∧ band (jbyte y) 255 = jchar (band y 255) := by
  have h := by0 (i2 y)
  have e : jchar (band y 255) = (i2 y &&& 255).toInt := by
    unfold jchar band
    rw [i2_of, b255]
    exact by16 _ (by omega) (by omega)
  refine ⟨by rw [e]; omega, byr _, ?_⟩
  rw [e]
  unfold band jbyte
  rw [i2_of, b255, by8]
def sh8 (x : Int) (j : Nat) : Int := bshr x ((24 - 8 * j : Nat) : Int)
section FEED
variable {M : Mem}
theorem c_append {x : Int} {n : Nat} (h : M 24 0 = (n : Int)) (hn : n + 4 ≤ 400) : Okk (f_X9_append x M) (fun M' => (∀ c i, ¬ ((c = 24 ∧ i = 0) ∨ (c = 25 ∧ n ≤ i)) → M' c i = M c i) ∧ M' 24 0 = ((n + 4 : Nat) : Int) ∧ ∀ j, j < 4 → M' 25 (n + j) = jchar (band (sh8 x j) 255)) := by
  unfold f_X9_append
  refine ok_obn (P := fun s => (∀ c i, ¬ ((c = 24 ∧ i = 0) ∨ (c = 25 ∧ n ≤ i)) → s.2 c i = M c i) ∧ s.2 24 0 = ((n + 4 : Nat) : Int) ∧ ∀ j, j < 4 → s.2 25 (n + j) = jchar (band (sh8 x j) 255)) ?_ (fun s hs => ok_some hs)
  unfold f_X9_append_l3
  refine ok_whl 4 (fun j s => s.1 = 24 - 8 * (j : Int) ∧ (∀ c i, ¬ ((c = 24 ∧ i = 0) ∨ (c = 25 ∧ n ≤ i)) → s.2 c i = M c i) ∧ s.2 24 0 = ((n + j : Nat) : Int) ∧ ∀ k, k < j → s.2 25 (n + k) = jchar (band (sh8 x k) 255)) (FU_big (by omega)) ⟨rfl, fun _ _ _ => rfl, h, fun k hk => absurd hk (by omega)⟩ ?_
  rintro j ⟨v, N⟩ hj ⟨hv, hf, h24, hb⟩
  dsimp only at hv hf h24 hb ⊢
  unfold f_X9_append_s3
  rw [h24, toN]
  refine ok_ite (fun z => ok_some ?_) (fun z => ?_)
  · have e : j = 4 := by omega
    subst e; exact ⟨hf, h24, hb⟩
  have hj4 : j < 4 := by omega
  have ev : v = ((24 - 8 * j : Nat) : Int) := by omega
  have bo := byte_ok (sh8 x j)
  have e8 : bshr x v = sh8 x j := by rw [ev]; rfl
  rw [e8]
  obtain ⟨N2, e2, f2, v2⟩ := mup_gen N 25 (n + j) (jchar (band (sh8 x j) 255))
  refine ok_ite_f (by omega) (ok_gd (by omega) (ok_gd (by omega) (ok_lt ?_)))
  rw [e2, f2 24 0 (by omega), h24, wrap_n1 (by omega)]
  obtain ⟨N3, e3, f3, v3⟩ := mup_gen N2 24 0 ((n + j + 1 : Nat) : Int)
  refine ok_lt ?_
  rw [e3, wrap_of (x := v + (-8)) (by omega) (by omega)]
  refine ok_lt (ok_some ⟨hj4, by show v + (-8) = _; omega, fun c i q => ?_, v3, fun k hk => ?_⟩)
  · try dsimp only
    rw [f3 c i (by omega), f2 c i (by omega)]; exact hf c i q
  · try dsimp only
    rw [f3 25 _ (by omega)]
    by_cases e : k = j
    · rw [e, v2]
    · rw [f2 25 _ (by omega)]; exact hb k (by omega)
/-- the k-th byte's number, and which byte of it -/
def fw (a b c d e : Int) (k : Nat) : Int := sh8 (if k < 4 then a else if k < 8 then b else if k < 12 then c else if k < 16 then d else e) (k % 4)
theorem c_feed {a b c d e : Int} {n : Nat} (h : M 24 0 = (n : Int)) (hn : n + 20 ≤ 400) : Okk (f_X10_feed a b c d e M) (fun q => q.1 = ((n + 20 : Nat) : Int) ∧ (∀ c i, ¬ ((c = 24 ∧ i = 0) ∨ (c = 25 ∧ n ≤ i)) → q.2 c i = M c i) ∧ q.2 24 0 = ((n + 20 : Nat) : Int) ∧ ∀ k, k < 20 → q.2 25 (n + k) = jchar (band (fw a b c d e k) 255)) := by
  unfold f_X10_feed f_X9_hasSpace
  rw [h, wrap_of (by omega) (by omega)]
  refine ok_e (a := 1) (if_neg (by omega)) (ok_ite_f (by decide) ?_)
  refine ok_obn (c_append (x := a) h (by omega)) (fun M1 h1 => ?_)
  obtain ⟨f1, n1, b1⟩ := h1
  refine ok_obn (c_append (x := b) n1 (by omega)) (fun M2 h2 => ?_)
  obtain ⟨f2, n2, b2⟩ := h2
  refine ok_obn (c_append (x := c) n2 (by omega)) (fun M3 h3 => ?_)
  obtain ⟨f3, n3, b3⟩ := h3
  refine ok_obn (c_append (x := d) n3 (by omega)) (fun M4 h4 => ?_)
  obtain ⟨f4, n4, b4⟩ := h4
  refine ok_obn (c_append (x := e) n4 (by omega)) (fun M5 h5 => ?_)
  obtain ⟨f5, n5, b5⟩ := h5
  refine ok_some ⟨n5, fun c i q => ?_, n5, fun k hk => ?_⟩
  · try dsimp only
    rw [f5 c i (by omega), f4 c i (by omega), f3 c i (by omega), f2 c i (by omega), f1 c i (by omega)]
  · try dsimp only
    unfold fw
    by_cases k1 : k < 4
    · rw [if_pos k1, f5 25 _ (by omega), f4 25 _ (by omega), f3 25 _ (by omega), f2 25 _ (by omega), b1 k k1, show k % 4 = k by omega]
    · rw [if_neg k1]
      by_cases k2 : k < 8
      · have := b2 (k - 4) (by omega)
        rw [show n + 4 + (k - 4) = n + k by omega] at this
        rw [if_pos k2, f5 25 _ (by omega), f4 25 _ (by omega), f3 25 _ (by omega), this, show k % 4 = k - 4 by omega]
      · rw [if_neg k2]
        by_cases k3 : k < 12
        · have := b3 (k - 8) (by omega)
          rw [show n + 4 + 4 + (k - 8) = n + k by omega] at this
          rw [if_pos k3, f5 25 _ (by omega), f4 25 _ (by omega), this, show k % 4 = k - 8 by omega]
        · rw [if_neg k3]
          by_cases k4 : k < 16
          · have := b4 (k - 12) (by omega)
            rw [show n + 4 + 4 + 4 + (k - 12) = n + k by omega] at this
            rw [if_pos k4, f5 25 _ (by omega), this, show k % 4 = k - 12 by omega]
          · have := b5 (k - 16) (by omega)
            rw [show n + 4 + 4 + 4 + 4 + (k - 16) = n + k by omega] at this
            rw [if_neg k4, this, show k % 4 = k - 16 by omega]
theorem m_feed {a b c d e : Int} {n : Nat} (h : M 80 32 = (n : Int)) (hn : n + 20 ≤ 400) : Okk (f_X11_feed_l20 a b c d e 0 M) (fun q => (∀ c i, ¬ ((c = 80 ∧ i = 32) ∨ (c = 105 ∧ n ≤ i)) → q.2 c i = M c i) ∧ q.2 80 32 = ((n + 20 : Nat) : Int) ∧ ∀ k, k < 20 → q.2 105 (n + k) = jbyte (fw a b c d e k)) := by
  unfold f_X11_feed_l20
  refine ok_whl 20 (fun j s => s.1 = (j : Int) ∧ (∀ c i, ¬ ((c = 80 ∧ i = 32) ∨ (c = 105 ∧ n ≤ i)) → s.2 c i = M c i) ∧ s.2 80 32 = ((n + j : Nat) : Int) ∧ ∀ k, k < j → s.2 105 (n + k) = jbyte (fw a b c d e k)) (FU_big (by omega)) ⟨rfl, fun _ _ _ => rfl, h, fun k hk => absurd hk (by omega)⟩ ?_
  rintro j ⟨v, N⟩ hj ⟨hv, hf, h32, hb⟩
  dsimp only at hv hf h32 hb ⊢
  subst hv
  unfold f_X11_feed_s20
  refine ok_ite (fun z => ok_some ?_) (fun z => ?_)
  · have e : j = 20 := by omega
    subst e; exact ⟨hf, h32, hb⟩
  have hj20 : j < 20 := by omega
  have key : ∀ s0 : Int, sh8 s0 (j % 4) = fw a b c d e j → Okk (f_X11_feed_j73k20 a b c d e (j : Int) s0 N) (inS (fun s => j < 20 ∧ s.1 = ((j + 1 : Nat) : Int) ∧ (∀ c i, ¬ ((c = 80 ∧ i = 32) ∨ (c = 105 ∧ n ≤ i)) → s.2 c i = M c i) ∧ s.2 80 32 = ((n + (j + 1) : Nat) : Int) ∧ ∀ k, k < j + 1 → s.2 105 (n + k) = jbyte (fw a b c d e k)) (fun q => (∀ c i, ¬ ((c = 80 ∧ i = 32) ∨ (c = 105 ∧ n ≤ i)) → q.2 c i = M c i) ∧ q.2 80 32 = ((n + 20 : Nat) : Int) ∧ ∀ k, k < 20 → q.2 105 (n + k) = jbyte (fw a b c d e k))) := fun s0 hs0 => by
    unfold f_X11_feed_j73k20
    have e4 : jrem (j : Int) 4 = ((j % 4 : Nat) : Int) := jremN (a := j) (b := 4) (by omega) (by omega) (by omega)
    have es : wrap (24 - wrap (8 * ((j % 4 : Nat) : Int))) = ((24 - 8 * (j % 4) : Nat) : Int) := by
      rw [wrap_of (x := 8 * ((j % 4 : Nat) : Int)) (by omega) (by omega), wrap_of (by omega) (by omega)]; omega
    have eb : bshr s0 ((24 - 8 * (j % 4) : Nat) : Int) = fw a b c d e j := hs0
    have bo := byte_ok (fw a b c d e j)
    rw [e4, es, eb, h32, toN]
    obtain ⟨N2, e2, f2, v2⟩ := mup_gen N 105 (n + j) (jbyte (fw a b c d e j))
    refine ok_gd (by omega) (ok_gd (by omega) (ok_lt ?_))
    rw [e2, f2 80 32 (by omega), h32, wrap_n1 (by omega)]
    obtain ⟨N3, e3, f3, v3⟩ := mup_gen N2 80 32 ((n + j + 1 : Nat) : Int)
    refine ok_lt ?_
    rw [e3, wrap_n1 (by omega)]
    refine ok_lt (ok_some ⟨hj20, rfl, fun c i q => ?_, v3, fun k hk => ?_⟩)
    · try dsimp only
      rw [f3 c i (by omega), f2 c i (by omega)]; exact hf c i q
    · try dsimp only
      rw [f3 105 _ (by omega)]
      by_cases e : k = j
      · rw [e, v2]
      · rw [f2 105 _ (by omega)]; exact hb k (by omega)
  unfold fw at key
  refine ok_ite (fun z1 => ok_ite (fun z2 => ok_ite (fun z3 => ok_ite (fun z4 => key _ ?_) (fun z4 => key _ ?_)) (fun z3 => key _ ?_)) (fun z2 => key _ ?_)) (fun z1 => key _ ?_)
  · rw [if_neg (by omega), if_neg (by omega), if_neg (by omega), if_neg (by omega)]
  · rw [if_neg (by omega), if_neg (by omega), if_neg (by omega), if_pos (by omega)]
  · rw [if_neg (by omega), if_neg (by omega), if_pos (by omega)]
  · rw [if_neg (by omega), if_pos (by omega)]
  · rw [if_pos (by omega)]
theorem op_feed (I : Inv M) (a b c d e : Int) : Alk (f_X10_feed a b c d e M) (f_X11_feed a b c d e) := by
  have o9 := I.2.1.o9
  unfold A9 at o9
  obtain ⟨n, hn⟩ : ∃ n : Nat, M 80 32 = (n : Int) := ⟨(M 80 32).toNat, by omega⟩
  have h24 : M 24 0 = (n : Int) := o9.1.trans hn
  by_cases hs : n ≤ 380
  · refine ok_mono (c_feed (a := a) (b := b) (c := c) (d := d) (e := e) h24 (by omega)) (fun q hq => ?_)
    obtain ⟨q1, q2, q3, q4⟩ := hq
    obtain ⟨ans, M1⟩ := q
    dsimp only at q1 q2 q3 q4 ⊢
    subst q1
    unfold f_X11_feed
    obtain ⟨M2, e2, f2⟩ := th0 M1
    refine ok_lt ?_
    rw [e2, f2 80 32 (by omega), q2 80 32 (by omega), hn]
    refine ok_ite_t (by omega) (ok_obn (m_feed (M := M2) (n := n) (by rw [f2 80 32 (by omega), q2 80 32 (by omega)]; exact hn) (by omega)) (fun s hs => ?_))
    obtain ⟨s1, s2, s3⟩ := hs
    obtain ⟨v, M3⟩ := s
    dsimp only at s1 s2 s3 ⊢
    unfold f_X11_feed_j114
    rw [s2]
    refine ok_some ⟨rfl, up_feed I (fun c i q => ?_) ?_ (fun i hi => ?_)⟩
    · try dsimp only
      rw [s1 c i (by omega), f2 c i (by omega), q2 c i (by omega)]
    · have e24 : M3 24 0 = ((n + 20 : Nat) : Int) := by rw [s1 24 0 (by omega), f2 24 0 (by omega)]; exact q3
      unfold A9
      try dsimp only
      rw [e24, s2]; omega
    · try dsimp only at hi ⊢
      rw [s2] at hi
      by_cases z : i < n
      · rw [s1 25 i (by omega), f2 25 i (by omega), q2 25 i (by omega), s1 105 i (by omega), f2 105 i (by omega), q2 105 i (by omega)]
        exact I.2.1.t1 i (by omega)
      · obtain ⟨k, rfl⟩ : ∃ k, i = n + k := ⟨i - n, by omega⟩
        rw [s1 25 _ (by omega), f2 25 _ (by omega), q4 k (by omega), s3 k (by omega)]
        have bo := byte_ok (fw a b c d e k)
        exact ⟨bo.1.1, bo.1.2, bo.2.2⟩
  · refine alk_ro I (ans := -1) ?_ ?_
    · unfold f_X10_feed f_X9_hasSpace
      rw [h24, wrap_of (by omega) (by omega)]
      exact ok_e (a := 0) (if_pos (by omega)) (ok_ite_t rfl (ok_some ⟨lvC.rf M, rfl⟩))
    · intro M1 h1
      obtain ⟨M2, e2, H2, f2, l2, g2⟩ := m_start I h1
      unfold f_X11_feed
      refine ok_lt ?_
      rw [e2, g2 80 32 (by omega) (by omega), hn]
      exact ok_ite_f (by omega) (ok_some ⟨l2, rfl⟩)
end FEED
