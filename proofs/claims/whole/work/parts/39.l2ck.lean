/-! the class: the judge of one class, as bits -/
def isB (r : Int) (p : Prop) : Prop := (r = 1 ∧ p) ∨ (r = 0 ∧ ¬ p)
theorem isB.t {r : Int} {p : Prop} (h : isB r p) (hr : ¬ r = 0) : p := by
  rcases h with ⟨_, h⟩ | ⟨h, _⟩
  · exact h
  · exact absurd h hr
theorem isB.f {r : Int} {p : Prop} (h : isB r p) (hr : r = 0) : ¬ p := by
  rcases h with ⟨h, _⟩ | ⟨_, h⟩
  · exact absurd h (by omega)
  · exact h
theorem isB.one {p : Prop} (h : p) : isB 1 p := Or.inl ⟨rfl, h⟩
theorem isB.zero {p : Prop} (h : ¬ p) : isB 0 p := Or.inr ⟨rfl, h⟩
theorem isB.iff {r : Int} {p q : Prop} (h : isB r p) (e : p ↔ q) : isB r q := by
  rcases h with ⟨h1, h2⟩ | ⟨h1, h2⟩
  · exact Or.inl ⟨h1, e.mp h2⟩
  · exact Or.inr ⟨h1, fun z => h2 (e.mpr z)⟩
theorem isB.z {r : Int} {p : Prop} (h : isB r p) : isZ r := by
  rcases h with ⟨h, _⟩ | ⟨h, _⟩ <;> rw [h] <;> unfold isZ <;> decide
def gIs (B : Mem) (g : Int) (G : Nat → Bool) : Prop := mIs g G ∧ ∀ c, nK B ≤ c → c < 14 → G c = false
theorem ok_all2 {step : Int → Option (Int ⊕ (Int ⊕ Int))} {n : Nat} (hn : n < 100000) (p : Nat → Prop)
    (hs : ∀ k : Nat, k < n → Okk (step (k : Int)) (fun o => (p k ∧ o = .inl ((k + 1 : Nat) : Int)) ∨ (¬ p k ∧ o = .inr (.inr 0))))
    (he : Okk (step (n : Int)) (fun o => ∃ v, o = .inr (.inl v))) : Okk (whl step FU 0) (inS (fun _ => ∀ k, k < n → p k) (fun r => r = 0 ∧ ¬ ∀ k, k < n → p k)) := by
  refine ok_all hn p (fun k hk => ?_) he
  refine ok_mono (hs k hk) (fun o ho => ?_)
  rcases ho with ⟨h1, h2⟩ | h
  · exact Or.inl ⟨h1, by rw [h2]; rfl⟩
  · exact Or.inr h
/-- counts over 14, of which none is far -/
theorem cnt_to {p q : Nat → Prop} [∀ k, Decidable (p k)] [∀ k, Decidable (q k)] {n : Nat} (hn : n ≤ 14) (h1 : ∀ c, c < n → (p c ↔ q c)) (h2 : ∀ c, n ≤ c → c < 14 → ¬ p c) : cnt p 14 = cnt q n :=
  (cnt_far hn h2).trans (cnt_congr h1)
theorem cnt_zero {p : Nat → Prop} [∀ k, Decidable (p k)] : ∀ {n : Nat}, (∀ k, k < n → ¬ p k) → cnt p n = 0
  | 0, _ => rfl
  | n + 1, h => by rw [cnt_succ, if_neg (h n (by omega)), cnt_zero (fun k hk => h k (by omega))]; rfl
theorem cnt_pos {p : Nat → Prop} [∀ k, Decidable (p k)] {a : Nat} (hp : p a) : ∀ {n : Nat}, a < n → 1 ≤ cnt p n
  | 0, h => absurd h (by omega)
  | n + 1, h => by
    rw [cnt_succ]
    have b := cnt_b p n
    by_cases e : a = n
    · subst e; rw [if_pos hp]; omega
    · have := cnt_pos hp (n := n) (by omega)
      split <;> omega
theorem cnt_two {p : Nat → Prop} [∀ k, Decidable (p k)] {a b : Nat} (ha : p a) (hb : p b) (hab : a < b) : ∀ {n : Nat}, b < n → 2 ≤ cnt p n
  | 0, h => absurd h (by omega)
  | n + 1, h => by
    rw [cnt_succ]
    by_cases e : b = n
    · subst e
      have := cnt_pos ha (n := b) hab
      rw [if_pos hb]; omega
    · have := cnt_two ha hb hab (n := n) (by omega)
      split <;> omega
theorem cnt_one {p : Nat → Prop} [∀ k, Decidable (p k)] : ∀ {n : Nat}, (∀ a b, a < n → b < n → p a → p b → a = b) → cnt p n ≤ 1
  | 0, _ => by show (0 : Int) ≤ 1; omega
  | n + 1, h => by
    rw [cnt_succ]
    by_cases e : p n
    · have : cnt p n = 0 := cnt_zero (fun k hk hp => by have := h k n (by omega) (by omega) hp e; omega)
      rw [if_pos e, this]; omega
    · have := cnt_one (n := n) (p := p) (fun a b ha hb => h a b (by omega) (by omega))
      rw [if_neg e]; omega
theorem c_holdsTwo {v w : Int} {F S : Nat → Bool} (hv : mIs v F) (hw : mIs w S) (M : Mem) : Okk (f_X4_holdsTwo v w M) (fun r => isB r (∃ a, a < 14 ∧ F a = true ∧ ∃ b, b < 14 ∧ S b = true ∧ b ≠ a)) := by
  have nz : ∀ {x : Int} {X : Nat → Bool}, mIs x X → ¬ x = 0 → ∃ a, a < 14 ∧ X a = true := by
    intro x X hx h
    apply Classical.byContradiction
    intro hc
    apply h
    rw [mIs_eq0 hx]
    intro c hc2
    cases e : X c with
    | false => rfl
    | true => exact absurd ⟨c, hc2, e⟩ hc
  have key : ∀ s0 : Int, (s0 = 0 → ¬ cnt (fun c => F c = true) 14 ≤ 1) → (¬ s0 = 0 → cnt (fun c => F c = true) 14 ≤ 1) → Okk (f_X4_holdsTwo_j13 v w s0 M) (fun r => isB r (∃ a, a < 14 ∧ F a = true ∧ ∃ b, b < 14 ∧ S b = true ∧ b ≠ a)) := by
    intro s0 h0 h1
    unfold f_X4_holdsTwo_j13
    refine ok_ite (fun h => ok_some (isB.zero ?_)) (fun h => ?_)
    · rintro ⟨a, ha, hF, -⟩
      have := (mIs_eq0 hv).mp h a ha
      rw [this] at hF; cases hF
    refine ok_ite (fun h2 => ok_some (isB.zero ?_)) (fun h2 => ?_)
    · rintro ⟨a, ha, hF, b, hb, hS, -⟩
      have := (mIs_eq0 hw).mp h2 b hb
      rw [this] at hS; cases hS
    obtain ⟨a, ha, hFa⟩ := nz hv h
    obtain ⟨b, hb, hSb⟩ := nz hw h2
    refine ok_ite (fun h3 => ?_) (fun h3 => ok_some (isB.one ?_))
    · have hFS := (mIs_eq hv hw).mp h3
      refine ok_ite (fun h4 => ok_some (isB.one ?_)) (fun h4 => ok_some (isB.zero ?_))
      · apply Classical.byContradiction
        intro hc
        refine h0 h4 (cnt_one (fun a b ha hb hpa hpb => ?_))
        apply Classical.byContradiction
        intro hne
        exact hc ⟨a, ha, hpa, b, hb, by rw [← hFS b hb]; exact hpb, fun z => hne z.symm⟩
      · rintro ⟨a, ha, hF, b, hb, hS, hne⟩
        rw [← hFS b hb] at hS
        have h5 := h1 h4
        have h6 : 2 ≤ cnt (fun c => F c = true) 14 := by
          by_cases e : a < b
          · exact cnt_two (p := fun c => F c = true) hF hS e hb
          · exact cnt_two (p := fun c => F c = true) hS hF (by omega) ha
        omega
    · apply Classical.byContradiction
      intro hc
      have key : ∀ x y, x < 14 → y < 14 → F x = true → S y = true → y = x := fun x y hx hy hX hY => Classical.byContradiction (fun hne => hc ⟨x, hx, hX, y, hy, hY, hne⟩)
      apply h3
      rw [mIs_eq hv hw]
      intro c hc2
      have eab := key a b ha hb hFa hSb
      subst eab
      by_cases e : c = b
      · subst e; rw [hFa, hSb]
      · have n1 : F c ≠ true := fun z => e (key c b hc2 hb z hSb).symm
        have n2 : S c ≠ true := fun z => e (key b c hb hc2 hFa z)
        simp only [Bool.not_eq_true] at n1 n2
        rw [n1, n2]
  unfold f_X4_holdsTwo
  refine ok_ite (fun h => key 1 (fun z => absurd z (by decide)) (fun _ => (mIs_one hv).mp h)) (fun h => key 0 (fun _ => fun z => h ((mIs_one hv).mpr z)) (fun z => absurd rfl z))
theorem c_hasNoPair {B M : Mem} {known : Int} (H : JP B known M) {g : Int} {G : Nat → Bool} (hg : gIs B g G) : Okk (f_X4_hasNoPair g M) (fun r => isB r (noPair B G)) := by
  have h14 := H.c.1.n14
  have hn := H.c.1.n
  let p : Nat → Prop := fun a => G a = true → ∀ b, b < nK B → G b = true → B 88 (14 * a + b) ≠ 1 ∧ (howS B (nS B) = 1 → B 89 (14 * a + b) ≠ 1)
  unfold f_X4_hasNoPair
  refine ok_lpr (P := fun _ => ∀ a, a < nK B → p a) (P2 := fun r => r = 0 ∧ ¬ ∀ a, a < nK B → p a) ?_ (fun v hv => ok_some (isB.one hv)) (fun r hr => ok_some (by rw [hr.1]; exact isB.zero hr.2))
  unfold f_X4_hasNoPair_l2
  refine ok_all2 (by omega) p (fun a ha => ?_) ?_
  · have far : ∀ y, (y = 88 ∨ y = 89) → ∀ b, nK B ≤ b → b < 14 → B y (14 * a + b) = 0 := by
      intro y hy b h1 h2
      rcases hy with rfl | rfl
      · exact (H.c.1.d4 a b (by omega) h2).2.2 (by omega)
      · exact (H.c.1.d5 a b (by omega) h2).2.2 (by omega)
    have tail : ∀ (x : Int) (O : Nat → Bool), mIs x O → (∀ b, b < 14 → (O b = true ↔ ¬ (B 88 (14 * a + b) ≠ 1 ∧ (howS B (nS B) = 1 → B 89 (14 * a + b) ≠ 1)))) → G a = true → Okk (f_X4_hasNoPair_j61k2 g a x M) (fun o => (p a ∧ o = .inl ((a + 1 : Nat) : Int)) ∨ (¬ p a ∧ o = .inr (.inr 0))) := by
      intro x O hx hO hGa
      unfold f_X4_hasNoPair_j61k2
      have hm := mIs_eq0 (mIs_and hx hg.1)
      (try simp (disch := omega) only [wrap_of, toN, nA, n1, mr2, mr3, mr4, mr9, mr14, ml2, ml3, ml4, ml7, ml14, ml28])
      refine ok_ite (fun h => ok_lt (ok_some (Or.inl ⟨fun _ b hb hGb => ?_, rfl⟩))) (fun h => ok_some (Or.inr ⟨fun z => h (hm.mpr (fun b hb => ?_)), rfl⟩))
      · have h2 := hm.mp h b (by omega)
        rw [hGb, Bool.and_true] at h2
        apply Classical.byContradiction
        intro hc
        rw [(hO b (by omega)).mpr hc] at h2
        cases h2
      · cases e : G b with
        | false => exact Bool.and_false _
        | true =>
          rw [Bool.and_true]
          by_cases hbn : b < nK B
          · have := z hGa b hbn e
            cases e2 : O b with
            | false => rfl
            | true => exact absurd this ((hO b hb).mp e2)
          · have := hg.2 b (by omega) hb
            rw [this] at e; cases e
    unfold f_X4_hasNoPair_s2
    have hbit := mIs_bit0 hg.1 (j := a) (by omega)
    (try simp (disch := omega) only [wrap_of, toN, nA, n1, mr2, mr3, mr4, mr9, mr14, ml2, ml3, ml4, ml7, ml14, ml28, H.c.n, H.1.2.2.1])
    refine ok_ite_f (by omega) ?_
    refine ok_ite (fun h => ok_lt (ok_some (Or.inl ⟨fun z => ?_, rfl⟩))) (fun h => ?_)
    · rw [hbit.mp h] at z; cases z
    have hGa : G a = true := by
      cases e : G a with
      | false => exact absurd (hbit.mpr e) h
      | true => rfl
    have hbar := H.c.bars (a := a) (by omega)
    have htw := H.c.twins (a := a) (by omega)
    refine ok_ite (fun h13 => ?_) (fun h13 => ?_)
    · have h1 : howS B (nS B) = 1 := by
        unfold howC at h13
        by_cases e : howS B (nS B) = 1
        · exact e
        · rw [if_neg e] at h13
          split at h13 <;> omega
      refine ok_gd (by omega) (ok_gd (by omega) (tail _ _ (mIs_or hbar htw) (fun b hb => ?_) hGa))
      rw [Bool.or_eq_true, decide_eq_true_iff, decide_eq_true_iff]
      constructor
      · rintro (h2 | h2) ⟨z1, z2⟩
        · exact z1 h2
        · exact z2 h1 h2
      · intro h2
        apply Classical.byContradiction
        intro hc
        exact h2 ⟨fun z => hc (Or.inl z), fun _ z => hc (Or.inr z)⟩
    · have h1 : howS B (nS B) ≠ 1 := by
        intro e
        exact h13 (by unfold howC; rw [if_pos e])
      refine ok_gd (by omega) (tail _ _ hbar (fun b hb => ?_) hGa)
      rw [decide_eq_true_iff]
      constructor
      · intro h2 z
        exact z.1 h2
      · intro h2
        apply Classical.byContradiction
        intro hc
        exact h2 ⟨hc, fun z => absurd z h1⟩
  · unfold f_X4_hasNoPair_s2
    (try simp (disch := omega) only [wrap_of, toN, nA, n1, mr2, mr3, mr4, mr9, mr14, ml2, ml3, ml4, ml7, ml14, ml28, H.c.n])
    exact ok_ite_t (by omega) (ok_some ⟨_, rfl⟩)
theorem c_hold {B M : Mem} {known : Int} (H : JP B known M) {g : Int} {G : Nat → Bool} (hg : gIs B g G) {s : Nat} (hs : s < nS B) (hT : hasT B s 0) (M' : Mem) : f_J6_bitCount_0f7a4 (band (M 33 s) g) M' = some (holdG B known (2 * s) G) := by
  have h14 := H.c.1.n14
  rw [mIs_cnt (mIs_and (H.2.2.1 s hs hT) hg.1)]
  refine congrArg some (cnt_to h14 (fun c hc => ?_) (fun c h1 h2 z => ?_))
  · rw [decide_eq_true hc, Bool.true_and, Bool.and_eq_true]
    exact ⟨fun z => ⟨z.2, z.1⟩, fun z => ⟨z.2, z.1⟩⟩
  · rw [decide_eq_false (by omega)] at z; cases z
theorem c_fits {B M : Mem} {known : Int} (H : JP B known M) {g : Int} {G : Nat → Bool} (hg : gIs B g G) : Okk (f_X4_fitsStatements g M) (fun r => isB r (∀ s, s < nS B → fitG B known G s)) := by
  have h14 := H.c.1.n14
  have h16 := H.c.1.s16
  unfold f_X4_fitsStatements
  refine ok_lpr (P := fun _ => ∀ s, s < nS B → fitG B known G s) (P2 := fun r => r = 0 ∧ ¬ ∀ s, s < nS B → fitG B known G s) ?_ (fun v hv => ok_some (isB.one hv)) (fun r hr => ok_some (by rw [hr.1]; exact isB.zero hr.2))
  unfold f_X4_fitsStatements_l2
  refine ok_all2 (by omega) (fitG B known G) (fun s hs => ?_) ?_
  · have hkd := H.c.kd hs
    unfold f_X4_fitsStatements_s2
    (try simp (disch := omega) only [wrap_of, toN, nA, n1, mr2, mr3, mr4, mr9, mr14, ml2, ml3, ml4, ml7, ml14, ml28, H.c.rc, H.1.2.1])
    rw [hkd]
    refine ok_gd H.c.ru (ok_ite_f (by omega) (ok_gd (by omega) (ok_lt (ok_gd H.c.ru (ok_gd (by omega) ?_)))))
    refine ok_ite (fun h13 => ?_) (fun h13 => ?_)
    · have h5 : B 97 s = 5 := by omega
      have m1 := mIs_and (H.2.2.1 s hs (Or.inl h5)) hg.1
      have m2 := mIs_and (H.2.2.2 s hs (Or.inl h5)) hg.1
      refine ok_gd (by omega) (ok_obn (c_holdsTwo m1 m2 M) (fun r hr => ?_))
      refine ok_ite (fun h0 => ?_) (fun h0 => ?_)
      · refine ok_gd H.c.ru (ok_gd (by omega) (ok_ite_f (by omega) (ok_lt (ok_some (Or.inl ⟨⟨fun _ a ha hGa hha b hb hGb hne => ?_, fun z => absurd z (by omega)⟩, rfl⟩)))))
        have hc := hr.f h0
        cases e : holdB B known (2 * s + 1) b with
        | false => rfl
        | true =>
          refine absurd ⟨a, by omega, ?_, b, by omega, ?_, hne⟩ hc
          · rw [decide_eq_true ha, hha, hGa]; rfl
          · rw [decide_eq_true hb, e, hGb]; rfl
      · refine ok_some (Or.inr ⟨fun z => ?_, rfl⟩)
        obtain ⟨a, ha, hA, b, hb, hB, hne⟩ := hr.t h0
        rw [Bool.and_eq_true, Bool.and_eq_true, decide_eq_true_iff] at hA hB
        have := z.1 h5 a hA.1.1 hA.2 hA.1.2 b hB.1.1 hB.2 hne
        rw [hB.1.2] at this; cases this
    · refine ok_gd H.c.ru (ok_gd (by omega) ?_)
      refine ok_ite (fun h14' => ?_) (fun h14' => ?_)
      · have h6 : B 97 s = 6 := by omega
        refine ok_e (c_hold H hg hs (Or.inr ⟨rfl, by omega⟩) M) (ok_gd H.c.ru (ok_gd (by omega) ?_))
        rw [H.c.nu hs (by omega) (by omega)]
        refine ok_ite (fun h => ok_lt (ok_some (Or.inl ⟨⟨fun z => absurd z (by omega), fun _ => h⟩, rfl⟩))) (fun h => ok_some (Or.inr ⟨fun z => h (z.2 h6), rfl⟩))
      · exact ok_lt (ok_some (Or.inl ⟨⟨fun z => absurd z (by omega), fun z => absurd z (by omega)⟩, rfl⟩))
  · unfold f_X4_fitsStatements_s2
    (try simp (disch := omega) only [wrap_of, toN, nA, n1, mr2, mr3, mr4, mr9, mr14, ml2, ml3, ml4, ml7, ml14, ml28, H.c.rc, H.1.2.1])
    exact ok_gd H.c.ru (ok_ite_t (by omega) (ok_some ⟨_, rfl⟩))
theorem c_inG {B : Mem} (h : Fa B) {g : Int} {G : Nat → Bool} (hg : gIs B g G) (M : Mem) : f_J6_bitCount_0f7a4 g M = some (inG B G) := by
  rw [mIs_cnt hg.1]
  refine congrArg some (cnt_to h.n14 (fun c hc => Iff.rfl) (fun c h1 h2 z => ?_))
  rw [hg.2 c h1 h2] at z; cases z
theorem c_mayStand {B M : Mem} {known : Int} (H : JP B known M) {g : Int} {G : Nat → Bool} (hg : gIs B g G) {k : Nat} (hk : k < 3) : Okk (f_X4_mayStand k g M) (fun r => isB r (standG B known k G)) := by
  have h14 := H.c.1.n14
  have hn := H.c.1.n
  unfold f_X4_mayStand
  refine ok_e (c_inG H.c.1 hg M) (ok_gd (by omega) ?_)
  rw [toN, H.c.w16]
  refine ok_ite (fun h => ok_some (isB.zero (fun z => by have := z.1; omega))) (fun h => ok_gd (by omega) ?_)
  have hm := mIs_eq0 (mIs_and (H.c.nots hk) hg.1)
  refine ok_ite (fun h1 => ?_) (fun h1 => ok_some (isB.zero (fun z => h1 (hm.mpr (fun c hc => ?_)))))
  · refine ok_obn (c_hasNoPair H hg) (fun r hr => ?_)
    refine ok_ite (fun h2 => ok_some (isB.zero (fun z => hr.f h2 z.2.2.1))) (fun h2 => ?_)
    refine ok_obn (c_fits H hg) (fun r2 hr2 => ?_)
    refine ok_ite (fun h3 => ok_some (isB.zero (fun z => hr2.f h3 z.2.2.2))) (fun h3 => ok_some (isB.one ⟨by omega, fun c hc hG z => ?_, hr.t h2, hr2.t h3⟩))
    have := hm.mp h1 c (by omega)
    rw [hG, decide_eq_true z] at this; cases this
  · cases e : G c with
    | false => exact Bool.and_false _
    | true =>
      by_cases hcn : c < nK B
      · rw [decide_eq_false (z.2.1 c hcn e)]; rfl
      · rw [hg.2 c (by omega) hc] at e; cases e
theorem c_isWhole {B M : Mem} {known : Int} (H : JP B known M) {g al : Int} {G A : Nat → Bool} (hg : gIs B g G) (hA : gIs B al A) : Okk (f_X4_isWhole g al M) (fun r => isB r (joinG B G A)) := by
  have h14 := H.c.1.n14
  have hn := H.c.1.n
  unfold f_X4_isWhole
  rw [H.1.2.2.1]
  refine ok_ite (fun h17 => ?_) (fun h17 => ok_some (isB.one (fun z => absurd ?_ h17)))
  · have h2 : howS B (nS B) = 2 := by
      unfold howC at h17
      split at h17
      · omega
      · split at h17
        · assumption
        · omega
    let p : Nat → Prop := fun a => G a = true → ∀ b, b < nK B → A b = true → B 89 (14 * a + b) = 1 → G b = true
    refine ok_lpr (P := fun _ => ∀ a, a < nK B → p a) (P2 := fun r => r = 0 ∧ ¬ ∀ a, a < nK B → p a) ?_ (fun v hv => ok_some (isB.one (fun _ => hv))) (fun r hr => ok_some (by rw [hr.1]; exact isB.zero (fun z => hr.2 (z h2))))
    unfold f_X4_isWhole_l13
    refine ok_all2 (by omega) p (fun a ha => ?_) ?_
    · unfold f_X4_isWhole_s13
      have hbit := mIs_bit0 hg.1 (j := a) (by omega)
      (try simp (disch := omega) only [wrap_of, toN, nA, n1, mr2, mr3, mr4, mr9, mr14, ml2, ml3, ml4, ml7, ml14, ml28, H.c.n])
      refine ok_ite_f (by omega) ?_
      refine ok_ite (fun h => ok_lt (ok_some (Or.inl ⟨fun z => ?_, rfl⟩))) (fun h => ok_gd (by omega) ?_)
      · rw [hbit.mp h] at z; cases z
      have hGa : G a = true := by
        cases e : G a with
        | false => exact absurd (hbit.mpr e) h
        | true => rfl
      have hm := mIs_eq0 (mIs_andn (mIs_and (H.c.twins (a := a) (by omega)) hA.1) hg.1)
      refine ok_ite (fun h0 => ok_lt (ok_some (Or.inl ⟨fun _ b hb hAb ht => ?_, rfl⟩))) (fun h0 => ok_some (Or.inr ⟨fun z => h0 (hm.mpr (fun b hb => ?_)), rfl⟩))
      · have := hm.mp h0 b (by omega)
        rw [decide_eq_true ht, hAb] at this
        simpa using this
      · cases e : A b with
        | false => rw [Bool.and_false]; rfl
        | true =>
          by_cases hbn : b < nK B
          · by_cases ht : B 89 (14 * a + b) = 1
            · rw [z hGa b hbn e ht, Bool.not_true, Bool.and_false]
            · rw [decide_eq_false ht]; rfl
          · rw [hA.2 b (by omega) hb] at e; cases e
    · unfold f_X4_isWhole_s13
      (try simp (disch := omega) only [wrap_of, toN, nA, n1, mr2, mr3, mr4, mr9, mr14, ml2, ml3, ml4, ml7, ml14, ml28, H.c.n])
      exact ok_ite_t (by omega) (ok_some ⟨_, rfl⟩)
  · unfold howC; rw [if_neg (by omega), if_pos z]
