/-! ways to choose a class for each place, in their order; the best of those ahead of a number -/
def cod (C : Nat) (s : Nat → Nat) : Nat → Nat
  | 0 => 0
  | i + 1 => C * cod C s i + s i
def Vd (C n : Nat) (s : Nat → Nat) : Prop := ∀ i, i < n → s i < C
theorem Vd.le {C n m : Nat} {s : Nat → Nat} (h : Vd C n s) (hm : m ≤ n) : Vd C m s := fun i hi => h i (by omega)
theorem cod_congr {C : Nat} {s t : Nat → Nat} : ∀ {n : Nat}, (∀ i, i < n → s i = t i) → cod C s n = cod C t n
  | 0, _ => rfl
  | n + 1, h => by
    show C * cod C s n + s n = C * cod C t n + t n
    rw [cod_congr (fun i hi => h i (by omega)), h n (by omega)]
theorem cod_inj {C : Nat} {s t : Nat → Nat} : ∀ {n : Nat}, Vd C n s → Vd C n t → cod C s n = cod C t n → ∀ i, i < n → s i = t i
  | 0, _, _, _, i, hi => absurd hi (by omega)
  | n + 1, hs, ht, h, i, hi => by
    have h1 : C * cod C s n + s n = C * cod C t n + t n := h
    have a := hs n (by omega)
    have b := ht n (by omega)
    have hC : 0 < C := by omega
    have q1 : (C * cod C s n + s n) / C = cod C s n := by rw [Nat.mul_add_div hC, Nat.div_eq_of_lt a, Nat.add_zero]
    have q2 : (C * cod C t n + t n) / C = cod C t n := by rw [Nat.mul_add_div hC, Nat.div_eq_of_lt b, Nat.add_zero]
    have e : cod C s n = cod C t n := by rw [← q1, h1, q2]
    by_cases e2 : i = n
    · subst e2
      rw [e] at h1
      omega
    · exact cod_inj (hs.le (by omega)) (ht.le (by omega)) e i (by omega)
/-- the block of a beginning -/
theorem cod_block {C : Nat} {s : Nat → Nat} (a : Nat) : ∀ e, Vd C (a + e) s → cod C s a * C ^ e ≤ cod C s (a + e) ∧ cod C s (a + e) < (cod C s a + 1) * C ^ e
  | 0, _ => by simp
  | e + 1, h => by
    have ih := cod_block a e (h.le (by omega))
    have b := h (a + e) (by omega)
    have e1 : cod C s (a + (e + 1)) = C * cod C s (a + e) + s (a + e) := rfl
    have e2 : cod C s a * C ^ (e + 1) = C * (cod C s a * C ^ e) := by rw [Nat.pow_succ, ← Nat.mul_assoc, Nat.mul_comm]
    have e3 : (cod C s a + 1) * C ^ (e + 1) = C * ((cod C s a + 1) * C ^ e) := by rw [Nat.pow_succ, ← Nat.mul_assoc, Nat.mul_comm]
    rw [e1, e2, e3]
    have m1 := Nat.mul_le_mul_left C ih.1
    have m2 := Nat.mul_le_mul_left C (Nat.succ_le_of_lt ih.2)
    rw [Nat.mul_succ] at m2
    omega
theorem block_cod {C : Nat} {s : Nat → Nat} {a e b : Nat} (h : Vd C (a + e) s) (h1 : b * C ^ e ≤ cod C s (a + e)) (h2 : cod C s (a + e) < (b + 1) * C ^ e) : cod C s a = b := by
  have q := cod_block a e h
  apply Classical.byContradiction
  intro hc
  by_cases hlt : cod C s a < b
  · have := Nat.mul_le_mul_right (C ^ e) (show cod C s a + 1 ≤ b by omega)
    omega
  · have := Nat.mul_le_mul_right (C ^ e) (show b + 1 ≤ cod C s a by omega)
    omega
section BEST
variable {C n : Nat} {ok : (Nat → Nat) → Prop} {mv hm : (Nat → Nat) → Int}
/-- b is at least as good as s -/
def leq (mv hm : (Nat → Nat) → Int) (b s : Nat → Nat) : Prop := mv b < mv s ∨ (mv b = mv s ∧ hm b ≤ hm s)
def ltq (mv hm : (Nat → Nat) → Int) (b s : Nat → Nat) : Prop := mv b < mv s ∨ (mv b = mv s ∧ hm b < hm s)
def BestLt (ok : (Nat → Nat) → Prop) (mv hm : (Nat → Nat) → Int) (C n N : Nat) (f bm bh : Int) (bst : Nat → Int) : Prop :=
  (f = 0 ∧ ∀ s, Vd C n s → cod C s n < N → ¬ ok s) ∨
  (f = 1 ∧ ∃ b, Vd C n b ∧ cod C b n < N ∧ ok b ∧ (∀ i, i < n → bst i = (b i : Int)) ∧ bm = mv b ∧ bh = hm b ∧
    (∀ s, Vd C n s → cod C s n < N → ok s → leq mv hm b s) ∧
    (∀ s, Vd C n s → cod C s n < cod C b n → ok s → ltq mv hm b s))
theorem BestLt.init (bm bh : Int) (bst : Nat → Int) : BestLt ok mv hm C n 0 0 bm bh bst := Or.inl ⟨rfl, fun s _ h => absurd h (by omega)⟩
theorem BestLt.skip {N N' : Nat} {f bm bh : Int} {bst : Nat → Int} (h : BestLt ok mv hm C n N f bm bh bst) (hN : N ≤ N')
    (hs : ∀ s, Vd C n s → N ≤ cod C s n → cod C s n < N' → ok s → f = 1 ∧ (bm < mv s ∨ (bm = mv s ∧ bh ≤ hm s))) : BestLt ok mv hm C n N' f bm bh bst := by
  rcases h with ⟨hf, h⟩ | ⟨hf, b, h1, h2, h3, h4, h5, h6, h7, h8⟩
  · refine Or.inl ⟨hf, fun s hv hc ho => ?_⟩
    by_cases hN2 : cod C s n < N
    · exact h s hv hN2 ho
    · have := (hs s hv (by omega) hc ho).1
      omega
  · refine Or.inr ⟨hf, b, h1, by omega, h3, h4, h5, h6, fun s hv hc ho => ?_, h8⟩
    by_cases hN2 : cod C s n < N
    · exact h7 s hv hN2 ho
    · have := (hs s hv (by omega) hc ho).2
      rw [h5, h6] at this
      exact this
theorem BestLt.new {N : Nat} {f bm bh : Int} {bst bst' : Nat → Int} {s : Nat → Nat} (h : BestLt ok mv hm C n N f bm bh bst) (hv : Vd C n s) (hN : cod C s n = N) (ho : ok s)
    (hcong : ∀ s t, (∀ i, i < n → s i = t i) → mv s = mv t ∧ hm s = hm t) (hb : f = 0 ∨ mv s < bm ∨ (mv s = bm ∧ hm s < bh)) (hbst : ∀ i, i < n → bst' i = (s i : Int)) : BestLt ok mv hm C n (N + 1) 1 (mv s) (hm s) bst' := by
  have key : ∀ t, Vd C n t → cod C t n < N → ok t → ltq mv hm s t := by
    intro t htv htc hto
    rcases h with ⟨hf, h⟩ | ⟨hf, b, h1, h2, h3, h4, h5, h6, h7, h8⟩
    · exact absurd hto (h t htv htc)
    · have q := h7 t htv htc hto
      unfold leq at q
      unfold ltq
      omega
  refine Or.inr ⟨rfl, s, hv, by omega, ho, hbst, rfl, rfl, fun t htv htc hto => ?_, fun t htv htc hto => key t htv (by omega) hto⟩
  by_cases htN : cod C t n < N
  · have q := key t htv htN hto
    unfold ltq at q
    unfold leq
    omega
  · have e := hcong s t (cod_inj hv htv (by omega))
    unfold leq
    omega
theorem BestLt.uniq {N : Nat} {f bm bh f' bm' bh' : Int} {bst bst' : Nat → Int} (h : BestLt ok mv hm C n N f bm bh bst) (k : BestLt ok mv hm C n N f' bm' bh' bst') : f = f' ∧ (f = 1 → bm = bm' ∧ bh = bh' ∧ ∀ i, i < n → bst i = bst' i) := by
  rcases h with ⟨hf, h⟩ | ⟨hf, b, h1, h2, h3, h4, h5, h6, h7, h8⟩
  · rcases k with ⟨kf, k⟩ | ⟨kf, c, k1, k2, k3, k4, k5, k6, k7, k8⟩
    · exact ⟨by omega, fun z => absurd z (by omega)⟩
    · exact absurd k3 (h c k1 k2)
  · rcases k with ⟨kf, k⟩ | ⟨kf, c, k1, k2, k3, k4, k5, k6, k7, k8⟩
    · exact absurd h3 (k b h1 h2)
    · have q1 := h7 c k1 k2 k3
      have q2 := k7 b h1 h2 h3
      have q3 := h8 c k1
      have q4 := k8 b h1
      unfold leq at q1 q2
      unfold ltq at q3 q4
      have e : cod C b n = cod C c n := by
        apply Classical.byContradiction
        intro hc
        by_cases hlt : cod C b n < cod C c n
        · have := q4 hlt h3; omega
        · have := q3 (by omega) k3; omega
      refine ⟨by omega, fun _ => ⟨by omega, by omega, fun i hi => ?_⟩⟩
      rw [h4 i hi, k4 i hi, cod_inj h1 k1 e i hi]
end BEST
/-! the classes of a way -/
def grp (s : Nat → Nat) (a k i : Nat) : Bool := decide (i < a) && decide (s i = k)
theorem grp_iff {s : Nat → Nat} {a k i : Nat} : grp s a k i = true ↔ i < a ∧ s i = k := by
  unfold grp; rw [Bool.and_eq_true, decide_eq_true_iff, decide_eq_true_iff]
def gsF (mem : Nat → Nat) (n : Nat) (s : Nat → Nat) (k : Nat) : Nat → Bool := chG mem (grp s n k) n
theorem chG_iff {mem : Nat → Nat} {G : Nat → Bool} {n c : Nat} : chG mem G n c = true ↔ ∃ i, i < n ∧ G i = true ∧ mem i = c := by
  unfold chG
  rw [anyB_iff]
  constructor
  · rintro ⟨i, hi, h⟩
    rw [Bool.and_eq_true, decide_eq_true_iff] at h
    exact ⟨i, hi, h⟩
  · rintro ⟨i, hi, h⟩
    exact ⟨i, hi, by rw [Bool.and_eq_true, decide_eq_true_iff]; exact h⟩
theorem chG_congr {mem : Nat → Nat} {G H : Nat → Bool} : ∀ {n : Nat} {c : Nat}, (∀ i, i < n → G i = H i) → chG mem G n c = chG mem H n c := by
  intro n c h
  unfold chG
  induction n with
  | zero => rfl
  | succ n ih =>
    unfold anyB
    rw [ih (fun i hi => h i (by omega)), h n (by omega)]
def okW (B : Mem) (known : Int) (mem : Nat → Nat) (n : Nat) (s : Nat → Nat) : Prop := soundG B known (gsF mem n s) ∧ lackGG B known (gsF mem n s) = 0
def hmW (B : Mem) (known : Int) (mem : Nat → Nat) (n : Nat) (s : Nat → Nat) : Int := harmGG B known (gsF mem n s)
def mv1 (stay : Nat → Int) (s : Nat → Nat) (i : Nat) : Int := if stay i = -1 ∨ stay i = (s i : Int) then 0 else 1
def mvW (stay : Nat → Int) (n : Nat) (s : Nat → Nat) : Int := fb_si (mv1 stay s) n
theorem mv1_b (stay : Nat → Int) (s : Nat → Nat) (i : Nat) : 0 ≤ mv1 stay s i ∧ mv1 stay s i ≤ 1 := by
  unfold mv1; split <;> omega
theorem mvW_b (stay : Nat → Int) (s : Nat → Nat) (n : Nat) : 0 ≤ mvW stay n s ∧ mvW stay n s ≤ n := by
  have q := si_nn (f := mv1 stay s) (b := 1) (n := n) (fun k _ => mv1_b stay s k)
  unfold mvW
  omega
theorem mvW_mono (stay : Nat → Int) (s : Nat → Nat) (a : Nat) : ∀ e, mvW stay a s ≤ mvW stay (a + e) s
  | 0 => Int.le_refl _
  | e + 1 => by
    have ih := mvW_mono stay s a e
    have := mv1_b stay s (a + e)
    show _ ≤ fb_si (mv1 stay s) (a + e) + mv1 stay s (a + e)
    unfold mvW at ih ⊢
    omega
theorem mvW_congr {stay : Nat → Int} {s t : Nat → Nat} {n : Nat} (h : ∀ i, i < n → s i = t i) : mvW stay n s = mvW stay n t := fb_si_cong (fun i hi => by unfold mv1; rw [h i hi])
theorem gsF_congr {mem : Nat → Nat} {s t : Nat → Nat} {n : Nat} (h : ∀ i, i < n → s i = t i) : gsF mem n s = gsF mem n t := by
  funext k c
  exact chG_congr (fun i hi => by unfold grp; rw [h i hi])
theorem mvhm_congr {B : Mem} {known : Int} {mem : Nat → Nat} {stay : Nat → Int} {n : Nat} (s t : Nat → Nat) (h : ∀ i, i < n → s i = t i) : mvW stay n s = mvW stay n t ∧ hmW B known mem n s = hmW B known mem n t := by
  refine ⟨mvW_congr h, ?_⟩
  unfold hmW
  rw [gsF_congr h]
/-- less in a class is sound, too -/
theorem cnt_le {p q : Nat → Prop} [∀ k, Decidable (p k)] [∀ k, Decidable (q k)] : ∀ {n : Nat}, (∀ k, k < n → p k → q k) → cnt p n ≤ cnt q n
  | 0, _ => Int.le_refl _
  | n + 1, h => by
    have ih := cnt_le (p := p) (q := q) (n := n) (fun k hk => h k (by omega))
    rw [cnt_succ, cnt_succ]
    by_cases e : p n
    · rw [if_pos e, if_pos (h n (by omega) e)]; omega
    · rw [if_neg e]
      split <;> omega
theorem standG_sub {B : Mem} {known : Int} {k : Nat} {G H : Nat → Bool} (hGH : ∀ c, c < nK B → G c = true → H c = true) (h : standG B known k H) : standG B known k G := by
  obtain ⟨h1, h2, h3, h4⟩ := h
  refine ⟨?_, fun c hc hG => h2 c hc (hGH c hc hG), fun a ha hGa b hb hGb => h3 a ha (hGH a ha hGa) b hb (hGH b hb hGb), fun s hs => ⟨fun h5 a ha hGa hh b hb hGb hne => (h4 s hs).1 h5 a ha (hGH a ha hGa) hh b hb (hGH b hb hGb) hne, fun h6 => ?_⟩⟩
  · have : inG B G ≤ inG B H := cnt_le (fun c hc hG => hGH c hc hG)
    omega
  · have : holdG B known (2 * s) G ≤ holdG B known (2 * s) H := cnt_le (fun c hc hG => ⟨hGH c hc hG.1, hG.2⟩)
    have := (h4 s hs).2 h6
    omega
theorem stand_none {B : Mem} (h : Fa B) (known : Int) {k : Nat} (hk : k < 3) {G : Nat → Bool} (hG : ∀ c, c < nK B → G c = false) (hnb : ∀ s, s < nS B → B 97 s = 6 → 0 ≤ B 98 s) : standG B known k G := by
  have no : ∀ c, c < nK B → ¬ G c = true := fun c hc z => by rw [hG c hc] at z; cases z
  refine ⟨?_, fun c hc z => absurd z (no c hc), fun a ha z => absurd z (no a ha), fun s hs => ⟨fun _ a ha z => absurd z (no a ha), fun h6 => ?_⟩⟩
  · have : inG B G = 0 := cnt_zero (fun c hc => no c hc)
    have := (h.c5 k hk).1
    omega
  · have : holdG B known (2 * s) G = 0 := cnt_zero (fun c hc z => no c hc z.1)
    have := hnb s hs h6
    omega
theorem CF.nb6 {B M : Mem} (h : CF B M) : ∀ s, s < nS B → B 97 s = 6 → 0 ≤ B 98 s := fun s hs h6 => (h.nb hs (by omega) (by omega)).1
