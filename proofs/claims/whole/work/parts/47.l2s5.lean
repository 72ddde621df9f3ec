/-! classes that change their names -/
def sw (a b j : Nat) : Nat := if j = a then b else if j = b then a else j
theorem sw_sw {a b : Nat} (j : Nat) : sw a b (sw a b j) = j := by
  unfold sw
  by_cases h1 : j = a
  · subst h1
    rw [if_pos rfl]
    by_cases h2 : b = j
    · rw [if_pos h2]; exact h2
    · rw [if_neg h2, if_pos rfl]
  · rw [if_neg h1]
    by_cases h2 : j = b
    · subst h2; rw [if_pos rfl, if_pos rfl]
    · rw [if_neg h2, if_neg h1, if_neg h2]
theorem sw_lt {a b C : Nat} (ha : a < C) (hb : b < C) {j : Nat} (hj : j < C) : sw a b j < C := by
  unfold sw
  split
  · exact hb
  · split
    · exact ha
    · exact hj
theorem sw_eq {a b j k : Nat} : sw a b j = k ↔ j = sw a b k := by
  constructor
  · intro h; rw [← h, sw_sw]
  · intro h; rw [h, sw_sw]
theorem si_sw (f : Nat → Int) {a b C : Nat} (ha : a < b) (hb : b < C) (hC : C ≤ 3) : fb_si (fun j => f (sw a b j)) C = fb_si f C := by
  have e2 : ∀ g : Nat → Int, fb_si g 2 = 0 + g 0 + g 1 := fun _ => rfl
  have e3 : ∀ g : Nat → Int, fb_si g 3 = 0 + g 0 + g 1 + g 2 := fun _ => rfl
  by_cases h2 : C = 2
  · subst h2
    have : a = 0 := by omega
    have : b = 1 := by omega
    subst_vars
    rw [e2, e2]
    show 0 + f 1 + f 0 = 0 + f 0 + f 1
    omega
  · have : C = 3 := by omega
    subst this
    rw [e3, e3]
    by_cases h0 : a = 0
    · subst h0
      by_cases h1 : b = 1
      · subst h1
        show 0 + f 1 + f 0 + f 2 = 0 + f 0 + f 1 + f 2
        omega
      · have : b = 2 := by omega
        subst this
        show 0 + f 2 + f 1 + f 0 = 0 + f 0 + f 1 + f 2
        omega
    · have : a = 1 := by omega
      have : b = 2 := by omega
      subst_vars
      show 0 + f 0 + f 2 + f 1 = 0 + f 0 + f 1 + f 2
      omega
theorem mx_nn (f : Nat → Int) : ∀ n, 0 ≤ maxS f n
  | 0 => Int.le_refl _
  | n + 1 => by
    have := mx_nn f n
    unfold maxS
    split <;> omega
theorem mx_ge (f : Nat → Int) {k : Nat} : ∀ {n : Nat}, k < n → f k ≤ maxS f n
  | 0, h => absurd h (by omega)
  | n + 1, h => by
    unfold maxS
    by_cases e : k = n
    · subst e; split <;> omega
    · have := mx_ge f (k := k) (n := n) (by omega)
      split <;> omega
theorem mx_le {f : Nat → Int} {m : Int} (h0 : 0 ≤ m) : ∀ {n : Nat}, (∀ k, k < n → f k ≤ m) → maxS f n ≤ m
  | 0, _ => h0
  | n + 1, h => by
    have := mx_le h0 (n := n) (fun k hk => h k (by omega))
    have := h n (by omega)
    unfold maxS
    split <;> omega
theorem mn_le (f : Nat → Int) {k : Nat} : ∀ {n : Nat}, k < n → minS f n ≤ f k
  | 0, h => absurd h (by omega)
  | n + 1, h => by
    unfold minS
    by_cases e : k = n
    · subst e; split <;> omega
    · have := mn_le f (k := k) (n := n) (by omega)
      split <;> omega
theorem mn_top (f : Nat → Int) : ∀ n, minS f n ≤ 1000000000
  | 0 => Int.le_refl _
  | n + 1 => by
    have := mn_top f n
    unfold minS
    split <;> omega
theorem mn_ge {f : Nat → Int} {m : Int} (h0 : m ≤ 1000000000) : ∀ {n : Nat}, (∀ k, k < n → m ≤ f k) → m ≤ minS f n
  | 0, _ => h0
  | n + 1, h => by
    have := mn_ge h0 (n := n) (fun k hk => h k (by omega))
    have := h n (by omega)
    unfold minS
    split <;> omega
theorem mx_sw (f : Nat → Int) {a b C : Nat} (ha : a < C) (hb : b < C) : maxS (fun j => f (sw a b j)) C = maxS f C := by
  apply Int.le_antisymm
  · exact mx_le (mx_nn f C) (fun k hk => mx_ge f (sw_lt ha hb hk))
  · refine mx_le (mx_nn _ C) (fun k hk => ?_)
    have := mx_ge (fun j => f (sw a b j)) (sw_lt ha hb hk)
    try dsimp only at this
    rw [sw_sw] at this
    exact this
theorem mn_sw (f : Nat → Int) {a b C : Nat} (ha : a < C) (hb : b < C) : minS (fun j => f (sw a b j)) C = minS f C := by
  apply Int.le_antisymm
  · refine mn_ge (mn_top _ C) (fun k hk => ?_)
    have := mn_le (fun j => f (sw a b j)) (sw_lt ha hb hk)
    try dsimp only at this
    rw [sw_sw] at this
    exact this
  · exact mn_ge (mn_top f C) (fun k hk => mn_le f (sw_lt ha hb hk))
section SWAP
variable {B : Mem} {known : Int}
theorem allG_sw {G : Nat → Nat → Bool} {a b : Nat} (ha : a < nC B) (hb : b < nC B) : allG (nC B) (fun j => G (sw a b j)) = allG (nC B) G := by
  funext c
  have key : ∀ X : Nat → Nat → Bool, allG (nC B) (fun j => X (sw a b j)) c = true → allG (nC B) X c = true := by
    intro X h
    unfold allG at h ⊢
    rw [anyB_iff] at h ⊢
    obtain ⟨k, hk, e⟩ := h
    exact ⟨sw a b k, sw_lt ha hb hk, e⟩
  cases e : allG (nC B) G c with
  | true =>
    refine key (fun j => G (sw a b j)) ?_
    have : (fun j => (fun j => G (sw a b j)) (sw a b j)) = G := funext (fun j => by show G (sw a b (sw a b j)) = G j; rw [sw_sw])
    rw [this]; exact e
  | false =>
    cases e2 : allG (nC B) (fun j => G (sw a b j)) c with
    | false => rfl
    | true => rw [key G e2] at e; cases e
theorem harmGG_sw (h : Fa B) {G : Nat → Nat → Bool} {a b : Nat} (ha : a < b) (hb : b < nC B) : harmGG B known (fun j => G (sw a b j)) = harmGG B known G := by
  have h3 := h.k23
  refine fb_si_cong (fun s _ => ?_)
  unfold harmBG
  by_cases hsp : isSp B s
  · rw [if_pos hsp, if_pos hsp, mx_sw (fun k => wtG B known s (G k)) (by omega) hb, mn_sw (fun k => wtG B known s (G k)) (by omega) hb]
  · rw [if_neg hsp, if_neg hsp]
    exact si_sw (fun k => addG B known (G k) s) ha hb (by omega)
theorem lackGG_sw (h : Fa B) {G : Nat → Nat → Bool} {a b : Nat} (ha : a < b) (hb : b < nC B) : lackGG B known (fun j => G (sw a b j)) = lackGG B known G := by
  have h3 := h.k23
  exact si_sw (fun k => lackG B known (G k)) ha hb (by omega)
/-- two classes of like ROOM, like NOTS -/
def alike (B : Mem) (a b : Nat) : Prop := B 91 a = B 91 b ∧ ∀ c, c < 14 → (B 90 (3 * c + a) = 1 ↔ B 90 (3 * c + b) = 1)
theorem standG_sw (h : Fa B) {a b : Nat} (hl : alike B a b) {k : Nat} {G : Nat → Bool} (hs : standG B known k G) : standG B known (sw a b k) G := by
  have h14 := h.n14
  unfold sw
  obtain ⟨s1, s2, s3, s4⟩ := hs
  by_cases e : k = a
  · subst e
    rw [if_pos rfl]
    exact ⟨by have := hl.1; omega, fun c hc hG z => s2 c hc hG ((hl.2 c (by omega)).mpr z), s3, s4⟩
  · rw [if_neg e]
    by_cases e2 : k = b
    · subst e2
      rw [if_pos rfl]
      exact ⟨by have := hl.1; omega, fun c hc hG z => s2 c hc hG ((hl.2 c (by omega)).mp z), s3, s4⟩
    · rw [if_neg e2]
      exact ⟨s1, s2, s3, s4⟩
theorem soundG_sw (h : Fa B) {a b : Nat} (ha : a < nC B) (hb : b < nC B) (hl : alike B a b) {G : Nat → Nat → Bool} (hs : soundG B known G) : soundG B known (fun j => G (sw a b j)) := by
  intro k hk
  rw [allG_sw ha hb]
  have := hs (sw a b k) (sw_lt ha hb hk)
  refine ⟨?_, this.2⟩
  have q := standG_sw h hl this.1
  rw [sw_sw] at q
  exact q
theorem gsF_sw {mem : Nat → Nat} {n : Nat} (t : Nat → Nat) (a b : Nat) : gsF mem n (fun i => sw a b (t i)) = fun j => gsF mem n t (sw a b j) := by
  funext j c
  refine chG_congr (fun i hi => ?_)
  unfold grp
  congr 1
  exact decide_eq_decide.mpr sw_eq
theorem okW_sw (h : Fa B) {mem : Nat → Nat} {n a b : Nat} (ha : a < b) (hb : b < nC B) (hl : alike B a b) {t : Nat → Nat} (ho : okW B known mem n t) : okW B known mem n (fun i => sw a b (t i)) := by
  unfold okW at ho ⊢
  rw [gsF_sw]
  exact ⟨soundG_sw h (by omega) hb hl ho.1, by rw [lackGG_sw h ha hb]; exact ho.2⟩
theorem hmW_sw (h : Fa B) {mem : Nat → Nat} {n a b : Nat} (ha : a < b) (hb : b < nC B) (t : Nat → Nat) : hmW B known mem n (fun i => sw a b (t i)) = hmW B known mem n t := by
  unfold hmW
  rw [gsF_sw, harmGG_sw h ha hb]
end SWAP
/-! the search: what is left out -/
section PRUNE
variable {B M : Mem} {known : Int} {n : Nat} {mem : Nat → Nat} {stay : Nat → Int}
theorem mem_inj (S : SU B n mem stay M) {i j : Nat} (hi : i < n) (hj : j < n) (e : mem i = mem j) : i = j := by
  apply Classical.byContradiction
  intro hne
  by_cases h : i < j
  · have := S.2.2.1 i j h hj; omega
  · have := S.2.2.1 j i (by omega) hi; omega
theorem prune_stand {s t : Nat → Nat} {a k : Nat} (hk : k < nC B) (hst : ¬ standG B known k (chG mem (grp (ext s a k) (a + 1) k) n)) (ha : a < n) (hag : ∀ i, i < a + 1 → t i = ext s a k i) : ¬ okW B known mem n t := by
  intro ho
  refine hst (standG_sub (fun c hc h => ?_) (ho.1 k hk).1)
  obtain ⟨i, hi, hg, hm⟩ := chG_iff.mp h
  have g := grp_iff.mp hg
  exact chG_iff.mpr ⟨i, hi, grp_iff.mpr ⟨hi, by rw [hag i g.1]; exact g.2⟩, hm⟩
theorem prune_twins (S : SU B n mem stay M) {s t : Nat → Nat} {a k : Nat} (hk : k < nC B) (htw : ∃ j, j < a ∧ twB B mem a j ∧ s j ≠ k) (ha : a < n) (hv : Vd (nC B) n t) (hag : ∀ i, i < a + 1 → t i = ext s a k i) : ¬ okW B known mem n t := by
  intro ho
  obtain ⟨j, hj, htb, hne⟩ := htw
  have ta : t a = k := by rw [hag a (by omega), ext_at]
  have tj : t j = s j := by rw [hag j (by omega), ext_lt s hj]
  have q := (ho.1 k hk).2 htb.1 (mem a) (S.2.1 a ha) (chG_iff.mpr ⟨a, ha, grp_iff.mpr ⟨ha, ta⟩, rfl⟩) (mem j) (S.2.1 j (by omega)) ((anyB_iff _ _).mpr ⟨t j, hv j (by omega), chG_iff.mpr ⟨j, by omega, grp_iff.mpr ⟨by omega, rfl⟩, rfl⟩⟩) htb.2
  obtain ⟨i, hi, hg, hm⟩ := chG_iff.mp q
  have e := mem_inj S hi (show j < n by omega) hm
  subst e
  have := (grp_iff.mp hg).2
  omega
theorem leaf_sound (h : Fa B) (S : SU B n mem stay M) {s : Nat → Nat} (L : LG B known n mem s n) : soundG B known (gsF mem n s) := by
  have h14 := h.n14
  intro k hk
  refine ⟨L.2.1 k hk, fun how a ha hG b hb hA htw => ?_⟩
  obtain ⟨i, hi, hg, hm⟩ := chG_iff.mp hG
  obtain ⟨k2, hk2, e2⟩ := (anyB_iff _ _).mp hA
  obtain ⟨j, hj, hg2, hm2⟩ := chG_iff.mp e2
  subst hm hm2
  have g1 := (grp_iff.mp hg).2
  have key : s j = s i := by
    by_cases e : i = j
    · rw [e]
    · by_cases hlt : j < i
      · exact (L.2.2 i hi j hlt ⟨how, htw⟩).symm
      · refine L.2.2 j hj i (by omega) ⟨how, ?_⟩
        rw [(h.d5 (mem j) (mem i) (by omega) (by omega)).2.1]
        exact htw
  exact chG_iff.mpr ⟨j, hj, grp_iff.mpr ⟨hj, by omega⟩, rfl⟩
theorem hmW_nn {M : Mem} (h : CF B M) (t : Nat → Nat) : 0 ≤ hmW B known mem n t ∧ hmW B known mem n t ≤ 92207808 := harmGG_b h known _
/-- the sum over children of the sum over places -/
theorem mem_sum (S : SU B n mem stay M) (f : Nat → Int) (g : Nat → Bool) : ∀ m, m ≤ n → fb_si (fun c => if chG mem g m c = true then f c else 0) (nK B) = fb_si (fun i => if g i = true then f (mem i) else 0) m
  | 0, _ => by
    rw [show (fun c => if chG mem g 0 c = true then f c else 0) = fun _ => (0 : Int) from funext (fun c => if_neg (show ¬ false = true by decide)), si_zero]
    rfl
  | m + 1, hm => by
    rw [fb_si_succ, ← mem_sum S f g m (by omega)]
    have e : fb_si (fun c => if ((mem m : Nat) : Int) = (c : Int) then (if g m = true then f (mem m) else 0) else 0) (nK B) = if g m = true then f (mem m) else 0 := by
      rw [si_one ((mem m : Nat) : Int) (fun _ => if g m = true then f (mem m) else 0), if_pos (by have := S.2.1 m (by omega); omega)]
    rw [← e, ← fb_si_add]
    refine fb_si_cong (fun c hc => ?_)
    show (if (chG mem g m c || (g m && decide (mem m = c))) = true then f c else 0) = _
    by_cases hmc : mem m = c
    · subst hmc
      have no : chG mem g m (mem m) = false := by
        cases e2 : chG mem g m (mem m) with
        | false => rfl
        | true =>
          obtain ⟨i, hi, -, he⟩ := chG_iff.mp e2
          have := mem_inj S (show i < n by omega) (show m < n by omega) he
          omega
      rw [no, decide_eq_true rfl, Bool.false_or, Bool.and_true, if_pos rfl, if_neg (show ¬ false = true by decide), Int.zero_add]
    · rw [decide_eq_false hmc, Bool.and_false, Bool.or_false, if_neg (show ¬ ((mem m : Nat) : Int) = (c : Int) by omega), Int.add_zero]
theorem wt_mem (S : SU B n mem stay M) (t : Nat) (s : Nat → Nat) (k : Nat) : wtG B known t (gsF mem n s k) = smS B known mem t s k n := by
  unfold wtG gsF smS
  rw [mem_sum S (wOf B known t) (grp s n k) n (by omega)]
  refine fb_si_cong (fun i hi => ?_)
  by_cases e : s i = k
  · rw [if_pos e, if_pos (grp_iff.mpr ⟨hi, e⟩)]
  · rw [if_neg e, if_neg (fun z => e (grp_iff.mp z).2)]
theorem prune_repeat (h : Fa B) {s t : Nat → Nat} {a k b e : Nat} (hn : a + (e + 1) = n) (hk : k < nC B) (hst : ∀ i, i < n → stay i = -1) (hr : likeEmpty B s a k b) (hv : Vd (nC B) n t) (hag : ∀ i, i < a + 1 → t i = ext s a k i) (hs : Vd (nC B) a s) {f bm bh : Int} {bst : Nat → Int}
    (hB : BestLt (okW B known mem n) (mvW stay n) (hmW B known mem n) (nC B) n ((nC B * cod (nC B) s a + k) * nC B ^ e) f bm bh bst) (ho : okW B known mem n t) : f = 1 ∧ (bm < mvW stay n t ∨ (bm = mvW stay n t ∧ bh ≤ hmW B known mem n t)) := by
  obtain ⟨r1, r2, r3, r4, r5⟩ := hr
  have hl : alike B b k := ⟨r4, r5⟩
  have ho2 := okW_sw h r1 hk hl ho
  have hm2 := hmW_sw (known := known) h (mem := mem) (n := n) r1 hk t
  have mz : ∀ u, mvW stay n u = 0 := fun u => by
    unfold mvW
    rw [fb_si_cong (g := fun _ => 0) (fun i hi => by unfold mv1; rw [if_pos (Or.inl (hst i hi))]), si_zero]
  have hv2 : Vd (nC B) n (fun i => sw b k (t i)) := fun i hi => sw_lt (by omega) hk (hv i hi)
  have ag2 : ∀ i, i < a + 1 → (fun i => sw b k (t i)) i = ext s a b i := by
    intro i hi
    show sw b k (t i) = _
    rw [hag i hi]
    by_cases e2 : i = a
    · subst e2
      rw [ext_at, ext_at]
      unfold sw
      rw [if_neg (by omega), if_pos rfl]
    · rw [ext_lt s (by omega), ext_lt s (by omega)]
      unfold sw
      rw [if_neg (r3 i (by omega)), if_neg (r2 i (by omega))]
  have hc : cod (nC B) (fun i => sw b k (t i)) (a + 1) = nC B * cod (nC B) s a + b := by
    rw [cod_congr ag2]
    show nC B * cod (nC B) (ext s a b) a + ext s a b a = _
    rw [ext_at, cod_congr (fun i hi => ext_lt s hi)]
  have hlt : cod (nC B) (fun i => sw b k (t i)) n < (nC B * cod (nC B) s a + k) * nC B ^ e := by
    have q := (cod_block (C := nC B) (s := fun i => sw b k (t i)) (a + 1) e (by rw [show a + 1 + e = n by omega]; exact hv2)).2
    rw [hc, show a + 1 + e = n by omega] at q
    have := Nat.mul_le_mul_right (nC B ^ e) (show nC B * cod (nC B) s a + b + 1 ≤ nC B * cod (nC B) s a + k by omega)
    omega
  rcases hB with ⟨-, h0⟩ | ⟨hf, w, h1, h2, h3, h4, h5, h6, h7, h8⟩
  · exact absurd ho2 (h0 _ hv2 hlt)
  · refine ⟨hf, ?_⟩
    have := h7 _ hv2 hlt ho2
    unfold leq at this
    rw [mz, mz, hm2] at this
    rw [h5, h6, mz, mz]
    omega
end PRUNE
