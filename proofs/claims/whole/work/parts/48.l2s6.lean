/-! the search: a way weighed -/
section WEIGH
variable {B M : Mem} {known : Int} {n : Nat} {mem : Nat → Nat} {stay : Nat → Int}
theorem c_spreadOf (X : ST B known n mem stay M) {s : Nat → Nat} {a : Nat} (D : DS B known mem stay s a M) (ha : a ≤ n) {t : Nat} (ht : t < nS B) (hsp : isSp B t) :
    f_X8_spreadOf ((3 * spN B t : Nat) : Int) M = some (maxS (fun k => smS B known mem t s k a) (nC B) - minS (fun k => smS B known mem t s k a) (nC B)) := by
  have h3 := X.1.c.1.k23
  have h16 := X.1.c.1.s16
  have hlt := spN_lt B ht hsp
  have hle := spN_le B (nS B)
  obtain ⟨m, hm, hm2⟩ := nC1 X.1.c.1
  let f : Nat → Int := fun k => smS B known mem t s k a
  have fb : ∀ k, 0 ≤ f k ∧ f k ≤ 891 := fun k => smS_b X.1.c.1 X.2.1 t s k ha
  have d := D.2.2.2 t ht hsp
  have f0 : minS f 1 = f 0 := by
    show (if f 0 < 1000000000 then f 0 else 1000000000) = f 0
    rw [if_pos (by have := fb 0; omega)]
  have g0 : maxS f 1 = f 0 := by
    show (if 0 < f 0 then f 0 else 0) = f 0
    by_cases z : 0 < f 0
    · rw [if_pos z]
    · rw [if_neg z]; have := fb 0; omega
  have d0 : M 44 (3 * spN B t) = f 0 := d 0 (by omega)
  apply ok_to
  unfold f_X8_spreadOf
  rw [toN, d0]
  refine ok_gd (by omega) (ok_lt ?_)
  have hl : f_X8_spreadOf_l12 ((3 * spN B t : Nat) : Int) M (f 0) (f 0) 1 = some (minS f (nC B), maxS f (nC B), (nC B : Int)) := by
    unfold f_X8_spreadOf_l12
    refine whl_n m (fun k => (minS f (k + 1), maxS f (k + 1), ((k + 1 : Nat) : Int))) (by omega) (by rw [f0, g0]; rfl) (fun k hk => ?_) ?_
    · apply ok_to
      unfold f_X8_spreadOf_s12
      try dsimp only
      (try simp (disch := omega) only [wrap_of, toN, nA, n1, mr2, mr3, mr4, mr9, mr14, ml2, ml3, ml4, ml7, ml14, ml28, X.1.c.k])
      rw [d (k + 1) (by omega)]
      refine ok_ite_f (by omega) (ok_gd (by omega) (ok_lt (ok_gd (by omega) (ok_lt (ok_lt (ok_some rfl))))))
    · apply ok_to
      unfold f_X8_spreadOf_s12
      try dsimp only
      (try simp (disch := omega) only [wrap_of, toN, nA, n1, mr2, mr3, mr4, mr9, mr14, ml2, ml3, ml4, ml7, ml14, ml28, X.1.c.k])
      rw [hm]
      exact ok_ite_t (by omega) (ok_some rfl)
  refine ok_e hl ?_
  unfold f_X8_spreadOf_j58
  have q := spr_b (f := f) (b := 891) (by omega) (by omega) fb m
  rw [← hm] at q
  try dsimp only
  rw [wrap_of (by omega) (by omega)]
  exact ok_some rfl
/-- what the statements that are spread cost, the others -/
def spH (B : Mem) (known : Int) (mem : Nat → Nat) (s : Nat → Nat) (n t : Nat) : Int := B 98 t * (maxS (fun k => smS B known mem t s k n) (nC B) - minS (fun k => smS B known mem t s k n) (nC B))
def adH (B : Mem) (known : Int) (mem : Nat → Nat) (n : Nat) (s : Nat → Nat) (k : Nat) : Int := fb_si (addG B known (gsF mem n s k)) (nS B)
theorem hm_split (S : SU B n mem stay M) (s : Nat → Nat) : hmW B known mem n s = fb_si (adH B known mem n s) (nC B) + fb_si (fun t => if isSp B t then spH B known mem s n t else 0) (nS B) := by
  unfold adH
  have e := si_swap (fun t k => addG B known (gsF mem n s k) t) (nC B) (nS B)
  rw [show (fun k => fb_si (addG B known (gsF mem n s k)) (nS B)) = fun k => fb_si (fun t => addG B known (gsF mem n s k) t) (nS B) from rfl, ← e, ← fb_si_add]
  refine fb_si_cong (fun t ht => ?_)
  unfold harmBG
  by_cases hsp : isSp B t
  · rw [if_pos hsp, if_pos hsp]
    have z : fb_si (fun k => addG B known (gsF mem n s k) t) (nC B) = 0 := by
      unfold isSp at hsp
      rw [show (fun k => addG B known (gsF mem n s k) t) = fun _ => (0 : Int) from funext (fun k => by
        unfold addG
        rw [if_neg (by omega), if_neg (by omega), if_neg (by omega)]), si_zero]
    rw [z, Int.zero_add]
    unfold spH
    rw [mx_congr (fun k _ => wt_mem S t s k), mn_congr (fun k _ => wt_mem S t s k)]
  · rw [if_neg hsp, if_neg hsp, Int.add_zero]
theorem spH_b (H : CF B M) (S : SU B n mem stay M) (s : Nat → Nat) {t : Nat} (ht : t < nS B) (hsp : isSp B t) : 0 ≤ spH B known mem s n t ∧ spH B known mem s n t ≤ 88209 := by
  obtain ⟨m, hm, hm2⟩ := nC1 H.1
  unfold isSp at hsp
  have nb := H.nb ht (by omega) (by omega)
  have q := spr_b (f := fun k => smS B known mem t s k n) (b := 891) (by omega) (by omega) (fun k => smS_b H.1 S t s k (Nat.le_refl n)) m
  rw [← hm] at q
  have := mul_b nb.1 nb.2 q.1 q.2
  unfold spH
  omega
theorem adH_b (H : CF B M) (s : Nat → Nat) (k : Nat) : 0 ≤ adH B known mem n s k ∧ adH B known mem n s k ≤ 30735936 := by
  have h16 := H.1.s16
  have q := si_nn (f := addG B known (gsF mem n s k)) (b := 1920996) (n := nS B) (fun t ht => addG_b H known _ ht)
  unfold adH
  omega
theorem c_weigh (X : ST B known n mem stay M) {s : Nat → Nat} (D : DS B known mem stay s n M) (L : LG B known n mem s n) (hmv : M 35 17 = 0 ∨ M 35 16 ≤ M 35 18) (hB : Best B known n mem stay M (cod (nC B) s n)) :
    Okk (f_X8_weigh M) (fun M' => (∀ c i, ¬ ((c = 35 ∧ 17 ≤ i) ∨ c = 47) → M' c i = M c i) ∧ Best B known n mem stay M' (cod (nC B) s n + 1)) := by
  obtain ⟨H, S, hT, hJ, h9, hSp⟩ := X
  have X : ST B known n mem stay M := ⟨H, S, hT, hJ, h9, hSp⟩
  have hn9 := S.1
  have h3 := H.c.1.k23
  have h16 := H.c.1.s16
  have hle := spN_le B (nS B)
  -- the sums over classes
  have cell : ∀ k, k < nC B → 0 ≤ M 45 k ∧ M 45 k < 512 ∧ M 40 (M 45 k).toNat = adH B known mem n s k ∧ M 41 (M 45 k).toNat = lackG B known (gsF mem n s k) := by
    intro k hk
    have hg := D.1 k hk
    have hlow := mIs_low hg (n := n) (by omega) (fun i h1 h2 => by unfold grp; rw [decide_eq_false (by omega)]; rfl)
    have h512 := two9 hn9
    have tab := hT _ hlow
    have eX : chG mem (fun i => (M 45 k).toNat.testBit i) n = gsF mem n s k := funext (fun c => chG_congr (fun i hi => hg.2.2 i (by omega)))
    unfold tabOK at tab
    rw [eX] at tab
    have := tab.2 ⟨k, hk, L.2.1 k hk⟩
    exact ⟨hg.1, by omega, this.1, this.2⟩
  have hl6 : f_X8_weigh_l6 M 0 0 0 = some (fb_si (adH B known mem n s) (nC B), lackGG B known (gsF mem n s), (nC B : Int)) := by
    unfold f_X8_weigh_l6
    refine whl_n (nC B) (fun k => (fb_si (adH B known mem n s) k, fb_si (fun k => lackG B known (gsF mem n s k)) k, (k : Int))) (by omega) rfl (fun k hk => ?_) ?_
    · apply ok_to
      obtain ⟨c1, c2, c3, c4⟩ := cell k hk
      have b1 := adH_b (known := known) (mem := mem) (n := n) H.c s k
      have b2 := lackG_b H.c known (gsF mem n s k)
      have q1 := si_nn (f := adH B known mem n s) (b := 30735936) (n := k) (fun j _ => adH_b H.c s j)
      have q2 := si_nn (f := fun k => lackG B known (gsF mem n s k)) (b := 1584) (n := k) (fun j _ => lackG_b H.c known _)
      have e1 : wrap (fb_si (adH B known mem n s) k + adH B known mem n s k) = fb_si (adH B known mem n s) (k + 1) := by rw [fb_si_succ, wrap_of (by omega) (by omega)]
      have e2 : wrap (fb_si (fun k => lackG B known (gsF mem n s k)) k + lackG B known (gsF mem n s k)) = fb_si (fun k => lackG B known (gsF mem n s k)) (k + 1) := by rw [fb_si_succ, wrap_of (by omega) (by omega)]
      unfold f_X8_weigh_s6
      try dsimp only
      rw [H.c.k, toN, c3, c4, e1, e2, wrap_of (x := (k : Int) + 1) (by omega) (by omega)]
      refine ok_ite_f (by omega) (ok_gd (by omega) (ok_gd (by omega) (ok_lt (ok_gd (by omega) (ok_gd (by omega) (ok_lt (ok_lt (ok_some rfl))))))))
    · apply ok_to
      unfold f_X8_weigh_s6
      try dsimp only
      rw [H.c.k]
      exact ok_ite_t (by omega) (ok_some rfl)
  have sound := leaf_sound H.c.1 S L
  have okiff : okW B known mem n s ↔ lackGG B known (gsF mem n s) = 0 := ⟨fun z => z.2, fun z => ⟨sound, z⟩⟩
  have hsplit := hm_split (known := known) S s
  have hA := si_nn (f := adH B known mem n s) (b := 30735936) (n := nC B) (fun j _ => adH_b H.c s j)
  let g : Nat → Int := fun j => M 42 j * (maxS (fun k => M 44 (3 * j + k)) (nC B) - minS (fun k => M 44 (3 * j + k)) (nC B))
  have gsp : ∀ t, t < nS B → isSp B t → g (spN B t) = spH B known mem s n t := by
    intro t ht hsp
    show M 42 (spN B t) * _ = _
    rw [(hSp t ht hsp).1, mx_congr (g := fun k => smS B known mem t s k n) (fun k hk => D.2.2.2 t ht hsp k hk), mn_congr (g := fun k => smS B known mem t s k n) (fun k hk => D.2.2.2 t ht hsp k hk)]
    rfl
  have gsum : fb_si g (spN B (nS B)) = fb_si (fun t => if isSp B t then spH B known mem s n t else 0) (nS B) := by
    rw [sp_sum]
    refine fb_si_cong (fun t ht => ?_)
    by_cases hsp : isSp B t
    · rw [if_pos hsp, if_pos hsp, gsp t ht hsp]
    · rw [if_neg hsp, if_neg hsp]
  have jt : ∀ j, j < spN B (nS B) → ∃ t, t < nS B ∧ isSp B t ∧ spN B t = j := by
    intro j hj
    obtain ⟨t, ht, hp, e⟩ := fb_ct_kth (p := fun t => decide (isSp B t)) (k := j) hj
    exact ⟨t, ht, of_decide_eq_true hp, e⟩
  have gb : ∀ j, j < spN B (nS B) → 0 ≤ g j ∧ g j ≤ 88209 := by
    intro j hj
    obtain ⟨t, ht, hsp, e⟩ := jt j hj
    rw [← e, gsp t ht hsp]
    exact spH_b H.c S s ht hsp
  have gall := si_nn (f := g) (b := 88209) (n := spN B (nS B)) gb
  have hsplit2 : hmW B known mem n s = fb_si (adH B known mem n s) (nC B) + fb_si g (spN B (nS B)) := by rw [hsplit, gsum]
  generalize hv0 : fb_si (adH B known mem n s) (nC B) = v0 at hl6 hA hsplit2
  generalize hlk : lackGG B known (gsF mem n s) = lk at hl6 okiff
  -- the loop over what is spread
  have l78 : ∀ s0 : Int, Okk (f_X8_weigh_l78 lk s0 M v0 0) (fun r => lk = 0 → (s0 ≠ 0 → r.1 = hmW B known mem n s) ∧ (s0 = 0 → r.1 = hmW B known mem n s ∨ (M 35 19 ≤ r.1 ∧ r.1 ≤ hmW B known mem n s))) := by
    intro s0
    unfold f_X8_weigh_l78
    refine ok_whl (spN B (nS B)) (fun j r => r.2 = (j : Int) ∧ r.1 = v0 + fb_si g j) (FU_big (by omega)) ⟨rfl, (Int.add_zero v0).symm⟩ ?_
    rintro j ⟨v, w⟩ hj ⟨e2, e1⟩
    dsimp only at e1 e2 ⊢
    subst e2 e1
    have mono : j ≤ spN B (nS B) → fb_si g j ≤ fb_si g (spN B (nS B)) := by
      intro hle2
      have e := fb_si_split g j (spN B (nS B) - j)
      rw [show j + (spN B (nS B) - j) = spN B (nS B) by omega] at e
      have := si_nn (f := fun k => g (j + k)) (b := 88209) (n := spN B (nS B) - j) (fun k hk => gb (j + k) (by omega))
      omega
    unfold f_X8_weigh_s78
    (try simp (disch := omega) only [wrap_of, toN, nA, n1, mr2, mr3, mr4, mr9, mr14, ml2, ml3, ml4, ml7, ml14, ml28, h9])
    refine ok_ite (fun h => ok_some (fun _ => ?_)) (fun h => ?_)
    · have e : j = spN B (nS B) := by omega
      subst e
      exact ⟨fun _ => hsplit2.symm, fun _ => Or.inl hsplit2.symm⟩
    have hjn : j < spN B (nS B) := by omega
    obtain ⟨t, ht, hsp, et⟩ := jt j hjn
    have gj := gb j hjn
    have qj := si_nn (f := g) (b := 88209) (n := j) (fun k hk => gb k (by omega))
    have m1 := mono hj
    have goal2 : Okk (gd ((0 : Int) ≤ (j : Int) ∧ (j : Int) < 16) <| obn (f_X8_spreadOf ((3 * j : Nat) : Int) M) fun r_2 => lt (wrap (v0 + fb_si g j + wrap (M 42 j * r_2))) fun v1_3 => lt ((j + 1 : Nat) : Int) fun v4_3 => some (Sum.inl (v1_3, v4_3)))
        (inS (fun s' => j < spN B (nS B) ∧ s'.2 = ((j + 1 : Nat) : Int) ∧ s'.1 = v0 + fb_si g (j + 1)) (fun r : Int × Int => lk = 0 → (s0 ≠ 0 → r.1 = hmW B known mem n s) ∧ (s0 = 0 → r.1 = hmW B known mem n s ∨ (M 35 19 ≤ r.1 ∧ r.1 ≤ hmW B known mem n s)))) := by
      have c := c_spreadOf X D (Nat.le_refl n) ht hsp
      have eg : M 42 j * (maxS (fun k => smS B known mem t s k n) (nC B) - minS (fun k => smS B known mem t s k n) (nC B)) = g j := by
        rw [← et, gsp t ht hsp, (hSp t ht hsp).1]
        rfl
      rw [et] at c
      refine ok_gd (by omega) (ok_e c ?_)
      rw [eg, wrap_of (x := g j) (by omega) (by omega), wrap_of (by omega) (by omega)]
      refine ok_lt (ok_lt (ok_some ⟨hjn, rfl, ?_⟩))
      show _ = v0 + (fb_si g j + g j)
      omega
    refine ok_ite (fun hl => ok_ite (fun hs0 => ok_ite (fun hbh => ok_some (fun _ => ?_)) (fun _ => goal2)) (fun hs0 => goal2)) (fun hl => ok_some (fun z => absurd z hl))
    exact ⟨fun z => absurd hs0 z, fun _ => Or.inr ⟨hbh, by show v0 + fb_si g j ≤ _; omega⟩⟩
  -- what becomes of it
  have vd : Vd (nC B) n s := L.1
  have new : ∀ (M' : Mem) (v : Int), v = hmW B known mem n s → lk = 0 → (M 35 17 = 0 ∨ M 35 16 < M 35 18 ∨ (M 35 16 = M 35 18 ∧ v < M 35 19)) → M' 35 17 = 1 → M' 35 18 = M 35 16 → M' 35 19 = v → (∀ i, i < n → M' 47 i = M 46 i) → Best B known n mem stay M' (cod (nC B) s n + 1) := by
    intro M' v hv hl hb e17 e18 e19 e47
    unfold Best at hB ⊢
    rw [e17, e18, e19, hv, D.2.2.1]
    refine BestLt.new hB vd rfl (okiff.mpr hl) (fun s t h => mvhm_congr s t h) ?_ (fun i hi => by rw [e47 i hi]; exact D.2.1 i hi)
    rw [D.2.2.1] at hb
    rw [← hv]
    omega
  have keep : (lk = 0 → ¬ M 35 17 = 0 ∧ (M 35 18 < mvW stay n s ∨ (M 35 18 = mvW stay n s ∧ M 35 19 ≤ hmW B known mem n s))) → Best B known n mem stay M (cod (nC B) s n + 1) := by
    intro hk
    unfold Best at hB ⊢
    refine hB.skip (by omega) (fun t htv h1 h2 ho => ?_)
    have e := cod_inj vd htv (by omega)
    have ct := mvhm_congr (B := B) (known := known) (mem := mem) (stay := stay) s t e
    have hl : lk = 0 := by
      rw [← okiff]
      unfold okW at ho ⊢
      rw [gsF_congr e]; exact ho
    have := hk hl
    rw [← ct.1, ← ct.2]
    refine ⟨?_, this.2⟩
    rcases hB with h | h
    · exact absurd h.1 this.1
    · exact h.1
  have upd : ∀ v : Int, v = hmW B known mem n s → lk = 0 → (M 35 17 = 0 ∨ M 35 16 < M 35 18 ∨ (M 35 16 = M 35 18 ∧ v < M 35 19)) →
      Okk (lt (mup M 35 17 1) fun M_2 => lt (mup M_2 35 18 (M_2 35 16)) fun M_3 => lt (mup M_3 35 19 v) fun M_4 =>
        gd ((0 : Int) ≤ 0 ∧ (0 : Int) ≤ 0 ∧ (0 : Int) ≤ M_4 35 2 ∧ (0 : Int) + M_4 35 2 ≤ 9 ∧ (0 : Int) + M_4 35 2 ≤ 9) <| lt (mcp M_4 46 0 47 0 (M_4 35 2)) fun M_5 => some M_5)
        (fun M' => (∀ c i, ¬ ((c = 35 ∧ 17 ≤ i) ∨ c = 47) → M' c i = M c i) ∧ Best B known n mem stay M' (cod (nC B) s n + 1)) := by
    intro v hv hl hb
    refine ok_lt (ok_lt (ok_lt ?_))
    rw [mup_o (i := 17) M 1 (by omega)]
    have f : ∀ c i, ¬ (c = 35 ∧ 17 ≤ i) → mup (mup (mup M 35 17 1) 35 18 (M 35 16)) 35 19 v c i = M c i := fun c i q => by rw [mup_o _ _ (by omega), mup_o _ _ (by omega), mup_o _ _ (by omega)]
    have e17 : mup (mup (mup M 35 17 1) 35 18 (M 35 16)) 35 19 v 35 17 = 1 := by rw [mup_o _ _ (by omega), mup_o _ _ (by omega), mup_s]
    have e18 : mup (mup (mup M 35 17 1) 35 18 (M 35 16)) 35 19 v 35 18 = M 35 16 := by rw [mup_o _ _ (by omega), mup_s]
    have e19 : mup (mup (mup M 35 17 1) 35 18 (M 35 16)) 35 19 v 35 19 = v := mup_s _ _ _ _
    generalize mup (mup (mup M 35 17 1) 35 18 (M 35 16)) 35 19 v = M4 at f e17 e18 e19 ⊢
    have e2 : M4 35 2 = (n : Int) := by rw [f 35 2 (by omega)]; exact S.2.2.2.1
    rw [e2]
    refine ok_gd (by omega) (ok_lt (ok_some ?_))
    have fo : ∀ c i, c ≠ 47 → mcp M4 46 0 47 0 (n : Int) c i = M4 c i := fun c i q => if_neg (fun z => q z.1)
    refine ⟨fun c i q => by rw [fo c i (by omega), f c i (by omega)], new _ v hv hl hb ((fo _ _ (by omega)).trans e17) ((fo _ _ (by omega)).trans e18) ((fo _ _ (by omega)).trans e19) (fun i hi => ?_)⟩
    have : mcp M4 46 0 47 0 (n : Int) 47 i = M4 46 (0 + (i - 0)) := if_pos ⟨rfl, by show 0 ≤ i; omega, by rw [toN]; show i < 0 + n; omega⟩
    rw [this, show 0 + (i - 0) = i by omega, f 46 i (by omega)]
  have tail : ∀ s0 : Int, (s0 ≠ 0 → M 35 17 = 0 ∨ M 35 16 < M 35 18) → (s0 = 0 → ¬ M 35 17 = 0 ∧ M 35 18 ≤ M 35 16) → Okk (f_X8_weigh_j74 v0 lk s0 M) (fun M' => (∀ c i, ¬ ((c = 35 ∧ 17 ≤ i) ∨ c = 47) → M' c i = M c i) ∧ Best B known n mem stay M' (cod (nC B) s n + 1)) := by
    intro s0 h1 h0
    unfold f_X8_weigh_j74
    refine ok_obn (l78 s0) (fun r hr => ?_)
    obtain ⟨v, w⟩ := r
    dsimp only at hr ⊢
    unfold f_X8_weigh_j128
    refine ok_ite (fun hl => ?_) (fun hl => ok_some ⟨fun _ _ _ => rfl, keep (fun z => absurd z hl)⟩)
    have hr := hr hl
    refine ok_ite (fun hs0 => ?_) (fun hs0 => ?_)
    · have hh := h0 hs0
      have hr := hr.2 hs0
      have d16 := D.2.2.1
      refine ok_ite (fun hbh => ok_some ⟨fun _ _ _ => rfl, keep (fun _ => ⟨hh.1, ?_⟩)⟩) (fun hbh => ?_)
      · rw [← d16]
        by_cases e : M 35 18 = M 35 16
        · refine Or.inr ⟨e, ?_⟩
          rcases hr with hr | hr <;> omega
        · exact Or.inl (by omega)
      · have hv : v = hmW B known mem n s := by
          rcases hr with hr | hr
          · exact hr
          · exact absurd hr.1 hbh
        have e : M 35 16 = M 35 18 := by
          rcases hmv with h | h
          · exact absurd h hh.1
          · omega
        exact upd v hv hl (Or.inr (Or.inr ⟨e, by omega⟩))
    · exact upd v (hr.1 hs0) hl (by have := h1 hs0; omega)
  unfold f_X8_weigh
  refine ok_e hl6 ?_
  unfold f_X8_weigh_j51
  try dsimp only
  refine ok_ite (fun h => tail 1 (fun _ => Or.inl h) (fun z => absurd z (by decide))) (fun h => ok_ite (fun h2 => tail 0 (fun z => absurd rfl z) (fun _ => ⟨h, h2⟩)) (fun h2 => tail 1 (fun _ => Or.inr (by omega)) (fun z => absurd z (by decide))))
end WEIGH
