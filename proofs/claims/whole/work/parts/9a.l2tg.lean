/-! make: the STEPS come to an end -/
section TERM
variable {B M : Mem} {known : Int}
def zf (B : Mem) (P : Nat → Int) : Nat → Nat := fun x => if x < nK B then (P x).toNat else 0
def GS (B : Mem) (s : Nat → Nat) (k c : Nat) : Bool := decide (c < nK B) && decide (s c = k)
theorem GS_zf {P : Nat → Int} (hV : VP B P) : GS B (zf B P) = GP B P := by
  funext k c
  unfold GS GP zf
  by_cases h : c < nK B
  · have := hV c h
    rw [if_pos h, decide_eq_true h, Bool.true_and, Bool.true_and]
    exact decide_eq_decide.mpr (by omega)
  · rw [decide_eq_false h, Bool.false_and, Bool.false_and]
theorem GS_sw {s : Nat → Nat} {a b : Nat} : GS B (fun x => sw a b (s x)) = fun j => GS B s (sw a b j) := by
  funext k c
  unfold GS
  congr 1
  exact decide_eq_decide.mpr sw_eq
def keyS (B : Mem) (known : Int) (s : Nat → Nat) : Int := lackGG B known (GS B s) * 1000000000 + harmGG B known (GS B s)
def keyP (B : Mem) (known : Int) (P : Nat → Int) : Int := lackGG B known (GP B P) * 1000000000 + harmGG B known (GP B P)
theorem key_sw (hF : Fa B) {s : Nat → Nat} {a b : Nat} (ha : a < b) (hb : b < nC B) : keyS B known (fun x => sw a b (s x)) = keyS B known s := by
  unfold keyS
  rw [GS_sw, lackGG_sw hF ha hb, harmGG_sw hF ha hb]
def canS (B : Mem) (t : Nat → Nat) : Prop := (∀ x, t x < nC B) ∧ t 0 = 0 ∧ t 1 ≤ 1 ∧ (t 1 = 0 → t 2 ≤ 1)
theorem canon (hF : Fa B) {s : Nat → Nat} (hs : ∀ x, s x < nC B) : ∃ t, canS B t ∧ keyS B known t = keyS B known s := by
  have h23 := hF.k23
  obtain ⟨t1, v1, k1, z1⟩ : ∃ t, (∀ x, t x < nC B) ∧ keyS B known t = keyS B known s ∧ t 0 = 0 := by
    by_cases e : s 0 = 0
    · exact ⟨s, hs, rfl, e⟩
    · refine ⟨fun x => sw 0 (s 0) (s x), fun x => sw_lt (by omega) (hs 0) (hs x), key_sw hF (by omega) (hs 0), ?_⟩
      show sw 0 (s 0) (s 0) = 0
      unfold sw
      rw [if_neg e, if_pos rfl]
  obtain ⟨t2, v2, k2, z2, y2⟩ : ∃ t, (∀ x, t x < nC B) ∧ keyS B known t = keyS B known s ∧ t 0 = 0 ∧ t 1 ≤ 1 := by
    by_cases e : t1 1 ≤ 1
    · exact ⟨t1, v1, k1, z1, e⟩
    · have e2 : t1 1 = 2 := by have := v1 1; omega
      have hC : 2 < nC B := by have := v1 1; omega
      refine ⟨fun x => sw 1 2 (t1 x), fun x => sw_lt (by omega) hC (v1 x), (key_sw hF (by omega) hC).trans k1, ?_, ?_⟩
      · show sw 1 2 (t1 0) = 0
        rw [z1]; rfl
      · show sw 1 2 (t1 1) ≤ 1
        rw [e2]; decide
  by_cases e : t2 1 = 0 ∧ t2 2 = 2
  · have hC : 2 < nC B := by have := v2 2; omega
    refine ⟨fun x => sw 1 2 (t2 x), ⟨fun x => sw_lt (by omega) hC (v2 x), ?_, ?_, fun _ => ?_⟩, (key_sw hF (by omega) hC).trans k2⟩
    · show sw 1 2 (t2 0) = 0
      rw [z2]; rfl
    · show sw 1 2 (t2 1) ≤ 1
      rw [e.1]; decide
    · show sw 1 2 (t2 2) ≤ 1
      rw [e.2]; decide
  · refine ⟨t2, ⟨v2, z2, y2, fun z => ?_⟩, k2⟩
    have := v2 2
    omega
def cdS (t : Nat → Nat) : Nat := if t 1 = 1 then cod 3 (fun i => t (i + 2)) 12 else 531441 + t 2 * 177147 + cod 3 (fun i => t (i + 3)) 11
theorem cod_lt3 {s : Nat → Nat} {n : Nat} (h : Vd 3 n s) : cod 3 s n < 3 ^ n := by
  have h0 : Vd 3 (0 + n) s := by rw [Nat.zero_add]; exact h
  have := (cod_block 0 n h0).2
  rw [Nat.zero_add] at this
  have e : cod 3 s 0 = 0 := rfl
  rw [e, Nat.zero_add, Nat.one_mul] at this
  exact this
theorem canS.lt {t : Nat → Nat} (hF : Fa B) (h : canS B t) (x : Nat) : t x < 3 := by
  have := h.1 x
  have := hF.k23
  omega
theorem cdS_lt {t : Nat → Nat} (hF : Fa B) (h : canS B t) : cdS t < 885735 := by
  have c1 := cod_lt3 (s := fun i => t (i + 2)) (n := 12) (fun i _ => h.lt hF _)
  have c2 := cod_lt3 (s := fun i => t (i + 3)) (n := 11) (fun i _ => h.lt hF _)
  rw [show (3 : Nat) ^ 12 = 531441 by decide] at c1
  rw [show (3 : Nat) ^ 11 = 177147 by decide] at c2
  unfold cdS
  split
  · omega
  · have := h.2.2.2 (by have := h.2.2.1; omega)
    omega
theorem cdS_inj {t u : Nat → Nat} (hF : Fa B) (h : canS B t) (k : canS B u) (e : cdS t = cdS u) : keyS B known t = keyS B known u := by
  have c1 := cod_lt3 (s := fun i => t (i + 2)) (n := 12) (fun i _ => h.lt hF _)
  have c2 := cod_lt3 (s := fun i => t (i + 3)) (n := 11) (fun i _ => h.lt hF _)
  have d1 := cod_lt3 (s := fun i => u (i + 2)) (n := 12) (fun i _ => k.lt hF _)
  have d2 := cod_lt3 (s := fun i => u (i + 3)) (n := 11) (fun i _ => k.lt hF _)
  rw [show (3 : Nat) ^ 12 = 531441 by decide] at c1 d1
  rw [show (3 : Nat) ^ 11 = 177147 by decide] at c2 d2
  have all : ∀ x, x < 14 → t x = u x := by
    unfold cdS at e
    by_cases z : t 1 = 1
    · by_cases y : u 1 = 1
      · rw [if_pos z, if_pos y] at e
        have q := cod_inj (C := 3) (n := 12) (fun i _ => h.lt hF _) (fun i _ => k.lt hF _) e
        intro x hx
        by_cases x0 : x = 0
        · rw [x0, h.2.1, k.2.1]
        · by_cases x1 : x = 1
          · rw [x1, z, y]
          · have := q (x - 2) (by omega)
            try dsimp only at this
            rw [show x - 2 + 2 = x by omega] at this
            exact this
      · rw [if_pos z, if_neg y] at e; omega
    · by_cases y : u 1 = 1
      · rw [if_neg z, if_pos y] at e; omega
      · rw [if_neg z, if_neg y] at e
        have e2 : t 2 = u 2 := by omega
        have e3 : cod 3 (fun i => t (i + 3)) 11 = cod 3 (fun i => u (i + 3)) 11 := by omega
        have q := cod_inj (C := 3) (n := 11) (fun i _ => h.lt hF _) (fun i _ => k.lt hF _) e3
        intro x hx
        by_cases x0 : x = 0
        · rw [x0, h.2.1, k.2.1]
        · by_cases x1 : x = 1
          · have := h.2.2.1
            have := k.2.2.1
            rw [x1]; omega
          · by_cases x2 : x = 2
            · rw [x2, e2]
            · have := q (x - 3) (by omega)
              try dsimp only at this
              rw [show x - 3 + 3 = x by omega] at this
              exact this
  have eg : GS B t = GS B u := by
    funext j c
    unfold GS
    by_cases hc : c < nK B
    · have := hF.n14
      rw [all c (by omega)]
    · rw [decide_eq_false hc, Bool.false_and, Bool.false_and]
  unfold keyS
  rw [eg]
/-- a number of a PLAN -/
noncomputable def cdP (B : Mem) (known : Int) (P : Nat → Int) : Nat := Classical.epsilon (fun y : Nat => y < 885735 ∧ ∃ t, canS B t ∧ cdS t = y ∧ keyS B known t = keyP B known P)
theorem cdP_spec (hF : Fa B) {P : Nat → Int} (hV : VP B P) : cdP B known P < 885735 ∧ ∃ t, canS B t ∧ cdS t = cdP B known P ∧ keyS B known t = keyP B known P := by
  have hs : ∀ x, zf B P x < nC B := fun x => by
    have := hF.k23
    unfold zf
    split
    · have := hV x (by assumption); omega
    · omega
  obtain ⟨t, h1, h2⟩ := canon (known := known) hF hs
  have e : keyS B known (zf B P) = keyP B known P := by unfold keyS keyP; rw [GS_zf hV]
  exact Classical.epsilon_spec (p := fun y : Nat => y < 885735 ∧ ∃ t, canS B t ∧ cdS t = y ∧ keyS B known t = keyP B known P) ⟨cdS t, cdS_lt hF h1, t, h1, rfl, h2.trans e⟩
theorem cdP_key (hF : Fa B) {P Q : Nat → Int} (hP : VP B P) (hQ : VP B Q) (e : cdP B known P = cdP B known Q) : keyP B known P = keyP B known Q := by
  obtain ⟨-, t, t1, t2, t3⟩ := cdP_spec (known := known) hF hP
  obtain ⟨-, u, u1, u2, u3⟩ := cdP_spec (known := known) hF hQ
  rw [← t3, ← u3]
  exact cdS_inj hF t1 u1 (by rw [t2, u2, e])
theorem pigeon (g : Nat → Nat) (N : Nat) : ∀ T, (∀ i, i < T → g i < N) → (∀ i j, i < j → j < T → g i ≠ g j) → T ≤ fb_ct (fun y => pb (∃ i, i < T ∧ g i = y)) N := by
  intro T
  induction T with
  | zero => intro _ _; exact Nat.zero_le _
  | succ T ih =>
    intro h1 h2
    have q := ih (fun i hi => h1 i (by omega)) (fun i j a b => h2 i j a (by omega))
    have l := ct_ltr (p := fun y => pb (∃ i, i < T ∧ g i = y)) (q := fun y => pb (∃ i, i < T + 1 ∧ g i = y)) (n := N) (o := g T) (fun k hk hy => by
      obtain ⟨i, a, b⟩ := pb_iff.mp hy
      exact pb_iff.mpr ⟨i, by omega, b⟩) (h1 T (by omega)) (pb_iff.mpr ⟨T, by omega, rfl⟩) (pb_f.mpr (fun ⟨i, a, b⟩ => h2 i T a (by omega) b))
    omega
/-- one STEP -/
def stRel (B : Mem) (known : Int) (P Q : Nat → Int) : Prop := (∃ c k : Nat, isMv B known P c k ∧ Q = upP P c (k : Int)) ∨ (noMv B known P ∧ ∃ a b, isSw B known P a b ∧ Q = swL P a b)
theorem isMv_one {P : Nat → Int} {c k c' k' : Nat} (h : isMv B known P c k) (g : isMv B known P c' k') : c = c' ∧ k = k' := by
  obtain ⟨h1, h2, h3, h4⟩ := h
  obtain ⟨g1, g2, g3, g4⟩ := g
  rcases Nat.lt_trichotomy c c' with q | q | q
  · exact absurd h2 (g4 c q k)
  · subst q
    rcases Nat.lt_trichotomy k k' with r | r | r
    · exact absurd h2 (g3 k r)
    · exact ⟨rfl, r⟩
    · exact absurd g2 (h3 k' r)
  · exact absurd g2 (h4 c' q k')
theorem isSw_one {P : Nat → Int} {c k c' k' : Nat} (h : isSw B known P c k) (g : isSw B known P c' k') : c = c' ∧ k = k' := by
  obtain ⟨h1, h1', h2, h3, h4⟩ := h
  obtain ⟨g1, g1', g2, g3, g4⟩ := g
  rcases Nat.lt_trichotomy c c' with q | q | q
  · exact absurd h2 (g4 c q k h1 h1')
  · subst q
    rcases Nat.lt_trichotomy k k' with r | r | r
    · exact absurd h2 (g3 k h1 r)
    · exact ⟨rfl, r⟩
    · exact absurd g2 (h3 k' g1 r)
  · exact absurd g2 (h4 c' q k' g1 g1')
theorem stRel_one {P Q R : Nat → Int} (h : stRel B known P Q) (g : stRel B known P R) : Q = R := by
  rcases h with ⟨c, k, h1, h2⟩ | ⟨h1, a, b, h2, h3⟩
  · rcases g with ⟨c', k', g1, g2⟩ | ⟨g1, a', b', g2, g3⟩
    · obtain ⟨e1, e2⟩ := isMv_one h1 g1
      rw [h2, g2, e1, e2]
    · exact absurd h1.2.1 (g1 c h1.1 k)
  · rcases g with ⟨c', k', g1, g2⟩ | ⟨g1, a', b', g2, g3⟩
    · exact absurd g1.2.1 (h1 c' g1.1 k')
    · obtain ⟨e1, e2⟩ := isSw_one h2 g2
      rw [h3, g3, e1, e2]
theorem bt_key (H : CF B M) {P Q : Nat → Int} (h : btP B known P Q) : keyP B known Q < keyP B known P := by
  have a := harmGG_b H known (GP B P)
  have b := harmGG_b H known (GP B Q)
  have c := h.2
  unfold keyP
  omega
theorem stRel_key (H : CF B M) {P Q : Nat → Int} (hV : VP B P) (h : stRel B known P Q) : keyP B known Q < keyP B known P ∧ VP B Q := by
  rcases h with ⟨c, k, h1, rfl⟩ | ⟨-, a, b, h2, rfl⟩
  · exact ⟨bt_key H h1.2.1.2.2, hV.up h1.2.1.1⟩
  · exact ⟨bt_key H h2.2.2.1.2, hV.sw (by have := h2.1; have := h2.2.1; omega) h2.2.1⟩
noncomputable def nxP (B : Mem) (known : Int) (P : Nat → Int) : Nat → Int := Classical.epsilon (stRel B known P)
theorem nxP_of {P Q : Nat → Int} (h : stRel B known P Q) : nxP B known P = Q := stRel_one (Classical.epsilon_spec (p := stRel B known P) ⟨Q, h⟩) h
noncomputable def itF (B : Mem) (known : Int) (P : Nat → Int) : Nat → Nat → Int
  | 0 => P
  | t + 1 => nxP B known (itF B known P t)
def hasSt (B : Mem) (known : Int) (P : Nat → Int) : Prop := ∃ Q, stRel B known P Q
theorem hasSt.nx {P : Nat → Int} (h : hasSt B known P) : stRel B known P (nxP B known P) := by
  obtain ⟨Q, hQ⟩ := h
  rw [nxP_of hQ]; exact hQ
theorem it_V (H : CF B M) {P : Nat → Int} (hV : VP B P) : ∀ t, (∀ i, i < t → hasSt B known (itF B known P i)) → VP B (itF B known P t) := by
  intro t
  induction t with
  | zero => intro _; exact hV
  | succ t ih =>
    intro h
    exact (stRel_key H (ih (fun i hi => h i (by omega))) (h t (by omega)).nx).2
theorem it_key (H : CF B M) {P : Nat → Int} (hV : VP B P) (t : Nat) : ∀ d, (∀ i, i < t + (d + 1) → hasSt B known (itF B known P i)) → keyP B known (itF B known P (t + (d + 1))) < keyP B known (itF B known P t) := by
  intro d
  induction d with
  | zero =>
    intro h
    exact (stRel_key H (it_V H hV t (fun i hi => h i (by omega))) (h t (by omega)).nx).1
  | succ d ih =>
    intro h
    have a := ih (fun i hi => h i (by omega))
    have b := (stRel_key H (it_V H hV (t + (d + 1)) (fun i hi => h i (by omega))) (h (t + (d + 1)) (by omega)).nx).1
    have e : itF B known P (t + (d + 1 + 1)) = nxP B known (itF B known P (t + (d + 1))) := rfl
    rw [e]
    omega
theorem it_end (H : CF B M) {P : Nat → Int} (hV : VP B P) : ∃ T, T < 885736 ∧ ¬ hasSt B known (itF B known P T) ∧ ∀ t, t < T → hasSt B known (itF B known P t) := by
  have hex : ∃ i, i < 885736 ∧ ¬ hasSt B known (itF B known P i) := by
    apply Classical.byContradiction
    intro hc
    have all : ∀ i, i < 885736 → hasSt B known (itF B known P i) := fun i hi => Classical.byContradiction (fun hn => hc ⟨i, hi, hn⟩)
    have V : ∀ i, i < 885736 → VP B (itF B known P i) := fun i hi => it_V H hV i (fun j hj => all j (by omega))
    have p := pigeon (fun i => cdP B known (itF B known P i)) 885735 885736 (fun i hi => (cdP_spec H.1 (V i hi)).1) (fun i j hij hj e => by
      have k1 := cdP_key H.1 (V i (by omega)) (V j hj) e
      have k2 := it_key H hV i (j - i - 1) (fun m hm => all m (by omega))
      rw [show i + (j - i - 1 + 1) = j by omega] at k2
      omega)
    have q := fb_ct_le (fun y => pb (∃ i, i < 885736 ∧ cdP B known (itF B known P i) = y)) 885735
    omega
  obtain ⟨T, h1, h2, h3⟩ := @fb_first (fun i => ¬ hasSt B known (itF B known P i)) (fun _ => Classical.propDecidable _) 885736 hex
  exact ⟨T, h1, h2, fun t ht => Classical.not_not.mp (h3 t ht)⟩
end TERM
