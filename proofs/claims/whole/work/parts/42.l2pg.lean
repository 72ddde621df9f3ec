/-! a PLAN and its classes -/
def GP (B : Mem) (P : Nat → Int) (k : Nat) (c : Nat) : Bool := decide (c < nK B) && decide (P c = (k : Int))
def PB (B : Mem) (P : Nat → Int) : Prop := ∀ c, c < nK B → -1 ≤ P c ∧ P c < (nC B : Int)
theorem GP_iff {B : Mem} {P : Nat → Int} {k c : Nat} : GP B P k c = true ↔ c < nK B ∧ P c = (k : Int) := by
  unfold GP; rw [Bool.and_eq_true, decide_eq_true_iff, decide_eq_true_iff]
theorem GP_far {B : Mem} {P : Nat → Int} {k c : Nat} (h : nK B ≤ c) : GP B P k c = false := by
  unfold GP; rw [decide_eq_false (by omega)]; rfl
theorem GP_lt {B : Mem} {P : Nat → Int} {k c : Nat} (h : c < nK B) : GP B P k c = decide (P c = (k : Int)) := by
  unfold GP; rw [decide_eq_true h, Bool.true_and]
theorem si_zero : ∀ n : Nat, fb_si (fun _ => 0) n = 0
  | 0 => rfl
  | n + 1 => by rw [fb_si_succ, si_zero n]; rfl
theorem si_swap (f : Nat → Nat → Int) (C : Nat) : ∀ S, fb_si (fun s => fb_si (fun k => f s k) C) S = fb_si (fun k => fb_si (fun s => f s k) S) C
  | 0 => (si_zero C).symm
  | S + 1 => by
    rw [fb_si_succ, si_swap f C S, ← fb_si_add]
    rfl
theorem si_one (x : Int) (g : Nat → Int) : ∀ C : Nat, fb_si (fun k => if x = (k : Int) then g k else 0) C = if 0 ≤ x ∧ x < (C : Int) then g x.toNat else 0
  | 0 => by rw [if_neg (by omega)]; rfl
  | C + 1 => by
    rw [fb_si_succ, si_one x g C]
    by_cases h : x = (C : Int)
    · rw [if_neg (by omega), if_pos h, if_pos (by omega), h, toN, Int.zero_add]
    · rw [if_neg h, Int.add_zero]
      by_cases h2 : 0 ≤ x ∧ x < (C : Int)
      · rw [if_pos h2, if_pos (by omega)]
      · rw [if_neg h2, if_neg (by omega)]
theorem si_part {P : Nat → Int} {C n : Nat} (hP : ∀ c, c < n → -1 ≤ P c ∧ P c < (C : Int)) (f : Nat → Nat → Int) :
    fb_si (fun c => if P c ≠ -1 then f c (P c).toNat else 0) n = fb_si (fun k => fb_si (fun c => if P c = (k : Int) then f c k else 0) n) C := by
  rw [← si_swap (fun c k => if P c = (k : Int) then f c k else 0) C n]
  refine fb_si_cong (fun c hc => ?_)
  rw [si_one (P c) (f c) C]
  have := hP c hc
  by_cases h : P c = -1
  · rw [if_neg (fun z => z h), if_neg (by omega)]
  · rw [if_pos h, if_pos (by omega)]
section PG
variable {B : Mem} {known : Int} {P : Nat → Int}
theorem hold_pg (row k : Nat) : holdN B known row P k = holdG B known row (GP B P k) :=
  cnt_congr (fun c hc => by rw [GP_lt hc, decide_eq_true_iff])
theorem in_pg (k : Nat) : inCl B P k = inG B (GP B P k) :=
  cnt_congr (fun c hc => by rw [GP_lt hc, decide_eq_true_iff])
theorem wish_pg (h : Fa B) {c p : Nat} (hc : c < nK B) (hp : p < 3) {k : Nat} (hk : P c = (k : Int)) : (B 86 (3 * c + p) ≠ -1 ∧ P (B 86 (3 * c + p)).toNat = P c) ↔ (B 86 (3 * c + p) ≠ -1 ∧ GP B P k (B 86 (3 * c + p)).toNat = true) := by
  have q := h.c3 (3 * c + p) (by have := h.n14; omega)
  have hn := h.n
  rw [GP_iff]
  constructor
  · rintro ⟨h1, h2⟩; exact ⟨h1, by omega, by omega⟩
  · rintro ⟨h1, h2, h3⟩; exact ⟨h1, by omega⟩
theorem served_pg (h : Fa B) {c : Nat} (hc : c < nK B) {k : Nat} (hk : P c = (k : Int)) : servedS B P c = servedG B (GP B P k) c := by
  have w := fun p hp => wish_pg (P := P) h hc (p := p) hp hk
  have i0 : (B 86 (3 * c) ≠ -1 ∧ P (B 86 (3 * c)).toNat = P c) ↔ (B 86 (3 * c) ≠ -1 ∧ GP B P k (B 86 (3 * c)).toNat = true) := w 0 (by omega)
  have i1 := w 1 (by omega)
  have i2 := w 2 (by omega)
  unfold servedS servedG
  by_cases h0 : (B 86 (3 * c) ≠ -1 ∧ P (B 86 (3 * c)).toNat = P c)
  · rw [if_pos h0, if_pos (i0.mp h0)]
  rw [if_neg h0, if_neg (fun z => h0 (i0.mpr z))]
  by_cases h1 : (B 86 (3 * c + 1) ≠ -1 ∧ P (B 86 (3 * c + 1)).toNat = P c)
  · rw [if_pos h1, if_pos (i1.mp h1)]
  rw [if_neg h1, if_neg (fun z => h1 (i1.mpr z))]
  by_cases h2 : (B 86 (3 * c + 2) ≠ -1 ∧ P (B 86 (3 * c + 2)).toNat = P c)
  · rw [if_pos h2, if_pos (i2.mp h2)]
  rw [if_neg h2, if_neg (fun z => h2 (i2.mpr z))]
theorem left_sv (h : Fa B) (G : Nat → Bool) {c : Nat} (hc : c < nK B) : (∀ o, o < 14 → wishB B c o = true → G o = false) ↔ servedG B G c = 3 := by
  have h14 := h.n14
  have hn := h.n
  constructor
  · intro hw
    refine servedG_no (fun j hj z => ?_)
    have q := h.c3 (3 * c + j) (by omega)
    have := hw (B 86 (3 * c + j)).toNat (by omega) ((anyB_iff _ 3).mpr ⟨j, hj, decide_eq_true (by omega)⟩)
    rw [this] at z; cases z.2
  · intro hs o ho hw
    obtain ⟨p, hp, hd⟩ := (anyB_iff _ 3).mp hw
    have e := of_decide_eq_true hd
    cases eG : G o with
    | false => rfl
    | true =>
      exfalso
      obtain ⟨m, hm, hpm, hjm⟩ := fb_first (p := fun p => B 86 (3 * c + p) ≠ -1 ∧ G (B 86 (3 * c + p)).toNat = true) (n := 3) ⟨p, hp, by omega, by rw [e, toN]; exact eG⟩
      have := servedG_of hm hpm hjm
      omega
theorem lack_pg : lackS B known P = lackGG B known (GP B P) := by
  unfold lackS lackGG lackG
  rw [← si_swap (fun s k => if B 97 s = 7 then pos0 (B 98 s - holdG B known (2 * s) (GP B P k)) else 0) (nC B) (nS B)]
  refine fb_si_cong (fun s hs => ?_)
  by_cases h7 : B 97 s = 7
  · rw [if_pos h7]
    refine fb_si_cong (fun k hk => ?_)
    rw [if_pos h7, hold_pg]
  · rw [if_neg h7]
    have e : (fun k => if B 97 s = 7 then pos0 (B 98 s - holdG B known (2 * s) (GP B P k)) else 0) = fun _ => (0 : Int) := funext (fun k => if_neg h7)
    rw [e, si_zero]
theorem mx_congr {f g : Nat → Int} : ∀ {n : Nat}, (∀ k, k < n → f k = g k) → maxS f n = maxS g n
  | 0, _ => rfl
  | n + 1, h => by
    unfold maxS
    rw [mx_congr (fun k hk => h k (by omega)), h n (by omega)]
theorem mn_congr {f g : Nat → Int} : ∀ {n : Nat}, (∀ k, k < n → f k = g k) → minS f n = minS g n
  | 0, _ => rfl
  | n + 1, h => by
    unfold minS
    rw [mn_congr (fun k hk => h k (by omega)), h n (by omega)]
theorem wt_pg {s : Nat} (hsp : isSp B s) (k : Nat) : wtS B known s P k = wtG B known s (GP B P k) := by
  unfold isSp at hsp
  unfold wtS
  by_cases h0 : B 97 s = 0
  · rw [if_pos h0, hold_pg, hold_wt h0]
  · rw [if_neg h0]
    unfold sumIn wtG
    refine fb_si_cong (fun c hc => ?_)
    unfold wOf
    rw [if_pos (show B 97 s = 1 by omega), GP_lt hc]
    by_cases e : P c = (k : Int)
    · rw [if_pos e, if_pos (decide_eq_true e)]
    · rw [if_neg e, if_neg (by rw [decide_eq_false e]; decide)]
theorem harmBy_pg (h : Fa B) (hP : PB B P) (s : Nat) : harmOfS B known P s = harmBG B known (GP B P) s := by
  unfold harmOfS harmBG
  by_cases hsp : isSp B s
  · rw [if_pos hsp, if_pos hsp, mx_congr (fun k _ => wt_pg hsp k), mn_congr (fun k _ => wt_pg hsp k)]
  rw [if_neg hsp, if_neg hsp]
  by_cases h2 : B 97 s = 2
  · rw [if_pos h2]
    have e1 : (fun k => addG B known (GP B P k) s) = fun k => B 98 s * leftG B (GP B P k) := funext (fun k => if_pos h2)
    rw [e1, fb_si_mul]
    congr 1
    refine Eq.trans (fb_si_cong (g := fun c => if P c ≠ -1 then (fun c k => if servedG B (GP B P k) c = 3 then 1 + B 85 c else 0) c (P c).toNat else 0) (fun c hc => ?_)) ((si_part hP (fun c k => if servedG B (GP B P k) c = 3 then 1 + B 85 c else 0)).trans ?_)
    rotate_left
    · refine fb_si_cong (fun k hk => fb_si_cong (fun c hc => ?_))
      by_cases e : P c = (k : Int)
      · have hG : GP B P k c = true := GP_iff.mpr ⟨hc, e⟩
        rw [if_pos e]
        by_cases h3 : servedG B (GP B P k) c = 3
        · exact (if_pos h3).trans (if_pos ⟨hG, (left_sv h _ hc).mpr h3⟩).symm
        · exact (if_neg h3).trans (if_neg (fun z => h3 ((left_sv h _ hc).mp z.2))).symm
      · rw [if_neg e, if_neg (fun z => e (GP_iff.mp z.1).2)]
    · by_cases e : P c = -1
      · rw [if_neg (fun z => z.1 e), if_neg (fun z => z e)]
      · rw [if_pos e, served_pg h hc (k := (P c).toNat) (by have := hP c hc; omega)]
        by_cases h3 : servedG B (GP B P (P c).toNat) c = 3
        · rw [if_pos ⟨e, h3⟩]; exact (if_pos h3).symm
        · rw [if_neg (fun z => h3 z.2)]; exact (if_neg h3).symm
  rw [if_neg h2]
  by_cases h3 : B 97 s = 3
  · rw [if_pos h3]
    have e1 : (fun k => addG B known (GP B P k) s) = fun k => B 98 s * (if holdG B known (2 * s) (GP B P k) = 1 then 1 else 0) := funext (fun k => by
      unfold addG
      rw [if_neg h2, if_pos h3]
      split
      · rw [Int.mul_one]
      · rw [Int.mul_zero])
    rw [e1, fb_si_mul]
    congr 1
    unfold cnt
    refine Eq.trans (fb_si_cong (g := fun c => if P c ≠ -1 then (fun c k => if holdB B known (2 * s) c = true ∧ holdG B known (2 * s) (GP B P k) = 1 then (1 : Int) else 0) c (P c).toNat else 0) (fun c hc => ?_)) ((si_part hP (fun c k => if holdB B known (2 * s) c = true ∧ holdG B known (2 * s) (GP B P k) = 1 then (1 : Int) else 0)).trans ?_)
    rotate_left
    · refine fb_si_cong (fun k hk => ?_)
      by_cases e : holdG B known (2 * s) (GP B P k) = 1
      · rw [if_pos e]
        refine Eq.trans ?_ e
        refine fb_si_cong (fun c hc => ?_)
        by_cases e2 : P c = (k : Int)
        · have hG : GP B P k c = true := GP_iff.mpr ⟨hc, e2⟩
          rw [if_pos e2]
          by_cases e3 : holdB B known (2 * s) c = true
          · exact (if_pos ⟨e3, e⟩).trans (if_pos ⟨hG, e3⟩).symm
          · exact (if_neg (fun z => e3 z.1)).trans (if_neg (fun z => e3 z.2)).symm
        · rw [if_neg e2, if_neg (fun z => e2 (GP_iff.mp z.1).2)]
      · rw [if_neg e]
        rw [show (fun c => if P c = (k : Int) then (fun c k => if holdB B known (2 * s) c = true ∧ holdG B known (2 * s) (GP B P k) = 1 then (1 : Int) else 0) c k else 0) = fun _ => (0 : Int) from funext (fun c => by
          split
          · exact if_neg (fun z => e z.2)
          · rfl), si_zero]
    · by_cases e : P c = -1
      · rw [if_neg (fun z => z.1 e), if_neg (fun z => z e)]
      · have hk : P c = ((P c).toNat : Int) := by have := hP c hc; omega
        have hh : holdN B known (2 * s) P (P c) = holdG B known (2 * s) (GP B P (P c).toNat) := by
          rw [← hold_pg, ← hk]
        rw [if_pos e]
        show (if P c ≠ -1 ∧ holdB B known (2 * s) c = true ∧ holdN B known (2 * s) P (P c) = 1 then (1 : Int) else 0) = if holdB B known (2 * s) c = true ∧ holdG B known (2 * s) (GP B P (P c).toNat) = 1 then 1 else 0
        rw [hh]
        by_cases q : holdB B known (2 * s) c = true ∧ holdG B known (2 * s) (GP B P (P c).toNat) = 1
        · rw [if_pos ⟨e, q⟩]; exact (if_pos q).symm
        · rw [if_neg (fun z => q z.2)]; exact (if_neg q).symm
  rw [if_neg h3]
  by_cases h4 : B 97 s = 4
  · rw [if_pos h4]
    have e1 : (fun k => addG B known (GP B P k) s) = fun k => B 98 s * regretG B (GP B P k) := funext (fun k => by
      unfold addG
      rw [if_neg h2, if_neg h3, if_pos h4])
    rw [e1, fb_si_mul]
    congr 1
    refine Eq.trans (fb_si_cong (g := fun a => if P a ≠ -1 then (fun a k => fb_si (fun b => if GP B P k b = true then B 87 (14 * a + b) else 0) a) a (P a).toNat else 0) (fun a ha => ?_)) ((si_part hP (fun a k => fb_si (fun b => if GP B P k b = true then B 87 (14 * a + b) else 0) a)).trans ?_)
    rotate_left
    · refine fb_si_cong (fun k hk => fb_si_cong (fun a ha => ?_))
      by_cases e : P a = (k : Int)
      · rw [if_pos e, if_pos (GP_iff.mpr ⟨ha, e⟩)]
      · rw [if_neg e, if_neg (fun z => e (GP_iff.mp z).2)]
    · by_cases e : P a = -1
      · rw [if_neg (fun z => z e), show (fun b => if P a ≠ -1 ∧ P a = P b then B 87 (14 * a + b) else 0) = fun _ => (0 : Int) from funext (fun b => if_neg (fun z => z.1 e)), si_zero]
      · rw [if_pos e]
        have hk : P a = ((P a).toNat : Int) := by have := hP a ha; omega
        refine fb_si_cong (fun b hb => ?_)
        by_cases q : P a = P b
        · rw [if_pos ⟨e, q⟩, if_pos (GP_iff.mpr ⟨by omega, by omega⟩)]
        · rw [if_neg (fun z => q z.2), if_neg (fun z => q (by have := (GP_iff.mp z).2; omega))]
  rw [if_neg h4]
  rw [show (fun k => addG B known (GP B P k) s) = fun _ => (0 : Int) from funext (fun k => by
    unfold addG
    rw [if_neg h2, if_neg h3, if_neg h4]), si_zero]
theorem harm_pg (h : Fa B) (hP : PB B P) : harmS B known P = harmGG B known (GP B P) :=
  fb_si_cong (fun s _ => harmBy_pg h hP s)
theorem sound_pg (h : Fa B) (hP : PB B P) : soundS B known P ↔ soundG B known (GP B P) := by
  have h14 := h.n14
  have hn := h.n
  have hall : ∀ c, c < nK B → (allG (nC B) (GP B P) c = true ↔ P c ≠ -1) := by
    intro c hc
    unfold allG
    rw [anyB_iff]
    have q := hP c hc
    constructor
    · rintro ⟨k, hk, e⟩
      have := (GP_iff.mp e).2
      omega
    · intro e
      exact ⟨(P c).toNat, by omega, GP_iff.mpr ⟨hc, by omega⟩⟩
  constructor
  · rintro ⟨s1, s2, s3⟩ k hk
    refine ⟨⟨by rw [← in_pg]; exact s1 k hk, fun c hc hG => ?_, fun a ha hGa b hb hGb => ?_, fun s hs => ⟨fun h5 a ha hGa hha b hb hGb hne => ?_, fun h6 => ?_⟩⟩, fun how a ha hGa b hb hAb htw => ?_⟩
    · have e := (GP_iff.mp hG).2
      have := (s2 c hc (by omega)).1
      rw [e, toN] at this
      omega
    · have ea := (GP_iff.mp hGa).2
      have eb := (GP_iff.mp hGb).2
      have d4 := h.d4 a b (by omega) (by omega)
      have d5 := h.d5 a b (by omega) (by omega)
      have key : ∀ x y, x < nK B → y < x → P x = (k : Int) → P y = (k : Int) → B 88 (14 * x + y) ≠ 1 ∧ (howS B (nS B) = 1 → B 89 (14 * x + y) ≠ 1) := by
        intro x y hx hy ex ey
        have := (s2 x hx (by omega)).2 y hy (by omega)
        exact ⟨fun z => this.1 ⟨by omega, z⟩, fun h1 z => this.2 ⟨z, Or.inl ⟨h1, by omega⟩⟩⟩
      by_cases e : a = b
      · have z1 := d4.2.2 (Or.inl e)
        have z2 := d5.2.2 (Or.inl e)
        exact ⟨by omega, fun _ => by omega⟩
      · by_cases hlt : b < a
        · exact key a b ha hlt ea eb
        · have := key b a hb (by omega) eb ea
          rw [d4.2.1, d5.2.1]
          exact this
    · exact (s3 s hs).2 h5 a ha (by have := (GP_iff.mp hGa).2; omega) hha b hb hne (by have := (GP_iff.mp hGa).2; have := (GP_iff.mp hGb).2; omega)
    · rw [← hold_pg]; exact (s3 s hs).1 h6 k hk
    · have ea := (GP_iff.mp hGa).2
      have eb := (hall b hb).mp hAb
      have d5 := h.d5 a b (by omega) (by omega)
      refine GP_iff.mpr ⟨hb, ?_⟩
      apply Classical.byContradiction
      intro hc
      by_cases e : a = b
      · subst e; exact hc ea
      · by_cases hlt : b < a
        · exact ((s2 a ha (by omega)).2 b hlt eb).2 ⟨htw, Or.inr ⟨how, by omega⟩⟩
        · exact ((s2 b hb eb).2 a (by omega) (by omega)).2 ⟨by rw [← d5.2.1]; exact htw, Or.inr ⟨how, by omega⟩⟩
  · intro hG
    refine ⟨fun k hk => by rw [in_pg]; exact (hG k hk).1.1, fun a ha hPa => ?_, fun s hs => ⟨fun h6 k hk => by rw [hold_pg]; exact ((hG k hk).1.2.2.2 s hs).2 h6, fun h5 a ha hPa hha b hb hne hPb => ?_⟩⟩
    · have q := hP a ha
      have hk : (P a).toNat < nC B := by omega
      have hGa : GP B P (P a).toNat a = true := GP_iff.mpr ⟨ha, by omega⟩
      obtain ⟨⟨g1, g2, g3, g4⟩, g5⟩ := hG _ hk
      have z := h.d6 a (P a).toNat (by omega) (by have := h.k23; omega)
      refine ⟨by have := g2 a ha hGa; have := z.1; unfold isZ at this; omega, fun b hb hPb => ⟨?_, ?_⟩⟩
      · rintro ⟨e, hbar⟩
        exact (g3 a ha hGa b (by omega) (GP_iff.mpr ⟨by omega, by omega⟩)).1 hbar
      · rintro ⟨htw, ⟨h1, e⟩ | ⟨h2, e⟩⟩
        · exact (g3 a ha hGa b (by omega) (GP_iff.mpr ⟨by omega, by omega⟩)).2 h1 htw
        · have := g5 h2 a ha hGa b (by omega) ((hall b (by omega)).mpr hPb) htw
          have := (GP_iff.mp this).2
          omega
    · have q := hP a ha
      have hk : (P a).toNat < nC B := by omega
      exact ((hG _ hk).1.2.2.2 s hs).1 h5 a ha (GP_iff.mpr ⟨ha, by omega⟩) hha b hb (GP_iff.mpr ⟨hb, by omega⟩) hne
end PG
