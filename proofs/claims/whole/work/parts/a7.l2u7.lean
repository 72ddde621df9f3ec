/-! lie: the model -/
section LIM
variable {M : Mem} {c p : Nat}
def lm (A : Mem) (c p k : Nat) : Mem := fun x i => if x = 121 ∧ i < k then A 86 (3 * c + i) else if x = 86 ∧ i / 3 = c ∧ i % 3 < k ∧ i % 3 ≠ p then -1 else A x i
theorem lm_0 {A : Mem} : lm A c p 0 = A := by
  funext x i
  show (if _ then _ else if _ then _ else _) = _
  rw [if_neg (by omega), if_neg (by omega)]
theorem lm_w {A : Mem} {k : Nat} (hk : k < 3) : lm A c p k 86 (3 * c + k) = A 86 (3 * c + k) := by
  show (if _ then _ else if _ then _ else _) = _
  rw [if_neg (by omega), if_neg (by omega)]
theorem lm_121 {A : Mem} {k : Nat} (hk : k < 3) {B : Mem} (h : mup (lm A c p k) 121 k (A 86 (3 * c + k)) = B) : B 121 k = A 86 (3 * c + k) := by
  rw [← h]; exact mup_s _ _ _ _
theorem lm_p {A : Mem} {k : Nat} (hk : k < 3) (h : k = p) : mup (mup (lm A c p k) 121 k (A 86 (3 * c + k))) 86 (3 * c + k) (A 86 (3 * c + k)) = lm A c p (k + 1) := by
  funext x i
  show (if _ then _ else if _ then _ else if _ then _ else if _ then _ else _) = (if _ then _ else if _ then _ else _)
  by_cases z : x = 86 ∧ i = 3 * c + k
  · rw [if_pos z, if_neg (by omega), if_neg (by omega), z.1, z.2]
  · rw [if_neg z]
    by_cases y : x = 121 ∧ i = k
    · rw [if_pos y, if_pos (by omega), y.2]
    · rw [if_neg y]
      by_cases w : x = 121 ∧ i < k
      · rw [if_pos w, if_pos (by omega)]
      · rw [if_neg w, if_neg (show ¬ (x = 121 ∧ i < k + 1) by omega)]
        by_cases v : x = 86 ∧ i / 3 = c ∧ i % 3 < k ∧ i % 3 ≠ p
        · rw [if_pos v, if_pos (by omega)]
        · rw [if_neg v, if_neg (by omega)]
theorem lm_n {A : Mem} {k : Nat} (hk : k < 3) (h : k ≠ p) : mup (mup (lm A c p k) 121 k (A 86 (3 * c + k))) 86 (3 * c + k) (-1) = lm A c p (k + 1) := by
  funext x i
  show (if _ then _ else if _ then _ else if _ then _ else if _ then _ else _) = (if _ then _ else if _ then _ else _)
  by_cases z : x = 86 ∧ i = 3 * c + k
  · rw [if_pos z, if_neg (by omega), if_pos (by omega)]
  · rw [if_neg z]
    by_cases y : x = 121 ∧ i = k
    · rw [if_pos y, if_pos (by omega), y.2]
    · rw [if_neg y]
      by_cases w : x = 121 ∧ i < k
      · rw [if_pos w, if_pos (by omega)]
      · rw [if_neg w, if_neg (show ¬ (x = 121 ∧ i < k + 1) by omega)]
        by_cases v : x = 86 ∧ i / 3 = c ∧ i % 3 < k ∧ i % 3 ≠ p
        · rw [if_pos v, if_pos (by omega)]
        · rw [if_neg v, if_neg (by omega)]
theorem m_lieL {A : Mem} (hc : c < 14) (hp : p < 3) : f_X11_lie_l62 (c : Int) (p : Int) 1 0 A = some (3, lm A c p 3) := by
  unfold f_X11_lie_l62
  refine whl_n 3 (fun k => ((k : Int), lm A c p k)) (by omega) (by rw [lm_0]; rfl) (fun k hk => ok_to ?_) (ok_to ?_)
  · show Okk (f_X11_lie_s62 _ _ _ (k : Int) (lm A c p k)) _
    unfold f_X11_lie_s62
    rw [wrap_of (x := (k : Int) + 1) (by omega) (by omega), wrap_of (x := 3 * (c : Int)) (by omega) (by omega), wrap_of (x := 3 * (c : Int) + (k : Int)) (by omega) (by omega), show 3 * (c : Int) + (k : Int) = ((3 * c + k : Nat) : Int) by omega, toN, toN, lm_w hk]
    refine ok_ite_f (by omega) (ok_ite_f (by decide) (ok_gd (by omega) (ok_gd (by omega) (ok_lt ?_))))
    rw [mup_s]
    refine ok_ite (fun h => ?_) (fun h => ?_)
    · rw [lm_p hk (show k = p by omega)]
      exact ok_gd (by omega) (ok_gd (by omega) (ok_lt (ok_lt (ok_some rfl))))
    · rw [lm_n hk (show k ≠ p by omega)]
      exact ok_gd (by omega) (ok_lt (ok_lt (ok_some rfl)))
  · show Okk (f_X11_lie_s62 _ _ _ 3 (lm A c p 3)) _
    unfold f_X11_lie_s62
    exact ok_ite_t (by omega) (ok_some rfl)
/-- the wishes are put back -/
theorem m_lieR {B : Mem} (hc : c < 14) (v5 : Int) : Okk (f_X11_lie_l181 (c : Int) 1 v5 0 B) (fun s => (∀ x i, ¬ (x = 86 ∧ i / 3 = c) → s.2 x i = B x i) ∧ ∀ j, j < 3 → s.2 86 (3 * c + j) = B 121 j) := by
  unfold f_X11_lie_l181
  refine ok_whl 3 (fun k s => s.1 = (k : Int) ∧ (∀ x i, ¬ (x = 86 ∧ i / 3 = c) → s.2 x i = B x i) ∧ ∀ j, j < k → s.2 86 (3 * c + j) = B 121 j) (FU_big (by omega)) ⟨rfl, fun _ _ _ => rfl, fun j h => absurd h (by omega)⟩ ?_
  rintro k ⟨v, M1⟩ hk ⟨h1, hF, hT⟩
  dsimp only at h1 hF hT ⊢
  subst h1
  unfold f_X11_lie_s181
  refine ok_ite (fun h => ?_) (fun h => ok_ite_f (by decide) ?_)
  · have e : k = 3 := by omega
    subst e; exact ok_some ⟨hF, hT⟩
  have hk3 : k < 3 := by omega
  rw [wrap_of (x := (k : Int) + 1) (by omega) (by omega), wrap_of (x := 3 * (c : Int)) (by omega) (by omega), wrap_of (x := 3 * (c : Int) + (k : Int)) (by omega) (by omega), show 3 * (c : Int) + (k : Int) = ((3 * c + k : Nat) : Int) by omega, toN, toN]
  refine ok_gd (by omega) (ok_gd (by omega) (ok_lt (ok_lt (ok_some ⟨hk3, by show (k : Int) + 1 = ((k + 1 : Nat) : Int); omega, fun x i q => ?_, fun j hj => ?_⟩))))
  · show mup _ _ _ _ x i = _
    rw [mup_o _ _ (by omega)]; exact hF x i q
  · show mup _ _ _ _ 86 (3 * c + j) = _
    by_cases e : j = k
    · subst e; rw [mup_s]; exact hF 121 j (by omega)
    · rw [mup_o _ _ (by omega)]; exact hT j (by omega)
theorem m_copy237 {B : Mem} {n : Nat} (hn : B 80 1 = (n : Int)) (h14 : n ≤ 14) (v1 : Int) : Okk (f_X11_lie_l237 v1 0 B) (fun q => (∀ x i, ¬ (x = 108) → q.2 x i = B x i) ∧ ∀ c, c < n → q.2 108 c = B 109 c) := by
  unfold f_X11_lie_l237
  refine ok_whl n (fun k q => q.1 = (k : Int) ∧ (∀ x i, ¬ (x = 108) → q.2 x i = B x i) ∧ ∀ c, c < k → q.2 108 c = B 109 c) (FU_big (by omega)) ⟨rfl, fun _ _ _ => rfl, fun c h => absurd h (by omega)⟩ ?_
  rintro k ⟨v, M1⟩ hk ⟨h1, hF, hT⟩
  dsimp only at h1 hF hT ⊢
  subst h1
  unfold f_X11_lie_s237
  rw [hF 80 1 (by omega), hn, toN, wrap_n1 (k := k) (by omega)]
  refine ok_ite (fun h => ?_) (fun h => ?_)
  · have e : k = n := by omega
    subst e; exact ok_some ⟨hF, hT⟩
  have hkn : k < n := by omega
  refine ok_gd (by omega) (ok_gd (by omega) (ok_lt (ok_lt (ok_some ⟨hkn, rfl, fun x i q => ?_, fun c hc => ?_⟩))))
  · show mup _ _ _ _ x i = _
    rw [mup_o _ _ (by omega)]; exact hF x i q
  · show mup _ _ _ _ 108 c = _
    by_cases e : c = k
    · subst e; rw [mup_s]; exact hF 109 c (by omega)
    · rw [mup_o _ _ (by omega)]; exact hT c (by omega)
end LIM
