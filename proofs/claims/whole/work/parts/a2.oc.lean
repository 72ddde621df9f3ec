/-! what bestPlan of the class does, it does whatever the model's cells hold (gen_oc.py) -/
def uo (L M : Mem) : Mem := fun c i => if c < 80 then M c i else L c i
theorem uo_lo {L M : Mem} {c i : Nat} (h : c < 80) : uo L M c i = M c i := if_pos h
theorem uo_hi {L M : Mem} {c i : Nat} (h : 80 ≤ c) : uo L M c i = L c i := if_neg (by omega)
theorem uo_ru {L M : Mem} {x : Int} {k i : Nat} (h : isRu x) (hk : k < 9) : uo L M (x.toNat + k) i = M (x.toNat + k) i := uo_lo (by rcases h with rfl | rfl <;> simp <;> omega)
theorem uo_ru0 {L M : Mem} {x : Int} {i : Nat} (h : isRu x) : uo L M x.toNat i = M x.toNat i := uo_lo (by rcases h with rfl | rfl <;> decide)
theorem uo_mup {L M : Mem} {c i : Nat} {v : Int} (h : c < 80) : mup (uo L M) c i v = uo L (mup M c i v) := by
  funext c' i'
  show (if c' = c ∧ i' = i then v else if c' < 80 then M c' i' else L c' i') = if c' < 80 then (if c' = c ∧ i' = i then v else M c' i') else L c' i'
  by_cases z : c' = c ∧ i' = i
  · rw [if_pos z, if_pos (by omega), if_pos z]
  · rw [if_neg z, if_neg z]
theorem uo_mcp {L M : Mem} {a b : Nat} {sp dp n : Int} (ha : a < 80) (hb : b < 80) : mcp (uo L M) a sp b dp n = uo L (mcp M a sp b dp n) := by
  funext c' i'
  show (if c' = b ∧ dp.toNat ≤ i' ∧ i' < dp.toNat + n.toNat then (if a < 80 then M a (sp.toNat + (i' - dp.toNat)) else L a (sp.toNat + (i' - dp.toNat))) else if c' < 80 then M c' i' else L c' i') = if c' < 80 then (if c' = b ∧ dp.toNat ≤ i' ∧ i' < dp.toNat + n.toNat then M a (sp.toNat + (i' - dp.toNat)) else M c' i') else L c' i'
  rw [if_pos ha]
  by_cases z : c' = b ∧ dp.toNat ≤ i' ∧ i' < dp.toNat + n.toNat
  · rw [if_pos z, if_pos (by omega), if_pos z]
  · rw [if_neg z, if_neg z]
section OCR
variable {α β : Type} {L : Mem}
theorem c_some {F : α → β} {a : α} {b : β} (h : b = F a) : some b = Option.map F (some a) := by rw [h]; rfl
theorem c_gd {F : α → β} {p : Prop} {i1 i2 : Decidable p} {x : Option β} {y : Option α} (h : p → x = Option.map F y) : @gd β p i1 x = Option.map F (@gd α p i2 y) := by
  by_cases z : p
  · rw [show @gd β p i1 x = x from if_pos z, show @gd α p i2 y = y from if_pos z]; exact h z
  · rw [show @gd β p i1 x = none from if_neg z, show @gd α p i2 y = none from if_neg z]; rfl
theorem c_ite {F : α → β} {p : Prop} {i1 i2 : Decidable p} {x x2 : Option β} {y y2 : Option α} (h : p → x = Option.map F y) (h2 : ¬ p → x2 = Option.map F y2) : @ite _ p i1 x x2 = Option.map F (@ite _ p i2 y y2) := by
  by_cases z : p
  · rw [if_pos z, if_pos z]; exact h z
  · rw [if_neg z, if_neg z]; exact h2 z
theorem c_ltm {F : α → β} {v : Mem} {f : Mem → Option α} {f' : Mem → Option β} (h : ∀ N, f' (uo L N) = Option.map F (f N)) : lt (uo L v) f' = Option.map F (lt v f) := h v
theorem c_lt {γ : Type} {F : α → β} {v : γ} {f : γ → Option α} {f' : γ → Option β} (h : ∀ N, f' N = Option.map F (f N)) : lt v f' = Option.map F (lt v f) := h v
theorem c_obn {γ : Type} {F : α → β} {x : Option γ} {f : γ → Option α} {f' : γ → Option β} (h : ∀ a, f' a = Option.map F (f a)) : obn x f' = Option.map F (obn x f) := by
  cases x with
  | none => rfl
  | some a => exact h a
theorem c_obm {γ δ : Type} {F : α → β} {G : γ → δ} {x : Option γ} {f : γ → Option α} {f' : δ → Option β} (h : ∀ a, f' (G a) = Option.map F (f a)) : obn (Option.map G x) f' = Option.map F (obn x f) := by
  cases x with
  | none => rfl
  | some a => exact h a
theorem c_bnd {F : α → β} {x : Option Res} {f : Int → Mem → Option α} {f' : Int → Mem → Option β} (h : ∀ r N, f' r (uo L N) = Option.map F (f r N)) : bnd (Option.map (fun q => (q.1, uo L q.2)) x) f' = Option.map F (bnd x f) := by
  cases x with
  | none => rfl
  | some a => exact h a.1 a.2
theorem c_lpr {S T : Type} {F : α → β} {x : Option (S ⊕ T)} {f : S → Option α} {f' : S → Option β} {g : T → Option α} {g' : T → Option β} (h : ∀ a, f' a = Option.map F (f a)) (h2 : ∀ a, g' a = Option.map F (g a)) : lpr x f' g' = Option.map F (lpr x f g) := by
  match x with
  | none => rfl
  | some (.inl a) => exact h a
  | some (.inr a) => exact h2 a
theorem c_lpm {S T S' T' : Type} {F : α → β} {G : S → S'} {K : T → T'} {x : Option (S ⊕ T)} {f : S → Option α} {f' : S' → Option β} {g : T → Option α} {g' : T' → Option β} (h : ∀ a, f' (G a) = Option.map F (f a)) (h2 : ∀ a, g' (K a) = Option.map F (g a)) : lpr (Option.map (Sum.map G K) x) f' g' = Option.map F (lpr x f g) := by
  match x with
  | none => rfl
  | some (.inl a) => exact h a
  | some (.inr a) => exact h2 a
theorem c_whl {S R : Type} {G : S → S} {F : R → R} {step step' : S → Option (S ⊕ R)} (h : ∀ s, step' (G s) = Option.map (Sum.map G F) (step s)) : ∀ (N : Nat) (s : S), whl step' N (G s) = Option.map F (whl step N s)
  | 0, _ => rfl
  | N + 1, s => by
    unfold whl
    rw [h s]
    match step s with
    | none => rfl
    | some (.inl a) => exact c_whl h N a
    | some (.inr a) => rfl
theorem e_some {a b : α} (h : a = b) : some a = some b := by rw [h]
theorem e_gd {p : Prop} {i1 i2 : Decidable p} {x y : Option α} (h : p → x = y) : @gd α p i1 x = @gd α p i2 y := by
  by_cases z : p
  · rw [show @gd α p i1 x = x from if_pos z, show @gd α p i2 y = y from if_pos z]; exact h z
  · rw [show @gd α p i1 x = none from if_neg z, show @gd α p i2 y = none from if_neg z]
theorem e_ite {p : Prop} {i1 i2 : Decidable p} {x x2 y y2 : Option α} (h : p → x = y) (h2 : ¬ p → x2 = y2) : @ite _ p i1 x x2 = @ite _ p i2 y y2 := by
  by_cases z : p
  · rw [if_pos z, if_pos z]; exact h z
  · rw [if_neg z, if_neg z]; exact h2 z
theorem e_lt {γ : Type} {v : γ} {f f' : γ → Option α} (h : ∀ N, f' N = f N) : lt v f' = lt v f := h v
theorem e_ltm {v : Mem} {f f' : Mem → Option α} (h : ∀ N, f' (uo L N) = f N) : lt (uo L v) f' = lt v f := h v
theorem e_obn {γ : Type} {x : Option γ} {f f' : γ → Option α} (h : ∀ a, f' a = f a) : obn x f' = obn x f := by
  cases x with
  | none => rfl
  | some a => exact h a
theorem e_obm {γ δ : Type} {G : γ → δ} {x : Option γ} {f : γ → Option α} {f' : δ → Option α} (h : ∀ a, f' (G a) = f a) : obn (Option.map G x) f' = obn x f := by
  cases x with
  | none => rfl
  | some a => exact h a
theorem e_bnd {x : Option Res} {f f' : Int → Mem → Option α} (h : ∀ r N, f' r (uo L N) = f r N) : bnd (Option.map (fun q => (q.1, uo L q.2)) x) f' = bnd x f := by
  cases x with
  | none => rfl
  | some a => exact h a.1 a.2
theorem e_lpr {S T : Type} {x : Option (S ⊕ T)} {f f' : S → Option α} {g g' : T → Option α} (h : ∀ a, f' a = f a) (h2 : ∀ a, g' a = g a) : lpr x f' g' = lpr x f g := by
  match x with
  | none => rfl
  | some (.inl a) => exact h a
  | some (.inr a) => exact h2 a
theorem e_lpm {S T S' T' : Type} {G : S → S'} {K : T → T'} {x : Option (S ⊕ T)} {f : S → Option α} {f' : S' → Option α} {g : T → Option α} {g' : T' → Option α} (h : ∀ a, f' (G a) = f a) (h2 : ∀ a, g' (K a) = g a) : lpr (Option.map (Sum.map G K) x) f' g' = lpr x f g := by
  match x with
  | none => rfl
  | some (.inl a) => exact h a
  | some (.inr a) => exact h2 a
theorem e_whl {S R : Type} {step step' : S → Option (S ⊕ R)} (h : ∀ s, step' s = step s) : ∀ (N : Nat) (s : S), whl step' N s = whl step N s := by
  intro N s
  rw [show step' = step from funext h]
end OCR

section OC
variable {L : Mem}
theorem oc_J7_fill_53178_s5 (p0 : Nat) (v1 : Int) (v3 : Int) (v2 : Int) (M : Mem) (hp0 : p0 < 80) : f_J7_fill_53178_s5 p0 v1 v3 v2 (uo L M) = Option.map (Sum.map (fun q => (q.1, uo L q.2)) (fun q => (q.1, uo L q.2))) (f_J7_fill_53178_s5 p0 v1 v3 v2 M) := by
  unfold f_J7_fill_53178_s5
  (repeat' (first | with_reducible rfl | (with_reducible refine c_gd (fun _ => ?_)) | (with_reducible refine c_ite (fun _ => ?_) (fun _ => ?_)) | (with_reducible refine c_ltm (fun _ => ?_)) | (with_reducible refine c_lt (fun _ => ?_)) | (with_reducible refine c_obm (fun _ => ?_)) | (with_reducible refine c_obn (fun _ => ?_)) | (with_reducible refine c_bnd (fun _ _ => ?_)) | (with_reducible refine c_lpm (fun _ => ?_) (fun _ => ?_)) | (with_reducible refine c_lpr (fun _ => ?_) (fun _ => ?_)) | ((with_reducible refine c_some ?_); first | rfl | (simp (disch := first | assumption | decide) only [uo_lo, uo_ru, uo_ru0, Sum.map, id]; done) | rfl) | (simp (disch := first | assumption | decide) only [uo_lo, uo_ru, uo_ru0, uo_mup, uo_mcp]) | (dsimp only)))
theorem oc_J7_fill_53178_l5 (p0 : Nat) (v1 : Int) (v3 : Int) (v2 : Int) (M : Mem) (hp0 : p0 < 80) : f_J7_fill_53178_l5 p0 v1 v3 v2 (uo L M) = Option.map (fun q => (q.1, uo L q.2)) (f_J7_fill_53178_l5 p0 v1 v3 v2 M) := by
  unfold f_J7_fill_53178_l5
  exact c_whl (G := (fun q => (q.1, uo L q.2))) (F := (fun q => (q.1, uo L q.2))) (fun s => by simp (disch := first | assumption | decide) only [oc_J7_fill_53178_s5]) FU (v2, M)
theorem oc_J7_fill_53178_j20 (p0 : Nat) (M : Mem) (hp0 : p0 < 80) : f_J7_fill_53178_j20 p0 (uo L M) = Option.map (uo L) (f_J7_fill_53178_j20 p0 M) := by
  unfold f_J7_fill_53178_j20
  (repeat' (first | with_reducible rfl | (with_reducible refine c_gd (fun _ => ?_)) | (with_reducible refine c_ite (fun _ => ?_) (fun _ => ?_)) | (with_reducible refine c_ltm (fun _ => ?_)) | (with_reducible refine c_lt (fun _ => ?_)) | (with_reducible refine c_obm (fun _ => ?_)) | (with_reducible refine c_obn (fun _ => ?_)) | (with_reducible refine c_bnd (fun _ _ => ?_)) | (with_reducible refine c_lpm (fun _ => ?_) (fun _ => ?_)) | (with_reducible refine c_lpr (fun _ => ?_) (fun _ => ?_)) | ((with_reducible refine c_some ?_); first | rfl | (simp (disch := first | assumption | decide) only [uo_lo, uo_ru, uo_ru0, Sum.map, id]; done) | rfl) | (simp (disch := first | assumption | decide) only [uo_lo, uo_ru, uo_ru0, uo_mup, uo_mcp]) | (dsimp only)))
theorem oc_J7_fill_53178 (p0 : Nat) (p1 : Int) (M : Mem) (hp0 : p0 < 80) : f_J7_fill_53178 p0 p1 (uo L M) = Option.map (uo L) (f_J7_fill_53178 p0 p1 M) := by
  unfold f_J7_fill_53178
  (repeat' (first | with_reducible rfl | (with_reducible refine c_gd (fun _ => ?_)) | (with_reducible refine c_ite (fun _ => ?_) (fun _ => ?_)) | (with_reducible refine c_ltm (fun _ => ?_)) | (with_reducible refine c_lt (fun _ => ?_)) | (with_reducible refine c_obm (fun _ => ?_)) | (with_reducible refine c_obn (fun _ => ?_)) | (with_reducible refine c_bnd (fun _ _ => ?_)) | (with_reducible refine c_lpm (fun _ => ?_) (fun _ => ?_)) | (with_reducible refine c_lpr (fun _ => ?_) (fun _ => ?_)) | ((with_reducible refine c_some ?_); first | rfl | (simp (disch := first | assumption | decide) only [uo_lo, uo_ru, uo_ru0, Sum.map, id]; done) | rfl) | (simp (disch := first | assumption | decide) only [uo_lo, uo_ru, uo_ru0, uo_mup, uo_mcp, oc_J7_fill_53178_l5, oc_J7_fill_53178_j20]) | (dsimp only)))
theorem oc_X1_cameBy_s4 (v1 : Int) (M : Mem) (v2 : Int) (v3 : Int) : f_X1_cameBy_s4 v1 (uo L M) v2 v3 = f_X1_cameBy_s4 v1 M v2 v3 := by
  unfold f_X1_cameBy_s4
  (repeat' (first | with_reducible rfl | (with_reducible refine e_gd (fun _ => ?_)) | (with_reducible refine e_ite (fun _ => ?_) (fun _ => ?_)) | (with_reducible refine e_ltm (fun _ => ?_)) | (with_reducible refine e_lt (fun _ => ?_)) | (with_reducible refine e_obm (fun _ => ?_)) | (with_reducible refine e_obn (fun _ => ?_)) | (with_reducible refine e_bnd (fun _ _ => ?_)) | (with_reducible refine e_lpm (fun _ => ?_) (fun _ => ?_)) | (with_reducible refine e_lpr (fun _ => ?_) (fun _ => ?_)) | ((with_reducible refine e_some ?_); first | rfl | (simp (disch := first | assumption | decide) only [uo_lo, uo_ru, uo_ru0, Sum.map, id]; done) | rfl) | (simp (disch := first | assumption | decide) only [uo_lo, uo_ru, uo_ru0, uo_mup, uo_mcp]) | (dsimp only)))
theorem oc_X1_cameBy_l4 (v1 : Int) (M : Mem) (v2 : Int) (v3 : Int) : f_X1_cameBy_l4 v1 (uo L M) v2 v3 = f_X1_cameBy_l4 v1 M v2 v3 := by
  unfold f_X1_cameBy_l4
  exact e_whl (fun s => by simp (disch := first | assumption | decide) only [oc_X1_cameBy_s4]) FU _
theorem oc_X1_cameBy_j31 (v2 : Int) (M : Mem) : f_X1_cameBy_j31 v2 (uo L M) = f_X1_cameBy_j31 v2 M := by
  unfold f_X1_cameBy_j31
  (repeat' (first | with_reducible rfl | (with_reducible refine e_gd (fun _ => ?_)) | (with_reducible refine e_ite (fun _ => ?_) (fun _ => ?_)) | (with_reducible refine e_ltm (fun _ => ?_)) | (with_reducible refine e_lt (fun _ => ?_)) | (with_reducible refine e_obm (fun _ => ?_)) | (with_reducible refine e_obn (fun _ => ?_)) | (with_reducible refine e_bnd (fun _ _ => ?_)) | (with_reducible refine e_lpm (fun _ => ?_) (fun _ => ?_)) | (with_reducible refine e_lpr (fun _ => ?_) (fun _ => ?_)) | ((with_reducible refine e_some ?_); first | rfl | (simp (disch := first | assumption | decide) only [uo_lo, uo_ru, uo_ru0, Sum.map, id]; done) | rfl) | (simp (disch := first | assumption | decide) only [uo_lo, uo_ru, uo_ru0, uo_mup, uo_mcp]) | (dsimp only)))
theorem oc_X1_cameBy (p1 : Int) (M : Mem) : f_X1_cameBy p1 (uo L M) = f_X1_cameBy p1 M := by
  unfold f_X1_cameBy
  (repeat' (first | with_reducible rfl | (with_reducible refine e_gd (fun _ => ?_)) | (with_reducible refine e_ite (fun _ => ?_) (fun _ => ?_)) | (with_reducible refine e_ltm (fun _ => ?_)) | (with_reducible refine e_lt (fun _ => ?_)) | (with_reducible refine e_obm (fun _ => ?_)) | (with_reducible refine e_obn (fun _ => ?_)) | (with_reducible refine e_bnd (fun _ _ => ?_)) | (with_reducible refine e_lpm (fun _ => ?_) (fun _ => ?_)) | (with_reducible refine e_lpr (fun _ => ?_) (fun _ => ?_)) | ((with_reducible refine e_some ?_); first | rfl | (simp (disch := first | assumption | decide) only [uo_lo, uo_ru, uo_ru0, Sum.map, id]; done) | rfl) | (simp (disch := first | assumption | decide) only [uo_lo, uo_ru, uo_ru0, uo_mup, uo_mcp, oc_X1_cameBy_l4, oc_X1_cameBy_j31]) | (dsimp only)))
theorem oc_X1_toldWishes_s4 (v1 : Int) (M : Mem) (v2 : Int) (v3 : Int) : f_X1_toldWishes_s4 v1 (uo L M) v2 v3 = f_X1_toldWishes_s4 v1 M v2 v3 := by
  unfold f_X1_toldWishes_s4
  (repeat' (first | with_reducible rfl | (with_reducible refine e_gd (fun _ => ?_)) | (with_reducible refine e_ite (fun _ => ?_) (fun _ => ?_)) | (with_reducible refine e_ltm (fun _ => ?_)) | (with_reducible refine e_lt (fun _ => ?_)) | (with_reducible refine e_obm (fun _ => ?_)) | (with_reducible refine e_obn (fun _ => ?_)) | (with_reducible refine e_bnd (fun _ _ => ?_)) | (with_reducible refine e_lpm (fun _ => ?_) (fun _ => ?_)) | (with_reducible refine e_lpr (fun _ => ?_) (fun _ => ?_)) | ((with_reducible refine e_some ?_); first | rfl | (simp (disch := first | assumption | decide) only [uo_lo, uo_ru, uo_ru0, Sum.map, id]; done) | rfl) | (simp (disch := first | assumption | decide) only [uo_lo, uo_ru, uo_ru0, uo_mup, uo_mcp]) | (dsimp only)))
theorem oc_X1_toldWishes_l4 (v1 : Int) (M : Mem) (v2 : Int) (v3 : Int) : f_X1_toldWishes_l4 v1 (uo L M) v2 v3 = f_X1_toldWishes_l4 v1 M v2 v3 := by
  unfold f_X1_toldWishes_l4
  exact e_whl (fun s => by simp (disch := first | assumption | decide) only [oc_X1_toldWishes_s4]) FU _
theorem oc_X1_toldWishes_j32 (v2 : Int) (M : Mem) : f_X1_toldWishes_j32 v2 (uo L M) = f_X1_toldWishes_j32 v2 M := by
  unfold f_X1_toldWishes_j32
  (repeat' (first | with_reducible rfl | (with_reducible refine e_gd (fun _ => ?_)) | (with_reducible refine e_ite (fun _ => ?_) (fun _ => ?_)) | (with_reducible refine e_ltm (fun _ => ?_)) | (with_reducible refine e_lt (fun _ => ?_)) | (with_reducible refine e_obm (fun _ => ?_)) | (with_reducible refine e_obn (fun _ => ?_)) | (with_reducible refine e_bnd (fun _ _ => ?_)) | (with_reducible refine e_lpm (fun _ => ?_) (fun _ => ?_)) | (with_reducible refine e_lpr (fun _ => ?_) (fun _ => ?_)) | ((with_reducible refine e_some ?_); first | rfl | (simp (disch := first | assumption | decide) only [uo_lo, uo_ru, uo_ru0, Sum.map, id]; done) | rfl) | (simp (disch := first | assumption | decide) only [uo_lo, uo_ru, uo_ru0, uo_mup, uo_mcp]) | (dsimp only)))
theorem oc_X1_toldWishes (p1 : Int) (M : Mem) : f_X1_toldWishes p1 (uo L M) = f_X1_toldWishes p1 M := by
  unfold f_X1_toldWishes
  (repeat' (first | with_reducible rfl | (with_reducible refine e_gd (fun _ => ?_)) | (with_reducible refine e_ite (fun _ => ?_) (fun _ => ?_)) | (with_reducible refine e_ltm (fun _ => ?_)) | (with_reducible refine e_lt (fun _ => ?_)) | (with_reducible refine e_obm (fun _ => ?_)) | (with_reducible refine e_obn (fun _ => ?_)) | (with_reducible refine e_bnd (fun _ _ => ?_)) | (with_reducible refine e_lpm (fun _ => ?_) (fun _ => ?_)) | (with_reducible refine e_lpr (fun _ => ?_) (fun _ => ?_)) | ((with_reducible refine e_some ?_); first | rfl | (simp (disch := first | assumption | decide) only [uo_lo, uo_ru, uo_ru0, Sum.map, id]; done) | rfl) | (simp (disch := first | assumption | decide) only [uo_lo, uo_ru, uo_ru0, uo_mup, uo_mcp, oc_X1_toldWishes_l4, oc_X1_toldWishes_j32]) | (dsimp only)))
theorem oc_X1_naming_s4 (v1 : Int) (M : Mem) (v2 : Int) (v3 : Int) : f_X1_naming_s4 v1 (uo L M) v2 v3 = f_X1_naming_s4 v1 M v2 v3 := by
  unfold f_X1_naming_s4
  (repeat' (first | with_reducible rfl | (with_reducible refine e_gd (fun _ => ?_)) | (with_reducible refine e_ite (fun _ => ?_) (fun _ => ?_)) | (with_reducible refine e_ltm (fun _ => ?_)) | (with_reducible refine e_lt (fun _ => ?_)) | (with_reducible refine e_obm (fun _ => ?_)) | (with_reducible refine e_obn (fun _ => ?_)) | (with_reducible refine e_bnd (fun _ _ => ?_)) | (with_reducible refine e_lpm (fun _ => ?_) (fun _ => ?_)) | (with_reducible refine e_lpr (fun _ => ?_) (fun _ => ?_)) | ((with_reducible refine e_some ?_); first | rfl | (simp (disch := first | assumption | decide) only [uo_lo, uo_ru, uo_ru0, Sum.map, id]; done) | rfl) | (simp (disch := first | assumption | decide) only [uo_lo, uo_ru, uo_ru0, uo_mup, uo_mcp]) | (dsimp only)))
theorem oc_X1_naming_l4 (v1 : Int) (M : Mem) (v2 : Int) (v3 : Int) : f_X1_naming_l4 v1 (uo L M) v2 v3 = f_X1_naming_l4 v1 M v2 v3 := by
  unfold f_X1_naming_l4
  exact e_whl (fun s => by simp (disch := first | assumption | decide) only [oc_X1_naming_s4]) FU _
theorem oc_X1_naming_j33 (v2 : Int) (M : Mem) : f_X1_naming_j33 v2 (uo L M) = f_X1_naming_j33 v2 M := by
  unfold f_X1_naming_j33
  (repeat' (first | with_reducible rfl | (with_reducible refine e_gd (fun _ => ?_)) | (with_reducible refine e_ite (fun _ => ?_) (fun _ => ?_)) | (with_reducible refine e_ltm (fun _ => ?_)) | (with_reducible refine e_lt (fun _ => ?_)) | (with_reducible refine e_obm (fun _ => ?_)) | (with_reducible refine e_obn (fun _ => ?_)) | (with_reducible refine e_bnd (fun _ _ => ?_)) | (with_reducible refine e_lpm (fun _ => ?_) (fun _ => ?_)) | (with_reducible refine e_lpr (fun _ => ?_) (fun _ => ?_)) | ((with_reducible refine e_some ?_); first | rfl | (simp (disch := first | assumption | decide) only [uo_lo, uo_ru, uo_ru0, Sum.map, id]; done) | rfl) | (simp (disch := first | assumption | decide) only [uo_lo, uo_ru, uo_ru0, uo_mup, uo_mcp]) | (dsimp only)))
theorem oc_X1_naming (p1 : Int) (M : Mem) : f_X1_naming p1 (uo L M) = f_X1_naming p1 M := by
  unfold f_X1_naming
  (repeat' (first | with_reducible rfl | (with_reducible refine e_gd (fun _ => ?_)) | (with_reducible refine e_ite (fun _ => ?_) (fun _ => ?_)) | (with_reducible refine e_ltm (fun _ => ?_)) | (with_reducible refine e_lt (fun _ => ?_)) | (with_reducible refine e_obm (fun _ => ?_)) | (with_reducible refine e_obn (fun _ => ?_)) | (with_reducible refine e_bnd (fun _ _ => ?_)) | (with_reducible refine e_lpm (fun _ => ?_) (fun _ => ?_)) | (with_reducible refine e_lpr (fun _ => ?_) (fun _ => ?_)) | ((with_reducible refine e_some ?_); first | rfl | (simp (disch := first | assumption | decide) only [uo_lo, uo_ru, uo_ru0, Sum.map, id]; done) | rfl) | (simp (disch := first | assumption | decide) only [uo_lo, uo_ru, uo_ru0, uo_mup, uo_mcp, oc_X1_naming_l4, oc_X1_naming_j33]) | (dsimp only)))
theorem oc_X1_wishedOnes_s4 (v1 : Int) (M : Mem) (v2 : Int) (v3 : Int) : f_X1_wishedOnes_s4 v1 (uo L M) v2 v3 = f_X1_wishedOnes_s4 v1 M v2 v3 := by
  unfold f_X1_wishedOnes_s4
  (repeat' (first | with_reducible rfl | (with_reducible refine e_gd (fun _ => ?_)) | (with_reducible refine e_ite (fun _ => ?_) (fun _ => ?_)) | (with_reducible refine e_ltm (fun _ => ?_)) | (with_reducible refine e_lt (fun _ => ?_)) | (with_reducible refine e_obm (fun _ => ?_)) | (with_reducible refine e_obn (fun _ => ?_)) | (with_reducible refine e_bnd (fun _ _ => ?_)) | (with_reducible refine e_lpm (fun _ => ?_) (fun _ => ?_)) | (with_reducible refine e_lpr (fun _ => ?_) (fun _ => ?_)) | ((with_reducible refine e_some ?_); first | rfl | (simp (disch := first | assumption | decide) only [uo_lo, uo_ru, uo_ru0, Sum.map, id]; done) | rfl) | (simp (disch := first | assumption | decide) only [uo_lo, uo_ru, uo_ru0, uo_mup, uo_mcp]) | (dsimp only)))
theorem oc_X1_wishedOnes_l4 (v1 : Int) (M : Mem) (v2 : Int) (v3 : Int) : f_X1_wishedOnes_l4 v1 (uo L M) v2 v3 = f_X1_wishedOnes_l4 v1 M v2 v3 := by
  unfold f_X1_wishedOnes_l4
  exact e_whl (fun s => by simp (disch := first | assumption | decide) only [oc_X1_wishedOnes_s4]) FU _
theorem oc_X1_wishedOnes_j40 (v2 : Int) (M : Mem) : f_X1_wishedOnes_j40 v2 (uo L M) = f_X1_wishedOnes_j40 v2 M := by
  unfold f_X1_wishedOnes_j40
  (repeat' (first | with_reducible rfl | (with_reducible refine e_gd (fun _ => ?_)) | (with_reducible refine e_ite (fun _ => ?_) (fun _ => ?_)) | (with_reducible refine e_ltm (fun _ => ?_)) | (with_reducible refine e_lt (fun _ => ?_)) | (with_reducible refine e_obm (fun _ => ?_)) | (with_reducible refine e_obn (fun _ => ?_)) | (with_reducible refine e_bnd (fun _ _ => ?_)) | (with_reducible refine e_lpm (fun _ => ?_) (fun _ => ?_)) | (with_reducible refine e_lpr (fun _ => ?_) (fun _ => ?_)) | ((with_reducible refine e_some ?_); first | rfl | (simp (disch := first | assumption | decide) only [uo_lo, uo_ru, uo_ru0, Sum.map, id]; done) | rfl) | (simp (disch := first | assumption | decide) only [uo_lo, uo_ru, uo_ru0, uo_mup, uo_mcp]) | (dsimp only)))
theorem oc_X1_wishedOnes (p1 : Int) (M : Mem) : f_X1_wishedOnes p1 (uo L M) = f_X1_wishedOnes p1 M := by
  unfold f_X1_wishedOnes
  (repeat' (first | with_reducible rfl | (with_reducible refine e_gd (fun _ => ?_)) | (with_reducible refine e_ite (fun _ => ?_) (fun _ => ?_)) | (with_reducible refine e_ltm (fun _ => ?_)) | (with_reducible refine e_lt (fun _ => ?_)) | (with_reducible refine e_obm (fun _ => ?_)) | (with_reducible refine e_obn (fun _ => ?_)) | (with_reducible refine e_bnd (fun _ _ => ?_)) | (with_reducible refine e_lpm (fun _ => ?_) (fun _ => ?_)) | (with_reducible refine e_lpr (fun _ => ?_) (fun _ => ?_)) | ((with_reducible refine e_some ?_); first | rfl | (simp (disch := first | assumption | decide) only [uo_lo, uo_ru, uo_ru0, Sum.map, id]; done) | rfl) | (simp (disch := first | assumption | decide) only [uo_lo, uo_ru, uo_ru0, uo_mup, uo_mcp, oc_X1_wishedOnes_l4, oc_X1_wishedOnes_j40]) | (dsimp only)))
theorem oc_X5_learn_s10 (v1 : Int) (v2 : Int) (M : Mem) : f_X5_learn_s10 v1 v2 (uo L M) = Option.map (Sum.map (fun q => (q.1, uo L q.2)) (fun q => (q.1, uo L q.2))) (f_X5_learn_s10 v1 v2 M) := by
  unfold f_X5_learn_s10
  (repeat' (first | with_reducible rfl | (with_reducible refine c_gd (fun _ => ?_)) | (with_reducible refine c_ite (fun _ => ?_) (fun _ => ?_)) | (with_reducible refine c_ltm (fun _ => ?_)) | (with_reducible refine c_lt (fun _ => ?_)) | (with_reducible refine c_obm (fun _ => ?_)) | (with_reducible refine c_obn (fun _ => ?_)) | (with_reducible refine c_bnd (fun _ _ => ?_)) | (with_reducible refine c_lpm (fun _ => ?_) (fun _ => ?_)) | (with_reducible refine c_lpr (fun _ => ?_) (fun _ => ?_)) | ((with_reducible refine c_some ?_); first | rfl | (simp (disch := first | assumption | decide) only [uo_lo, uo_ru, uo_ru0, Sum.map, id]; done) | rfl) | (simp (disch := first | assumption | decide) only [uo_lo, uo_ru, uo_ru0, uo_mup, uo_mcp]) | (dsimp only)))
theorem oc_X5_learn_l10 (v1 : Int) (v2 : Int) (M : Mem) : f_X5_learn_l10 v1 v2 (uo L M) = Option.map (fun q => (q.1, uo L q.2)) (f_X5_learn_l10 v1 v2 M) := by
  unfold f_X5_learn_l10
  exact c_whl (G := (fun q => (q.1, uo L q.2))) (F := (fun q => (q.1, uo L q.2))) (fun s => by simp (disch := first | assumption | decide) only [oc_X5_learn_s10]) FU (v2, M)
theorem oc_X5_learn_j70 (M : Mem) : f_X5_learn_j70 (uo L M) = Option.map (uo L) (f_X5_learn_j70 M) := by
  unfold f_X5_learn_j70
  (repeat' (first | with_reducible rfl | (with_reducible refine c_gd (fun _ => ?_)) | (with_reducible refine c_ite (fun _ => ?_) (fun _ => ?_)) | (with_reducible refine c_ltm (fun _ => ?_)) | (with_reducible refine c_lt (fun _ => ?_)) | (with_reducible refine c_obm (fun _ => ?_)) | (with_reducible refine c_obn (fun _ => ?_)) | (with_reducible refine c_bnd (fun _ _ => ?_)) | (with_reducible refine c_lpm (fun _ => ?_) (fun _ => ?_)) | (with_reducible refine c_lpr (fun _ => ?_) (fun _ => ?_)) | ((with_reducible refine c_some ?_); first | rfl | (simp (disch := first | assumption | decide) only [uo_lo, uo_ru, uo_ru0, Sum.map, id]; done) | rfl) | (simp (disch := first | assumption | decide) only [uo_lo, uo_ru, uo_ru0, uo_mup, uo_mcp]) | (dsimp only)))
theorem oc_X5_learn (p1 : Int) (M : Mem) : f_X5_learn p1 (uo L M) = Option.map (uo L) (f_X5_learn p1 M) := by
  unfold f_X5_learn
  (repeat' (first | with_reducible rfl | (with_reducible refine c_gd (fun _ => ?_)) | (with_reducible refine c_ite (fun _ => ?_) (fun _ => ?_)) | (with_reducible refine c_ltm (fun _ => ?_)) | (with_reducible refine c_lt (fun _ => ?_)) | (with_reducible refine c_obm (fun _ => ?_)) | (with_reducible refine c_obn (fun _ => ?_)) | (with_reducible refine c_bnd (fun _ _ => ?_)) | (with_reducible refine c_lpm (fun _ => ?_) (fun _ => ?_)) | (with_reducible refine c_lpr (fun _ => ?_) (fun _ => ?_)) | ((with_reducible refine c_some ?_); first | rfl | (simp (disch := first | assumption | decide) only [uo_lo, uo_ru, uo_ru0, Sum.map, id]; done) | rfl) | (simp (disch := first | assumption | decide) only [uo_lo, uo_ru, uo_ru0, uo_mup, uo_mcp, oc_J7_fill_53178, oc_X5_learn_l10, oc_X5_learn_j70]) | (dsimp only)))
theorem oc_X5_scale_s38 (v2 : Int) (v4 : Int) (v5 : Int) (M : Mem) (v6 : Int) (v7 : Int) (v8 : Int) : f_X5_scale_s38 v2 v4 v5 (uo L M) v6 v7 v8 = f_X5_scale_s38 v2 v4 v5 M v6 v7 v8 := by
  unfold f_X5_scale_s38
  (repeat' (first | with_reducible rfl | (with_reducible refine e_gd (fun _ => ?_)) | (with_reducible refine e_ite (fun _ => ?_) (fun _ => ?_)) | (with_reducible refine e_ltm (fun _ => ?_)) | (with_reducible refine e_lt (fun _ => ?_)) | (with_reducible refine e_obm (fun _ => ?_)) | (with_reducible refine e_obn (fun _ => ?_)) | (with_reducible refine e_bnd (fun _ _ => ?_)) | (with_reducible refine e_lpm (fun _ => ?_) (fun _ => ?_)) | (with_reducible refine e_lpr (fun _ => ?_) (fun _ => ?_)) | ((with_reducible refine e_some ?_); first | rfl | (simp (disch := first | assumption | decide) only [uo_lo, uo_ru, uo_ru0, Sum.map, id]; done) | rfl) | (simp (disch := first | assumption | decide) only [uo_lo, uo_ru, uo_ru0, uo_mup, uo_mcp]) | (dsimp only)))
theorem oc_X5_scale_l38 (v2 : Int) (v4 : Int) (v5 : Int) (M : Mem) (v6 : Int) (v7 : Int) (v8 : Int) : f_X5_scale_l38 v2 v4 v5 (uo L M) v6 v7 v8 = f_X5_scale_l38 v2 v4 v5 M v6 v7 v8 := by
  unfold f_X5_scale_l38
  exact e_whl (fun s => by simp (disch := first | assumption | decide) only [oc_X5_scale_s38]) FU _
theorem oc_X5_scale_j92 (v6 : Int) (v7 : Int) (M : Mem) : f_X5_scale_j92 v6 v7 (uo L M) = f_X5_scale_j92 v6 v7 M := by
  unfold f_X5_scale_j92
  (repeat' (first | with_reducible rfl | (with_reducible refine e_gd (fun _ => ?_)) | (with_reducible refine e_ite (fun _ => ?_) (fun _ => ?_)) | (with_reducible refine e_ltm (fun _ => ?_)) | (with_reducible refine e_lt (fun _ => ?_)) | (with_reducible refine e_obm (fun _ => ?_)) | (with_reducible refine e_obn (fun _ => ?_)) | (with_reducible refine e_bnd (fun _ _ => ?_)) | (with_reducible refine e_lpm (fun _ => ?_) (fun _ => ?_)) | (with_reducible refine e_lpr (fun _ => ?_) (fun _ => ?_)) | ((with_reducible refine e_some ?_); first | rfl | (simp (disch := first | assumption | decide) only [uo_lo, uo_ru, uo_ru0, Sum.map, id]; done) | rfl) | (simp (disch := first | assumption | decide) only [uo_lo, uo_ru, uo_ru0, uo_mup, uo_mcp]) | (dsimp only)))
theorem oc_X5_scale (p1 : Int) (p2 : Int) (p3 : Int) (M : Mem) : f_X5_scale p1 p2 p3 (uo L M) = f_X5_scale p1 p2 p3 M := by
  unfold f_X5_scale
  (repeat' (first | with_reducible rfl | (with_reducible refine e_gd (fun _ => ?_)) | (with_reducible refine e_ite (fun _ => ?_) (fun _ => ?_)) | (with_reducible refine e_ltm (fun _ => ?_)) | (with_reducible refine e_lt (fun _ => ?_)) | (with_reducible refine e_obm (fun _ => ?_)) | (with_reducible refine e_obn (fun _ => ?_)) | (with_reducible refine e_bnd (fun _ _ => ?_)) | (with_reducible refine e_lpm (fun _ => ?_) (fun _ => ?_)) | (with_reducible refine e_lpr (fun _ => ?_) (fun _ => ?_)) | ((with_reducible refine e_some ?_); first | rfl | (simp (disch := first | assumption | decide) only [uo_lo, uo_ru, uo_ru0, Sum.map, id]; done) | rfl) | (simp (disch := first | assumption | decide) only [uo_lo, uo_ru, uo_ru0, uo_mup, uo_mcp, oc_X5_scale_l38, oc_X5_scale_j92]) | (dsimp only)))
theorem oc_X5_overall_s8 (v1 : Int) (v2 : Int) (M : Mem) (v3 : Int) (v4 : Int) (v5 : Int) : f_X5_overall_s8 v1 v2 (uo L M) v3 v4 v5 = f_X5_overall_s8 v1 v2 M v3 v4 v5 := by
  unfold f_X5_overall_s8
  (repeat' (first | with_reducible rfl | (with_reducible refine e_gd (fun _ => ?_)) | (with_reducible refine e_ite (fun _ => ?_) (fun _ => ?_)) | (with_reducible refine e_ltm (fun _ => ?_)) | (with_reducible refine e_lt (fun _ => ?_)) | (with_reducible refine e_obm (fun _ => ?_)) | (with_reducible refine e_obn (fun _ => ?_)) | (with_reducible refine e_bnd (fun _ _ => ?_)) | (with_reducible refine e_lpm (fun _ => ?_) (fun _ => ?_)) | (with_reducible refine e_lpr (fun _ => ?_) (fun _ => ?_)) | ((with_reducible refine e_some ?_); first | rfl | (simp (disch := first | assumption | decide) only [uo_lo, uo_ru, uo_ru0, Sum.map, id]; done) | rfl) | (simp (disch := first | assumption | decide) only [uo_lo, uo_ru, uo_ru0, uo_mup, uo_mcp, oc_X5_scale]) | (dsimp only)))
theorem oc_X5_overall_l8 (v1 : Int) (v2 : Int) (M : Mem) (v3 : Int) (v4 : Int) (v5 : Int) : f_X5_overall_l8 v1 v2 (uo L M) v3 v4 v5 = f_X5_overall_l8 v1 v2 M v3 v4 v5 := by
  unfold f_X5_overall_l8
  exact e_whl (fun s => by simp (disch := first | assumption | decide) only [oc_X5_overall_s8]) FU _
theorem oc_X5_overall_j44 (v3 : Int) (v4 : Int) (M : Mem) : f_X5_overall_j44 v3 v4 (uo L M) = f_X5_overall_j44 v3 v4 M := by
  unfold f_X5_overall_j44
  (repeat' (first | with_reducible rfl | (with_reducible refine e_gd (fun _ => ?_)) | (with_reducible refine e_ite (fun _ => ?_) (fun _ => ?_)) | (with_reducible refine e_ltm (fun _ => ?_)) | (with_reducible refine e_lt (fun _ => ?_)) | (with_reducible refine e_obm (fun _ => ?_)) | (with_reducible refine e_obn (fun _ => ?_)) | (with_reducible refine e_bnd (fun _ _ => ?_)) | (with_reducible refine e_lpm (fun _ => ?_) (fun _ => ?_)) | (with_reducible refine e_lpr (fun _ => ?_) (fun _ => ?_)) | ((with_reducible refine e_some ?_); first | rfl | (simp (disch := first | assumption | decide) only [uo_lo, uo_ru, uo_ru0, Sum.map, id]; done) | rfl) | (simp (disch := first | assumption | decide) only [uo_lo, uo_ru, uo_ru0, uo_mup, uo_mcp]) | (dsimp only)))
theorem oc_X5_overall (p1 : Int) (p2 : Int) (M : Mem) : f_X5_overall p1 p2 (uo L M) = f_X5_overall p1 p2 M := by
  unfold f_X5_overall
  (repeat' (first | with_reducible rfl | (with_reducible refine e_gd (fun _ => ?_)) | (with_reducible refine e_ite (fun _ => ?_) (fun _ => ?_)) | (with_reducible refine e_ltm (fun _ => ?_)) | (with_reducible refine e_lt (fun _ => ?_)) | (with_reducible refine e_obm (fun _ => ?_)) | (with_reducible refine e_obn (fun _ => ?_)) | (with_reducible refine e_bnd (fun _ _ => ?_)) | (with_reducible refine e_lpm (fun _ => ?_) (fun _ => ?_)) | (with_reducible refine e_lpr (fun _ => ?_) (fun _ => ?_)) | ((with_reducible refine e_some ?_); first | rfl | (simp (disch := first | assumption | decide) only [uo_lo, uo_ru, uo_ru0, Sum.map, id]; done) | rfl) | (simp (disch := first | assumption | decide) only [uo_lo, uo_ru, uo_ru0, uo_mup, uo_mcp, oc_X5_overall_l8, oc_X5_overall_j44]) | (dsimp only)))
theorem oc_X5_level (p1 : Int) (p2 : Int) (M : Mem) : f_X5_level p1 p2 (uo L M) = f_X5_level p1 p2 M := by
  unfold f_X5_level
  (repeat' (first | with_reducible rfl | (with_reducible refine e_gd (fun _ => ?_)) | (with_reducible refine e_ite (fun _ => ?_) (fun _ => ?_)) | (with_reducible refine e_ltm (fun _ => ?_)) | (with_reducible refine e_lt (fun _ => ?_)) | (with_reducible refine e_obm (fun _ => ?_)) | (with_reducible refine e_obn (fun _ => ?_)) | (with_reducible refine e_bnd (fun _ _ => ?_)) | (with_reducible refine e_lpm (fun _ => ?_) (fun _ => ?_)) | (with_reducible refine e_lpr (fun _ => ?_) (fun _ => ?_)) | ((with_reducible refine e_some ?_); first | rfl | (simp (disch := first | assumption | decide) only [uo_lo, uo_ru, uo_ru0, Sum.map, id]; done) | rfl) | (simp (disch := first | assumption | decide) only [uo_lo, uo_ru, uo_ru0, uo_mup, uo_mcp, oc_X5_overall]) | (dsimp only)))
theorem oc_X7_twinsHow_s5 (r0 : Int) (M : Mem) (v1 : Int) (v2 : Int) (hr0 : isRu r0) : f_X7_twinsHow_s5 r0 (uo L M) v1 v2 = f_X7_twinsHow_s5 r0 M v1 v2 := by
  unfold f_X7_twinsHow_s5
  (repeat' (first | with_reducible rfl | (with_reducible refine e_gd (fun _ => ?_)) | (with_reducible refine e_ite (fun _ => ?_) (fun _ => ?_)) | (with_reducible refine e_ltm (fun _ => ?_)) | (with_reducible refine e_lt (fun _ => ?_)) | (with_reducible refine e_obm (fun _ => ?_)) | (with_reducible refine e_obn (fun _ => ?_)) | (with_reducible refine e_bnd (fun _ _ => ?_)) | (with_reducible refine e_lpm (fun _ => ?_) (fun _ => ?_)) | (with_reducible refine e_lpr (fun _ => ?_) (fun _ => ?_)) | ((with_reducible refine e_some ?_); first | rfl | (simp (disch := first | assumption | decide) only [uo_lo, uo_ru, uo_ru0, Sum.map, id]; done) | rfl) | (simp (disch := first | assumption | decide) only [uo_lo, uo_ru, uo_ru0, uo_mup, uo_mcp]) | (dsimp only)))
theorem oc_X7_twinsHow_l5 (r0 : Int) (M : Mem) (v1 : Int) (v2 : Int) (hr0 : isRu r0) : f_X7_twinsHow_l5 r0 (uo L M) v1 v2 = f_X7_twinsHow_l5 r0 M v1 v2 := by
  unfold f_X7_twinsHow_l5
  exact e_whl (fun s => by simp (disch := first | assumption | decide) only [oc_X7_twinsHow_s5]) FU _
theorem oc_X7_twinsHow_j37 (r0 : Int) (v1 : Int) (M : Mem) : f_X7_twinsHow_j37 r0 v1 (uo L M) = f_X7_twinsHow_j37 r0 v1 M := by
  unfold f_X7_twinsHow_j37
  (repeat' (first | with_reducible rfl | (with_reducible refine e_gd (fun _ => ?_)) | (with_reducible refine e_ite (fun _ => ?_) (fun _ => ?_)) | (with_reducible refine e_ltm (fun _ => ?_)) | (with_reducible refine e_lt (fun _ => ?_)) | (with_reducible refine e_obm (fun _ => ?_)) | (with_reducible refine e_obn (fun _ => ?_)) | (with_reducible refine e_bnd (fun _ _ => ?_)) | (with_reducible refine e_lpm (fun _ => ?_) (fun _ => ?_)) | (with_reducible refine e_lpr (fun _ => ?_) (fun _ => ?_)) | ((with_reducible refine e_some ?_); first | rfl | (simp (disch := first | assumption | decide) only [uo_lo, uo_ru, uo_ru0, Sum.map, id]; done) | rfl) | (simp (disch := first | assumption | decide) only [uo_lo, uo_ru, uo_ru0, uo_mup, uo_mcp]) | (dsimp only)))
theorem oc_X7_twinsHow (r0 : Int) (M : Mem) (hr0 : isRu r0) : f_X7_twinsHow r0 (uo L M) = f_X7_twinsHow r0 M := by
  unfold f_X7_twinsHow
  (repeat' (first | with_reducible rfl | (with_reducible refine e_gd (fun _ => ?_)) | (with_reducible refine e_ite (fun _ => ?_) (fun _ => ?_)) | (with_reducible refine e_ltm (fun _ => ?_)) | (with_reducible refine e_lt (fun _ => ?_)) | (with_reducible refine e_obm (fun _ => ?_)) | (with_reducible refine e_obn (fun _ => ?_)) | (with_reducible refine e_bnd (fun _ _ => ?_)) | (with_reducible refine e_lpm (fun _ => ?_) (fun _ => ?_)) | (with_reducible refine e_lpr (fun _ => ?_) (fun _ => ?_)) | ((with_reducible refine e_some ?_); first | rfl | (simp (disch := first | assumption | decide) only [uo_lo, uo_ru, uo_ru0, Sum.map, id]; done) | rfl) | (simp (disch := first | assumption | decide) only [uo_lo, uo_ru, uo_ru0, uo_mup, uo_mcp, oc_X7_twinsHow_l5, oc_X7_twinsHow_j37]) | (dsimp only)))
theorem oc_X7_termsUse_s2 (r0 : Int) (v1 : Int) (v2 : Int) (M : Mem) (v3 : Int) (hr0 : isRu r0) : f_X7_termsUse_s2 r0 v1 v2 (uo L M) v3 = f_X7_termsUse_s2 r0 v1 v2 M v3 := by
  unfold f_X7_termsUse_s2
  (repeat' (first | with_reducible rfl | (with_reducible refine e_gd (fun _ => ?_)) | (with_reducible refine e_ite (fun _ => ?_) (fun _ => ?_)) | (with_reducible refine e_ltm (fun _ => ?_)) | (with_reducible refine e_lt (fun _ => ?_)) | (with_reducible refine e_obm (fun _ => ?_)) | (with_reducible refine e_obn (fun _ => ?_)) | (with_reducible refine e_bnd (fun _ _ => ?_)) | (with_reducible refine e_lpm (fun _ => ?_) (fun _ => ?_)) | (with_reducible refine e_lpr (fun _ => ?_) (fun _ => ?_)) | ((with_reducible refine e_some ?_); first | rfl | (simp (disch := first | assumption | decide) only [uo_lo, uo_ru, uo_ru0, Sum.map, id]; done) | rfl) | (simp (disch := first | assumption | decide) only [uo_lo, uo_ru, uo_ru0, uo_mup, uo_mcp]) | (dsimp only)))
theorem oc_X7_termsUse_l2 (r0 : Int) (v1 : Int) (v2 : Int) (M : Mem) (v3 : Int) (hr0 : isRu r0) : f_X7_termsUse_l2 r0 v1 v2 (uo L M) v3 = f_X7_termsUse_l2 r0 v1 v2 M v3 := by
  unfold f_X7_termsUse_l2
  exact e_whl (fun s => by simp (disch := first | assumption | decide) only [oc_X7_termsUse_s2]) FU _
theorem oc_X7_termsUse_j34 (r0 : Int) (M : Mem) : f_X7_termsUse_j34 r0 (uo L M) = f_X7_termsUse_j34 r0 M := by
  unfold f_X7_termsUse_j34
  (repeat' (first | with_reducible rfl | (with_reducible refine e_gd (fun _ => ?_)) | (with_reducible refine e_ite (fun _ => ?_) (fun _ => ?_)) | (with_reducible refine e_ltm (fun _ => ?_)) | (with_reducible refine e_lt (fun _ => ?_)) | (with_reducible refine e_obm (fun _ => ?_)) | (with_reducible refine e_obn (fun _ => ?_)) | (with_reducible refine e_bnd (fun _ _ => ?_)) | (with_reducible refine e_lpm (fun _ => ?_) (fun _ => ?_)) | (with_reducible refine e_lpr (fun _ => ?_) (fun _ => ?_)) | ((with_reducible refine e_some ?_); first | rfl | (simp (disch := first | assumption | decide) only [uo_lo, uo_ru, uo_ru0, Sum.map, id]; done) | rfl) | (simp (disch := first | assumption | decide) only [uo_lo, uo_ru, uo_ru0, uo_mup, uo_mcp]) | (dsimp only)))
theorem oc_X7_termsUse (r0 : Int) (p1 : Int) (p2 : Int) (M : Mem) (hr0 : isRu r0) : f_X7_termsUse r0 p1 p2 (uo L M) = f_X7_termsUse r0 p1 p2 M := by
  unfold f_X7_termsUse
  (repeat' (first | with_reducible rfl | (with_reducible refine e_gd (fun _ => ?_)) | (with_reducible refine e_ite (fun _ => ?_) (fun _ => ?_)) | (with_reducible refine e_ltm (fun _ => ?_)) | (with_reducible refine e_lt (fun _ => ?_)) | (with_reducible refine e_obm (fun _ => ?_)) | (with_reducible refine e_obn (fun _ => ?_)) | (with_reducible refine e_bnd (fun _ _ => ?_)) | (with_reducible refine e_lpm (fun _ => ?_) (fun _ => ?_)) | (with_reducible refine e_lpr (fun _ => ?_) (fun _ => ?_)) | ((with_reducible refine e_some ?_); first | rfl | (simp (disch := first | assumption | decide) only [uo_lo, uo_ru, uo_ru0, Sum.map, id]; done) | rfl) | (simp (disch := first | assumption | decide) only [uo_lo, uo_ru, uo_ru0, uo_mup, uo_mcp, oc_X7_termsUse_l2, oc_X7_termsUse_j34]) | (dsimp only)))
theorem oc_X7_uses_s2 (r0 : Int) (v1 : Int) (M : Mem) (v2 : Int) (hr0 : isRu r0) : f_X7_uses_s2 r0 v1 (uo L M) v2 = f_X7_uses_s2 r0 v1 M v2 := by
  unfold f_X7_uses_s2
  (repeat' (first | with_reducible rfl | (with_reducible refine e_gd (fun _ => ?_)) | (with_reducible refine e_ite (fun _ => ?_) (fun _ => ?_)) | (with_reducible refine e_ltm (fun _ => ?_)) | (with_reducible refine e_lt (fun _ => ?_)) | (with_reducible refine e_obm (fun _ => ?_)) | (with_reducible refine e_obn (fun _ => ?_)) | (with_reducible refine e_bnd (fun _ _ => ?_)) | (with_reducible refine e_lpm (fun _ => ?_) (fun _ => ?_)) | (with_reducible refine e_lpr (fun _ => ?_) (fun _ => ?_)) | ((with_reducible refine e_some ?_); first | rfl | (simp (disch := first | assumption | decide) only [uo_lo, uo_ru, uo_ru0, Sum.map, id]; done) | rfl) | (simp (disch := first | assumption | decide) only [uo_lo, uo_ru, uo_ru0, uo_mup, uo_mcp, oc_X7_termsUse]) | (dsimp only)))
theorem oc_X7_uses_l2 (r0 : Int) (v1 : Int) (M : Mem) (v2 : Int) (hr0 : isRu r0) : f_X7_uses_l2 r0 v1 (uo L M) v2 = f_X7_uses_l2 r0 v1 M v2 := by
  unfold f_X7_uses_l2
  exact e_whl (fun s => by simp (disch := first | assumption | decide) only [oc_X7_uses_s2]) FU _
theorem oc_X7_uses_j63 (r0 : Int) (M : Mem) : f_X7_uses_j63 r0 (uo L M) = f_X7_uses_j63 r0 M := by
  unfold f_X7_uses_j63
  (repeat' (first | with_reducible rfl | (with_reducible refine e_gd (fun _ => ?_)) | (with_reducible refine e_ite (fun _ => ?_) (fun _ => ?_)) | (with_reducible refine e_ltm (fun _ => ?_)) | (with_reducible refine e_lt (fun _ => ?_)) | (with_reducible refine e_obm (fun _ => ?_)) | (with_reducible refine e_obn (fun _ => ?_)) | (with_reducible refine e_bnd (fun _ _ => ?_)) | (with_reducible refine e_lpm (fun _ => ?_) (fun _ => ?_)) | (with_reducible refine e_lpr (fun _ => ?_) (fun _ => ?_)) | ((with_reducible refine e_some ?_); first | rfl | (simp (disch := first | assumption | decide) only [uo_lo, uo_ru, uo_ru0, Sum.map, id]; done) | rfl) | (simp (disch := first | assumption | decide) only [uo_lo, uo_ru, uo_ru0, uo_mup, uo_mcp]) | (dsimp only)))
theorem oc_X7_uses (r0 : Int) (p1 : Int) (M : Mem) (hr0 : isRu r0) : f_X7_uses r0 p1 (uo L M) = f_X7_uses r0 p1 M := by
  unfold f_X7_uses
  (repeat' (first | with_reducible rfl | (with_reducible refine e_gd (fun _ => ?_)) | (with_reducible refine e_ite (fun _ => ?_) (fun _ => ?_)) | (with_reducible refine e_ltm (fun _ => ?_)) | (with_reducible refine e_lt (fun _ => ?_)) | (with_reducible refine e_obm (fun _ => ?_)) | (with_reducible refine e_obn (fun _ => ?_)) | (with_reducible refine e_bnd (fun _ _ => ?_)) | (with_reducible refine e_lpm (fun _ => ?_) (fun _ => ?_)) | (with_reducible refine e_lpr (fun _ => ?_) (fun _ => ?_)) | ((with_reducible refine e_some ?_); first | rfl | (simp (disch := first | assumption | decide) only [uo_lo, uo_ru, uo_ru0, Sum.map, id]; done) | rfl) | (simp (disch := first | assumption | decide) only [uo_lo, uo_ru, uo_ru0, uo_mup, uo_mcp, oc_X7_uses_l2, oc_X7_uses_j63]) | (dsimp only)))
theorem oc_X4_traitOf (p1 : Int) (p2 : Int) (M : Mem) : f_X4_traitOf p1 p2 (uo L M) = f_X4_traitOf p1 p2 M := by
  unfold f_X4_traitOf
  (repeat' (first | with_reducible rfl | (with_reducible refine e_gd (fun _ => ?_)) | (with_reducible refine e_ite (fun _ => ?_) (fun _ => ?_)) | (with_reducible refine e_ltm (fun _ => ?_)) | (with_reducible refine e_lt (fun _ => ?_)) | (with_reducible refine e_obm (fun _ => ?_)) | (with_reducible refine e_obn (fun _ => ?_)) | (with_reducible refine e_bnd (fun _ _ => ?_)) | (with_reducible refine e_lpm (fun _ => ?_) (fun _ => ?_)) | (with_reducible refine e_lpr (fun _ => ?_) (fun _ => ?_)) | ((with_reducible refine e_some ?_); first | rfl | (simp (disch := first | assumption | decide) only [uo_lo, uo_ru, uo_ru0, Sum.map, id]; done) | rfl) | (simp (disch := first | assumption | decide) only [uo_lo, uo_ru, uo_ru0, uo_mup, uo_mcp, oc_X1_naming, oc_X5_level, oc_X1_toldWishes]) | (dsimp only)))
theorem oc_X4_meetsTerm (p1 : Int) (p2 : Int) (M : Mem) : f_X4_meetsTerm p1 p2 (uo L M) = f_X4_meetsTerm p1 p2 M := by
  unfold f_X4_meetsTerm
  (repeat' (first | with_reducible rfl | (with_reducible refine e_gd (fun _ => ?_)) | (with_reducible refine e_ite (fun _ => ?_) (fun _ => ?_)) | (with_reducible refine e_ltm (fun _ => ?_)) | (with_reducible refine e_lt (fun _ => ?_)) | (with_reducible refine e_obm (fun _ => ?_)) | (with_reducible refine e_obn (fun _ => ?_)) | (with_reducible refine e_bnd (fun _ _ => ?_)) | (with_reducible refine e_lpm (fun _ => ?_) (fun _ => ?_)) | (with_reducible refine e_lpr (fun _ => ?_) (fun _ => ?_)) | ((with_reducible refine e_some ?_); first | rfl | (simp (disch := first | assumption | decide) only [uo_lo, uo_ru, uo_ru0, Sum.map, id]; done) | rfl) | (simp (disch := first | assumption | decide) only [uo_lo, uo_ru, uo_ru0, uo_mup, uo_mcp]) | (dsimp only)))
theorem oc_X4_meets_s2 (v1 : Int) (v2 : Int) (M : Mem) (v3 : Int) : f_X4_meets_s2 v1 v2 (uo L M) v3 = f_X4_meets_s2 v1 v2 M v3 := by
  unfold f_X4_meets_s2
  (repeat' (first | with_reducible rfl | (with_reducible refine e_gd (fun _ => ?_)) | (with_reducible refine e_ite (fun _ => ?_) (fun _ => ?_)) | (with_reducible refine e_ltm (fun _ => ?_)) | (with_reducible refine e_lt (fun _ => ?_)) | (with_reducible refine e_obm (fun _ => ?_)) | (with_reducible refine e_obn (fun _ => ?_)) | (with_reducible refine e_bnd (fun _ _ => ?_)) | (with_reducible refine e_lpm (fun _ => ?_) (fun _ => ?_)) | (with_reducible refine e_lpr (fun _ => ?_) (fun _ => ?_)) | ((with_reducible refine e_some ?_); first | rfl | (simp (disch := first | assumption | decide) only [uo_lo, uo_ru, uo_ru0, Sum.map, id]; done) | rfl) | (simp (disch := first | assumption | decide) only [uo_lo, uo_ru, uo_ru0, uo_mup, uo_mcp, oc_X4_meetsTerm]) | (dsimp only)))
theorem oc_X4_meets_l2 (v1 : Int) (v2 : Int) (M : Mem) (v3 : Int) : f_X4_meets_l2 v1 v2 (uo L M) v3 = f_X4_meets_l2 v1 v2 M v3 := by
  unfold f_X4_meets_l2
  exact e_whl (fun s => by simp (disch := first | assumption | decide) only [oc_X4_meets_s2]) FU _
theorem oc_X4_meets_j50 (M : Mem) : f_X4_meets_j50 (uo L M) = f_X4_meets_j50 M := by
  unfold f_X4_meets_j50
  (repeat' (first | with_reducible rfl | (with_reducible refine e_gd (fun _ => ?_)) | (with_reducible refine e_ite (fun _ => ?_) (fun _ => ?_)) | (with_reducible refine e_ltm (fun _ => ?_)) | (with_reducible refine e_lt (fun _ => ?_)) | (with_reducible refine e_obm (fun _ => ?_)) | (with_reducible refine e_obn (fun _ => ?_)) | (with_reducible refine e_bnd (fun _ _ => ?_)) | (with_reducible refine e_lpm (fun _ => ?_) (fun _ => ?_)) | (with_reducible refine e_lpr (fun _ => ?_) (fun _ => ?_)) | ((with_reducible refine e_some ?_); first | rfl | (simp (disch := first | assumption | decide) only [uo_lo, uo_ru, uo_ru0, Sum.map, id]; done) | rfl) | (simp (disch := first | assumption | decide) only [uo_lo, uo_ru, uo_ru0, uo_mup, uo_mcp]) | (dsimp only)))
theorem oc_X4_meets (p1 : Int) (p2 : Int) (M : Mem) : f_X4_meets p1 p2 (uo L M) = f_X4_meets p1 p2 M := by
  unfold f_X4_meets
  (repeat' (first | with_reducible rfl | (with_reducible refine e_gd (fun _ => ?_)) | (with_reducible refine e_ite (fun _ => ?_) (fun _ => ?_)) | (with_reducible refine e_ltm (fun _ => ?_)) | (with_reducible refine e_lt (fun _ => ?_)) | (with_reducible refine e_obm (fun _ => ?_)) | (with_reducible refine e_obn (fun _ => ?_)) | (with_reducible refine e_bnd (fun _ _ => ?_)) | (with_reducible refine e_lpm (fun _ => ?_) (fun _ => ?_)) | (with_reducible refine e_lpr (fun _ => ?_) (fun _ => ?_)) | ((with_reducible refine e_some ?_); first | rfl | (simp (disch := first | assumption | decide) only [uo_lo, uo_ru, uo_ru0, Sum.map, id]; done) | rfl) | (simp (disch := first | assumption | decide) only [uo_lo, uo_ru, uo_ru0, uo_mup, uo_mcp, oc_X4_meets_l2, oc_X4_meets_j50]) | (dsimp only)))
theorem oc_X4_holders_s4 (v1 : Int) (M : Mem) (v2 : Int) (v3 : Int) : f_X4_holders_s4 v1 (uo L M) v2 v3 = f_X4_holders_s4 v1 M v2 v3 := by
  unfold f_X4_holders_s4
  (repeat' (first | with_reducible rfl | (with_reducible refine e_gd (fun _ => ?_)) | (with_reducible refine e_ite (fun _ => ?_) (fun _ => ?_)) | (with_reducible refine e_ltm (fun _ => ?_)) | (with_reducible refine e_lt (fun _ => ?_)) | (with_reducible refine e_obm (fun _ => ?_)) | (with_reducible refine e_obn (fun _ => ?_)) | (with_reducible refine e_bnd (fun _ _ => ?_)) | (with_reducible refine e_lpm (fun _ => ?_) (fun _ => ?_)) | (with_reducible refine e_lpr (fun _ => ?_) (fun _ => ?_)) | ((with_reducible refine e_some ?_); first | rfl | (simp (disch := first | assumption | decide) only [uo_lo, uo_ru, uo_ru0, Sum.map, id]; done) | rfl) | (simp (disch := first | assumption | decide) only [uo_lo, uo_ru, uo_ru0, uo_mup, uo_mcp, oc_X4_meets]) | (dsimp only)))
theorem oc_X4_holders_l4 (v1 : Int) (M : Mem) (v2 : Int) (v3 : Int) : f_X4_holders_l4 v1 (uo L M) v2 v3 = f_X4_holders_l4 v1 M v2 v3 := by
  unfold f_X4_holders_l4
  exact e_whl (fun s => by simp (disch := first | assumption | decide) only [oc_X4_holders_s4]) FU _
theorem oc_X4_holders_j36 (v2 : Int) (M : Mem) : f_X4_holders_j36 v2 (uo L M) = f_X4_holders_j36 v2 M := by
  unfold f_X4_holders_j36
  (repeat' (first | with_reducible rfl | (with_reducible refine e_gd (fun _ => ?_)) | (with_reducible refine e_ite (fun _ => ?_) (fun _ => ?_)) | (with_reducible refine e_ltm (fun _ => ?_)) | (with_reducible refine e_lt (fun _ => ?_)) | (with_reducible refine e_obm (fun _ => ?_)) | (with_reducible refine e_obn (fun _ => ?_)) | (with_reducible refine e_bnd (fun _ _ => ?_)) | (with_reducible refine e_lpm (fun _ => ?_) (fun _ => ?_)) | (with_reducible refine e_lpr (fun _ => ?_) (fun _ => ?_)) | ((with_reducible refine e_some ?_); first | rfl | (simp (disch := first | assumption | decide) only [uo_lo, uo_ru, uo_ru0, Sum.map, id]; done) | rfl) | (simp (disch := first | assumption | decide) only [uo_lo, uo_ru, uo_ru0, uo_mup, uo_mcp]) | (dsimp only)))
theorem oc_X4_holders (p1 : Int) (M : Mem) : f_X4_holders p1 (uo L M) = f_X4_holders p1 M := by
  unfold f_X4_holders
  (repeat' (first | with_reducible rfl | (with_reducible refine e_gd (fun _ => ?_)) | (with_reducible refine e_ite (fun _ => ?_) (fun _ => ?_)) | (with_reducible refine e_ltm (fun _ => ?_)) | (with_reducible refine e_lt (fun _ => ?_)) | (with_reducible refine e_obm (fun _ => ?_)) | (with_reducible refine e_obn (fun _ => ?_)) | (with_reducible refine e_bnd (fun _ _ => ?_)) | (with_reducible refine e_lpm (fun _ => ?_) (fun _ => ?_)) | (with_reducible refine e_lpr (fun _ => ?_) (fun _ => ?_)) | ((with_reducible refine e_some ?_); first | rfl | (simp (disch := first | assumption | decide) only [uo_lo, uo_ru, uo_ru0, Sum.map, id]; done) | rfl) | (simp (disch := first | assumption | decide) only [uo_lo, uo_ru, uo_ru0, uo_mup, uo_mcp, oc_X4_holders_l4, oc_X4_holders_j36]) | (dsimp only)))
theorem oc_X4_prepare_s46 (p1 : Int) (v3 : Int) (v4 : Int) (M : Mem) : f_X4_prepare_s46 p1 v3 v4 (uo L M) = Option.map (Sum.map (fun q => (q.1, uo L q.2)) (fun q => (q.1, uo L q.2))) (f_X4_prepare_s46 p1 v3 v4 M) := by
  unfold f_X4_prepare_s46
  (repeat' (first | with_reducible rfl | (with_reducible refine c_gd (fun _ => ?_)) | (with_reducible refine c_ite (fun _ => ?_) (fun _ => ?_)) | (with_reducible refine c_ltm (fun _ => ?_)) | (with_reducible refine c_lt (fun _ => ?_)) | (with_reducible refine c_obm (fun _ => ?_)) | (with_reducible refine c_obn (fun _ => ?_)) | (with_reducible refine c_bnd (fun _ _ => ?_)) | (with_reducible refine c_lpm (fun _ => ?_) (fun _ => ?_)) | (with_reducible refine c_lpr (fun _ => ?_) (fun _ => ?_)) | ((with_reducible refine c_some ?_); first | rfl | (simp (disch := first | assumption | decide) only [uo_lo, uo_ru, uo_ru0, Sum.map, id]; done) | rfl) | (simp (disch := first | assumption | decide) only [uo_lo, uo_ru, uo_ru0, uo_mup, uo_mcp, oc_X4_traitOf]) | (dsimp only)))
theorem oc_X4_prepare_l46 (p1 : Int) (v3 : Int) (v4 : Int) (M : Mem) : f_X4_prepare_l46 p1 v3 v4 (uo L M) = Option.map (fun q => (q.1, uo L q.2)) (f_X4_prepare_l46 p1 v3 v4 M) := by
  unfold f_X4_prepare_l46
  exact c_whl (G := (fun q => (q.1, uo L q.2))) (F := (fun q => (q.1, uo L q.2))) (fun s => by simp (disch := first | assumption | decide) only [oc_X4_prepare_s46]) FU (v4, M)
theorem oc_X4_prepare_j83k26 (p1 : Int) (v3 : Int) (M : Mem) : f_X4_prepare_j83k26 p1 v3 (uo L M) = Option.map (Sum.map (fun q => (q.1, uo L q.2)) (fun q => (q.1, uo L q.2))) (f_X4_prepare_j83k26 p1 v3 M) := by
  unfold f_X4_prepare_j83k26
  (repeat' (first | with_reducible rfl | (with_reducible refine c_gd (fun _ => ?_)) | (with_reducible refine c_ite (fun _ => ?_) (fun _ => ?_)) | (with_reducible refine c_ltm (fun _ => ?_)) | (with_reducible refine c_lt (fun _ => ?_)) | (with_reducible refine c_obm (fun _ => ?_)) | (with_reducible refine c_obn (fun _ => ?_)) | (with_reducible refine c_bnd (fun _ _ => ?_)) | (with_reducible refine c_lpm (fun _ => ?_) (fun _ => ?_)) | (with_reducible refine c_lpr (fun _ => ?_) (fun _ => ?_)) | ((with_reducible refine c_some ?_); first | rfl | (simp (disch := first | assumption | decide) only [uo_lo, uo_ru, uo_ru0, Sum.map, id]; done) | rfl) | (simp (disch := first | assumption | decide) only [uo_lo, uo_ru, uo_ru0, uo_mup, uo_mcp]) | (dsimp only)))
theorem oc_X4_prepare_s26 (p1 : Int) (v3 : Int) (M : Mem) : f_X4_prepare_s26 p1 v3 (uo L M) = Option.map (Sum.map (fun q => (q.1, uo L q.2)) (fun q => (q.1, uo L q.2))) (f_X4_prepare_s26 p1 v3 M) := by
  unfold f_X4_prepare_s26
  (repeat' (first | with_reducible rfl | (with_reducible refine c_gd (fun _ => ?_)) | (with_reducible refine c_ite (fun _ => ?_) (fun _ => ?_)) | (with_reducible refine c_ltm (fun _ => ?_)) | (with_reducible refine c_lt (fun _ => ?_)) | (with_reducible refine c_obm (fun _ => ?_)) | (with_reducible refine c_obn (fun _ => ?_)) | (with_reducible refine c_bnd (fun _ _ => ?_)) | (with_reducible refine c_lpm (fun _ => ?_) (fun _ => ?_)) | (with_reducible refine c_lpr (fun _ => ?_) (fun _ => ?_)) | ((with_reducible refine c_some ?_); first | rfl | (simp (disch := first | assumption | decide) only [uo_lo, uo_ru, uo_ru0, Sum.map, id]; done) | rfl) | (simp (disch := first | assumption | decide) only [uo_lo, uo_ru, uo_ru0, uo_mup, uo_mcp, oc_X7_uses, oc_X4_prepare_l46, oc_X4_prepare_j83k26]) | (dsimp only)))
theorem oc_X4_prepare_l26 (p1 : Int) (v3 : Int) (M : Mem) : f_X4_prepare_l26 p1 v3 (uo L M) = Option.map (fun q => (q.1, uo L q.2)) (f_X4_prepare_l26 p1 v3 M) := by
  unfold f_X4_prepare_l26
  exact c_whl (G := (fun q => (q.1, uo L q.2))) (F := (fun q => (q.1, uo L q.2))) (fun s => by simp (disch := first | assumption | decide) only [oc_X4_prepare_s26]) FU (v3, M)
end OC
