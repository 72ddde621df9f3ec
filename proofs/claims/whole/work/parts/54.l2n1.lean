/-! what a plan is worth hangs on the facts alone -/
theorem FE.sy {M M' : Mem} (h : FE M M') : FE M' M := fun c i q => (h c i q).symm
section FEQ
variable {B B' : Mem} {known : Int}
theorem fe_nS (h : FE B B') : nS B' = nS B := by unfold nS; rw [h 80 21 (by unfold isF; omega)]
theorem fe_nC (h : FE B B') : nC B' = nC B := by unfold nC; rw [h 80 12 (by unfold isF; omega)]
theorem fe_how (h : FE B B') : ∀ n, n ≤ 16 → howS B' n = howS B n
  | 0, _ => rfl
  | n + 1, hn => by
    show (if B' 97 n = 8 then B' 98 n else howS B' n) = if B 97 n = 8 then B 98 n else howS B n
    rw [h 97 n (by unfold isF; omega), h 98 n (by unfold isF; omega), fe_how h n (by omega)]
theorem fe_holdR (h : FE B B') (hB : Fa B) {row : Nat} (hr : row < 2 * nS B) (c : Nat) : holdB B' known row c = holdB B known row c := by
  have := hB.s16
  exact fe_hold h known (by omega) (hB.row4 hr).2 c
theorem fe_holdG (h : FE B B') (hB : Fa B) {row : Nat} (hr : row < 2 * nS B) (G : Nat → Bool) : holdG B' known row G = holdG B known row G := by
  unfold holdG
  rw [fe_nK h]
  exact cnt_congr (fun c hc => by rw [fe_holdR h hB hr c])
theorem fe_stand1 (h : FE B B') (hB : Fa B) {k : Nat} {G : Nat → Bool} (hs : standG B known k G) : standG B' known k G := by
  have h16 := hB.s16
  obtain ⟨s1, s2, s3, s4⟩ := hs
  refine ⟨?_, fun c hc hG => ?_, fun a ha hGa b hb hGb => ?_, fun s hs => ⟨fun h5 a ha hGa hh b hb hGb hne => ?_, fun h6 => ?_⟩⟩
  · unfold inG
    rw [fe_nK h, h.row 91 k (by omega)]; exact s1
  · rw [fe_nK h] at hc
    rw [h.row 90 _ (by omega)]; exact s2 c hc hG
  · rw [fe_nK h] at ha hb
    rw [h.row 88 _ (by omega), h.row 89 _ (by omega), fe_nS h, fe_how h _ h16]
    exact s3 a ha hGa b hb hGb
  · rw [fe_nS h] at hs
    rw [fe_nK h] at ha hb
    rw [h 97 s (by unfold isF; omega)] at h5
    rw [fe_holdR h hB (by omega)] at hh ⊢
    exact (s4 s hs).1 h5 a ha hGa hh b hb hGb hne
  · rw [fe_nS h] at hs
    rw [h 97 s (by unfold isF; omega)] at h6
    rw [h 98 s (by unfold isF; omega), fe_holdG h hB (by omega)]
    exact (s4 s hs).2 h6
theorem fe_join1 (h : FE B B') (hB : Fa B) {G A : Nat → Bool} (hj : joinG B G A) : joinG B' G A := by
  intro how a ha hG b hb hA ht
  rw [fe_nS h, fe_how h _ hB.s16] at how
  rw [fe_nK h] at ha hb
  rw [h.row 89 _ (by omega)] at ht
  exact hj how a ha hG b hb hA ht
theorem fe_sound1 (h : FE B B') (hB : Fa B) {G : Nat → Nat → Bool} (hs : soundG B known G) : soundG B' known G := by
  intro k hk
  rw [fe_nC h] at hk ⊢
  exact ⟨fe_stand1 h hB (hs k hk).1, fe_join1 h hB (hs k hk).2⟩
theorem fe_soundG (h : FE B B') (hB : Fa B) (hB' : Fa B') {G : Nat → Nat → Bool} : soundG B' known G ↔ soundG B known G := ⟨fe_sound1 h.sy hB', fe_sound1 h hB⟩
theorem fe_lackG (h : FE B B') (hB : Fa B) (G : Nat → Bool) : lackG B' known G = lackG B known G := by
  have h16 := hB.s16
  unfold lackG
  rw [fe_nS h]
  refine fb_si_cong (fun s hs => ?_)
  rw [h 97 s (by unfold isF; omega), h 98 s (by unfold isF; omega), fe_holdG h hB (by omega)]
theorem fe_lackGG (h : FE B B') (hB : Fa B) (G : Nat → Nat → Bool) : lackGG B' known G = lackGG B known G := by
  unfold lackGG
  rw [fe_nC h]
  exact fb_si_cong (fun k _ => fe_lackG h hB (G k))
theorem fe_wish (h : FE B B') (c o : Nat) : wishB B' c o = wishB B c o := by
  unfold wishB
  rw [show (fun p => decide (B' 86 (3 * c + p) = (o : Int))) = fun p => decide (B 86 (3 * c + p) = (o : Int)) from funext (fun p => by rw [h.row 86 _ (by omega)])]
theorem fe_addG (h : FE B B') (hB : Fa B) (G : Nat → Bool) {s : Nat} (hs : s < nS B) : addG B' known G s = addG B known G s := by
  have h16 := hB.s16
  have el : leftG B' G = leftG B G := by
    unfold leftG
    rw [fe_nK h]
    refine fb_si_cong (fun c hc => ?_)
    rw [h.row 85 _ (by omega)]
    simp only [fe_wish h]
  have er : regretG B' G = regretG B G := by
    unfold regretG
    rw [fe_nK h]
    refine fb_si_cong (fun a ha => ?_)
    rw [show (fun b => if G b = true then B' 87 (14 * a + b) else 0) = fun b => if G b = true then B 87 (14 * a + b) else 0 from funext (fun b => by rw [h.row 87 _ (by omega)])]
  unfold addG
  rw [h 97 s (by unfold isF; omega), h 98 s (by unfold isF; omega), fe_holdG h hB (by omega), el, er]
theorem fe_wtG (h : FE B B') (hB : Fa B) (G : Nat → Bool) {s : Nat} (hs : s < nS B) : wtG B' known s G = wtG B known s G := by
  have h16 := hB.s16
  unfold wtG
  rw [fe_nK h]
  refine fb_si_cong (fun c hc => ?_)
  unfold wOf
  rw [h 97 s (by unfold isF; omega), h 99 s (by unfold isF; omega), fe_told h, fe_holdR h hB (by omega)]
theorem fe_harmBG (h : FE B B') (hB : Fa B) (G : Nat → Nat → Bool) {s : Nat} (hs : s < nS B) : harmBG B' known G s = harmBG B known G s := by
  have h16 := hB.s16
  unfold harmBG
  rw [fe_nC h, mx_congr (fun k _ => fe_wtG h hB (G k) hs), mn_congr (fun k _ => fe_wtG h hB (G k) hs), show (fun k => addG B' known (G k) s) = fun k => addG B known (G k) s from funext (fun k => fe_addG h hB (G k) hs), h 98 s (by unfold isF; omega)]
  unfold isSp
  rw [h 97 s (by unfold isF; omega)]
theorem fe_harmGG (h : FE B B') (hB : Fa B) (G : Nat → Nat → Bool) : harmGG B' known G = harmGG B known G := by
  unfold harmGG
  rw [fe_nS h]
  exact fb_si_cong (fun s hs => fe_harmBG h hB G hs)
theorem fe_okW (h : FE B B') (hB : Fa B) (hB' : Fa B') (mem : Nat → Nat) (n : Nat) : okW B' known mem n = okW B known mem n := by
  funext s
  unfold okW
  rw [fe_lackGG h hB, propext (fe_soundG h hB hB')]
theorem fe_hmW (h : FE B B') (hB : Fa B) (mem : Nat → Nat) (n : Nat) : hmW B' known mem n = hmW B known mem n := by
  funext s
  exact fe_harmGG h hB _
end FEQ
