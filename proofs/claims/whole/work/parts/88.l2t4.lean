/-! swap: both sides -/
theorem jrem_n {x y : Int} (hx : 0 ≤ x) (hx2 : x < 2147483648) (hy : 0 < y) (hy2 : y < 2147483648) : jrem x y = x % y := by
  have h0 : (i2 x / i2 y) = i2 (x / y) := by
    rw [← jdiv_n hx hx2 hy hy2]
    unfold jdiv
    rw [i2_of]
  have h1 : 0 ≤ x / y := Int.ediv_nonneg hx (by omega)
  have h2 : x / y * y ≤ x := by
    have := Int.mul_ediv_add_emod x y
    have h4 := Int.emod_nonneg x (b := y) (by omega)
    rw [Int.mul_comm] at this
    omega
  have h3 : 0 ≤ x / y * y := Int.mul_nonneg h1 (by omega)
  have h5 := Int.mul_ediv_add_emod x y
  rw [Int.mul_comm] at h5
  unfold jrem
  rw [h0, i2_mul, wrap_of (by omega) (by omega), i2_sub, wrap_of (by omega) (by omega), i2_toInt ⟨by omega, by omega⟩]
  omega
/-- the place of the p-th one -/
noncomputable def kthS (q : Nat → Bool) (n : Nat) (p : Int) : Int := @dite Int (∃ x : Nat, x < n ∧ q x = true ∧ (fb_ct q x : Int) = p) (Classical.propDecidable _) (fun h => ((Classical.choose h : Nat) : Int)) (fun _ => -1)
theorem kth_of {q : Nat → Bool} {n x : Nat} {p : Int} (hx : x < n) (h1 : q x = true) (h2 : (fb_ct q x : Int) = p) : kthS q n p = (x : Int) := by
  have h : ∃ x : Nat, x < n ∧ q x = true ∧ (fb_ct q x : Int) = p := ⟨x, hx, h1, h2⟩
  unfold kthS
  rw [dif_pos h]
  have s := Classical.choose_spec h
  have := fb_ct_kth_one s.2.1 h1 (by omega)
  omega
theorem kth_no {q : Nat → Bool} {n : Nat} {p : Int} (h : ∀ x, x < n → q x = true → (fb_ct q x : Int) ≠ p) : kthS q n p = -1 := by
  unfold kthS
  rw [dif_neg (fun ⟨x, h1, h2, h3⟩ => h x h1 h2 h3)]
section SWAP
variable {M : Mem}
theorem op_swap (I : Inv M) (p w : Int) (hp : inR p) : Alk (f_X10_swap p w M) (f_X11_swap p w) := by
  have h14 := I.1.n14
  refine alk_ro (ans := if 0 ≤ w ∧ w ≤ 1 then (if kthS (qg (nK M) (gnB M)) 196 p = -1 then -1 else if w = 0 then kthS (qg (nK M) (gnB M)) 196 p / 14 else kthS (qg (nK M) (gnB M)) 196 p % 14) else -1) I ?_ (fun M1 h1 => ?_)
  · unfold f_X10_swap
    refine ok_ite (fun h0 => ok_some ⟨lvC.rf M, ?_⟩) (fun h0 => ?_)
    · rw [kth_no (fun x _ _ => by omega), if_pos rfl]
      split <;> rfl
    refine ok_b (c_within _ _ _ _) (fun h => ?_) (fun h => ok_ite_t rfl (ok_some ⟨lvC.rf M, by rw [if_neg h]⟩))
    rw [if_pos h]
    refine ok_ite_f (by decide) ?_
    refine ok_bnd (P := fun q => q.1 = kthS (qg (nK M) (gnB M)) 196 p ∧ lvC M q.2 ∧ q.1 < 196) ?_ (fun r N hr => ?_)
    · unfold f_X10_searchSwaps
      rw [I.cf.r11, I.cf.td]
      refine ok_gd I.cf.ru (ok_obn (c_list I) (fun M1 hM1 => ok_obn hM1.2.2 (fun M2 hM2 => ?_)))
      obtain ⟨J2, lv2, -, g2⟩ := hM2
      have l1 : ∀ c, M2 1 c = M 110 c := fun c => by rw [lv2 1 c (Or.inl (Or.inr (Or.inl (by unfold isO; omega))))]; exact I.l1 c
      have lv : ∀ N, GdC M M2 N → lvC M N := fun N hN c i q => by
        by_cases e : c = 2
        · unfold isS isFa isO isX1 isX2 at q; omega
        · rw [hN.2.1 c i e]; exact lv2 c i q
      refine ok_lpr (c_rows (Good := GdC M M2) (g := gnB M) (p := p) h14 (fun N hN => hN.1.c.n) (gdc_step I l1) ⟨J2, fun _ _ _ => rfl, g2⟩) (fun s hs => ?_) (fun t ht => ?_)
      · unfold f_X10_searchSwaps_j89
        exact ok_ite_t (by omega) (ok_some ⟨(kth_no hs.2.2).symm, lv _ hs.2.1, by show (-1 : Int) < 196; omega⟩)
      · obtain ⟨⟨x, hx, hx2, hx3, hx4⟩, hG⟩ := ht
        exact ok_some ⟨by rw [kth_of hx2 hx3 hx4]; exact hx, lv _ hG, by omega⟩
    · obtain ⟨hr, hl, hb⟩ := hr
      dsimp only at hr hl hb ⊢
      rw [← hr]
      refine ok_ite (fun h6 => ok_some ⟨hl, by rw [if_pos h6]⟩) (fun h6 => ?_)
      have hb0 : 0 ≤ r := by
        rw [hr] at h6 ⊢
        unfold kthS at h6 ⊢
        split
        · omega
        · rename_i z; rw [dif_neg z] at h6; exact absurd rfl h6
      rw [if_neg h6]
      refine ok_ite (fun h7 => ok_some ⟨hl, ?_⟩) (fun h7 => ok_some ⟨hl, ?_⟩)
      · rw [if_pos h7]; exact jdiv_n hb0 (by omega) (by omega) (by omega)
      · rw [if_neg h7]; exact jrem_n hb0 (by omega) (by omega) (by omega)
  · unfold f_X11_swap
    obtain ⟨M2, e2, H2, f2, l2, g2⟩ := m_start I h1
    refine ok_lt ?_
    rw [e2]
    refine ok_b (m_within _ _ _ _) (fun h => ?_) (fun h => ok_ite_t rfl (ok_some ⟨l2, by rw [if_neg h]⟩))
    rw [if_pos h]
    refine ok_ite_f (by decide) ?_
    refine ok_obn (m_list I H2 l2 g2) (fun M3 hM3 => ?_)
    obtain ⟨L3, l3, gp3, pb3, p3⟩ := hM3
    have lv : ∀ N, GdM M M3 N → lvM M1 N := fun N hN c i q => by
      rw [hN.2.1 c i (by unfold isS isFa isO isX1 isX2 at q; omega)]
      exact l3 c i q
    refine ok_lpr (m_srows (Good := GdM M M3) (g := gnB M) (p := p) (w := w) hp h14 (fun N hN => ?_) (gdm_step I p3 pb3) ⟨L3, fun _ _ _ => rfl, rfl⟩) (fun s hs => ?_) (fun t ht => ?_)
    · rw [hN.1.1.2 80 1 (by unfold isFa; omega)]; exact I.1.n.symm
    · unfold f_X11_swap_j94
      exact ok_some ⟨lv _ hs.1, by rw [kth_no hs.2, if_pos rfl]⟩
    · obtain ⟨⟨x, hx, hx3, hx4⟩, hG⟩ := ht
      have hx2 : x < 196 := by
        apply Classical.byContradiction
        intro z
        rw [qg_no (by omega)] at hx3
        exact absurd hx3 (by decide)
      refine ok_some ⟨lv _ hG, ?_⟩
      rw [kth_of hx2 hx3 hx4, if_neg (by omega), hx]
      by_cases z : w = 0
      · rw [if_pos z, if_pos z]; omega
      · rw [if_neg z, if_neg z]; omega
end SWAP
