noncomputable section
def f_J6_bitCount_0f7a4 (p0 : Int) (M : Mem) : Option (Int) :=
  lt (wrap (p0 - (band (bushr p0 1) 1431655765))) fun v0 =>
  lt (wrap ((band v0 858993459) + (band (bushr v0 2) 858993459))) fun v0_2 =>
  lt (band (wrap (v0_2 + (bushr v0_2 4))) 252645135) fun v0_3 =>
  lt (wrap (v0_3 + (bushr v0_3 8))) fun v0_4 =>
  lt (wrap (v0_4 + (bushr v0_4 16))) fun v0_5 =>
  some (band v0_5 63)
def rm_J6_bitCount_0f7a4 : Room := { frames := 0, cells := 0, slots := 0, locals := 0 }
end
noncomputable section
def f_J7_fill_53178_s5 (p0 : Nat) (v1 : Int) (v3 : Int) (v2 : Int) (M : Mem) : Option ((Int × Mem) ⊕ (Int × Mem)) :=
  if v3 ≤ v2 then
    some (.inr (v2, M))
  else
    gd ((0 : Int) ≤ v2 ∧ (v2 : Int) < (aln p0 : Int)) <|
    lt (mup M p0 v2.toNat v1) fun M_2 =>
    lt (wrap (v2 + 1)) fun v2_2 =>
    some (.inl (v2_2, M_2))
def f_J7_fill_53178_l5 (p0 : Nat) (v1 : Int) (v3 : Int) (v2 : Int) (M : Mem) : Option (Int × Mem) := whl (fun s => f_J7_fill_53178_s5 p0 v1 v3 s.1 s.2) FU (v2, M)
def f_J7_fill_53178_j20 (p0 : Nat) (M : Mem) : Option (Mem) :=
  some M
def f_J7_fill_53178 (p0 : Nat) (p1 : Int) (M : Mem) : Option (Mem) :=
  lt ((aln p0 : Int)) fun v3 =>
  obn (f_J7_fill_53178_l5 p0 p1 v3 0 M) fun s => f_J7_fill_53178_j20 p0 s.2
def rm_J7_fill_53178 : Room := { frames := 0, cells := 0, slots := 0, locals := 0 }
end
noncomputable section
def f_X1_has (p1 : Int) (M : Mem) : Option (Int) :=
  if p1 < 0 then
    some 0
  else
    if (M 3 0) ≤ p1 then
      some 0
    else
      some 1
def rm_X1_has : Room := { frames := 0, cells := 0, slots := 0, locals := 0 }
def f_X1_cameBy_s4 (v1 : Int) (M : Mem) (v2 : Int) (v3 : Int) : Option ((Int × Int) ⊕ (Int × Int)) :=
  if (M 3 0) ≤ v3 then
    some (.inr (v2, v3))
  else
    gd ((0 : Int) ≤ v3 ∧ (v3 : Int) < 14) <|
    if v1 < (M 7 v3.toNat) then
      lt (wrap (v3 + 1)) fun v3_2 =>
      some (.inl (v2, v3_2))
    else
      lt (wrap (v2 + 1)) fun v2_2 =>
      lt (wrap (v3 + 1)) fun v3_3 =>
      some (.inl (v2_2, v3_3))
def f_X1_cameBy_l4 (v1 : Int) (M : Mem) (v2 : Int) (v3 : Int) : Option (Int × Int) := whl (fun s => f_X1_cameBy_s4 v1 M s.1 s.2) FU (v2, v3)
def f_X1_cameBy_j31 (v2 : Int) (M : Mem) : Option (Int) :=
  some v2
def f_X1_cameBy (p1 : Int) (M : Mem) : Option (Int) :=
  obn (f_X1_cameBy_l4 p1 M 0 0) fun s => f_X1_cameBy_j31 s.1 M
def rm_X1_cameBy : Room := { frames := 0, cells := 0, slots := 0, locals := 0 }
def f_X1_toldWishes_s4 (v1 : Int) (M : Mem) (v2 : Int) (v3 : Int) : Option ((Int × Int) ⊕ (Int × Int)) :=
  if 3 ≤ v3 then
    some (.inr (v2, v3))
  else
    gd ((0 : Int) ≤ (wrap ((wrap (v1 * 3)) + v3)) ∧ ((wrap ((wrap (v1 * 3)) + v3)) : Int) < 42) <|
    if (M 9 (wrap ((wrap (v1 * 3)) + v3)).toNat) = (-1) then
      lt (wrap (v3 + 1)) fun v3_2 =>
      some (.inl (v2, v3_2))
    else
      lt (wrap (v2 + 1)) fun v2_2 =>
      lt (wrap (v3 + 1)) fun v3_3 =>
      some (.inl (v2_2, v3_3))
def f_X1_toldWishes_l4 (v1 : Int) (M : Mem) (v2 : Int) (v3 : Int) : Option (Int × Int) := whl (fun s => f_X1_toldWishes_s4 v1 M s.1 s.2) FU (v2, v3)
def f_X1_toldWishes_j32 (v2 : Int) (M : Mem) : Option (Int) :=
  some v2
def f_X1_toldWishes (p1 : Int) (M : Mem) : Option (Int) :=
  obn (f_X1_toldWishes_l4 p1 M 0 0) fun s => f_X1_toldWishes_j32 s.1 M
def rm_X1_toldWishes : Room := { frames := 0, cells := 0, slots := 0, locals := 0 }
def f_X1_naming_s4 (v1 : Int) (M : Mem) (v2 : Int) (v3 : Int) : Option ((Int × Int) ⊕ (Int × Int)) :=
  if (wrap ((M 3 0) * 3)) ≤ v3 then
    some (.inr (v2, v3))
  else
    gd ((0 : Int) ≤ v3 ∧ (v3 : Int) < 42) <|
    if (M 9 v3.toNat) = v1 then
      lt (wrap (v2 + 1)) fun v2_2 =>
      lt (wrap (v3 + 1)) fun v3_3 =>
      some (.inl (v2_2, v3_3))
    else
      lt (wrap (v3 + 1)) fun v3_2 =>
      some (.inl (v2, v3_2))
def f_X1_naming_l4 (v1 : Int) (M : Mem) (v2 : Int) (v3 : Int) : Option (Int × Int) := whl (fun s => f_X1_naming_s4 v1 M s.1 s.2) FU (v2, v3)
def f_X1_naming_j33 (v2 : Int) (M : Mem) : Option (Int) :=
  some v2
def f_X1_naming (p1 : Int) (M : Mem) : Option (Int) :=
  obn (f_X1_naming_l4 p1 M 0 0) fun s => f_X1_naming_j33 s.1 M
def rm_X1_naming : Room := { frames := 0, cells := 0, slots := 0, locals := 0 }
def f_X1_wishedOnes_s4 (v1 : Int) (M : Mem) (v2 : Int) (v3 : Int) : Option ((Int × Int) ⊕ (Int × Int)) :=
  if 3 ≤ v3 then
    some (.inr (v2, v3))
  else
    gd ((0 : Int) ≤ (wrap ((wrap (v1 * 3)) + v3)) ∧ ((wrap ((wrap (v1 * 3)) + v3)) : Int) < 42) <|
    lt (M 9 (wrap ((wrap (v1 * 3)) + v3)).toNat) fun v4 =>
    if v4 = (-1) then
      lt (wrap (v3 + 1)) fun v3_2 =>
      some (.inl (v2, v3_2))
    else
      lt (bor v2 (bshl 1 v4)) fun v2_2 =>
      lt (wrap (v3 + 1)) fun v3_3 =>
      some (.inl (v2_2, v3_3))
def f_X1_wishedOnes_l4 (v1 : Int) (M : Mem) (v2 : Int) (v3 : Int) : Option (Int × Int) := whl (fun s => f_X1_wishedOnes_s4 v1 M s.1 s.2) FU (v2, v3)
def f_X1_wishedOnes_j40 (v2 : Int) (M : Mem) : Option (Int) :=
  some v2
def f_X1_wishedOnes (p1 : Int) (M : Mem) : Option (Int) :=
  obn (f_X1_wishedOnes_l4 p1 M 0 0) fun s => f_X1_wishedOnes_j40 s.1 M
def rm_X1_wishedOnes : Room := { frames := 0, cells := 0, slots := 0, locals := 0 }
def f_X1_bestWish_s2 (v1 : Int) (v2 : Int) (M : Mem) (v3 : Int) : Option ((Int) ⊕ ((Int) ⊕ (Int))) :=
  if 3 ≤ v3 then
    some (.inr (.inl v3))
  else
    gd ((0 : Int) ≤ (wrap ((wrap (v1 * 3)) + v3)) ∧ ((wrap ((wrap (v1 * 3)) + v3)) : Int) < 42) <|
    lt (M 9 (wrap ((wrap (v1 * 3)) + v3)).toNat) fun v4 =>
    if v4 = (-1) then
      lt (wrap (v3 + 1)) fun v3_2 =>
      some (.inl v3_2)
    else
      if (band (bshr v2 v4) 1) = 0 then
        lt (wrap (v3 + 1)) fun v3_3 =>
        some (.inl v3_3)
      else
        some (.inr (.inr v3))
def f_X1_bestWish_l2 (v1 : Int) (v2 : Int) (M : Mem) (v3 : Int) : Option ((Int) ⊕ (Int)) := whl (fun s => f_X1_bestWish_s2 v1 v2 M s) FU v3
def f_X1_bestWish_j42 (M : Mem) : Option (Int) :=
  some 3
def f_X1_bestWish (p1 : Int) (p2 : Int) (M : Mem) : Option (Int) :=
  lpr (f_X1_bestWish_l2 p1 p2 M 0) (fun s => f_X1_bestWish_j42 M) (fun q => some q)
def rm_X1_bestWish : Room := { frames := 0, cells := 0, slots := 0, locals := 0 }
def f_X1_admit (p1 : Int) (p2 : Int) (p3 : Int) (p4 : Int) (M : Mem) : Option (Int × Mem) :=
  if (M 3 0) < 14 then
    gd ((0 : Int) ≤ (M 3 0) ∧ ((M 3 0) : Int) < 14) <|
    lt (mup M 4 (M 3 0).toNat p1) fun M_2 =>
    gd ((0 : Int) ≤ (M_2 3 0) ∧ ((M_2 3 0) : Int) < 14) <|
    lt (mup M_2 5 (M_2 3 0).toNat p2) fun M_3 =>
    gd ((0 : Int) ≤ (M_3 3 0) ∧ ((M_3 3 0) : Int) < 14) <|
    lt (mup M_3 6 (M_3 3 0).toNat p3) fun M_4 =>
    gd ((0 : Int) ≤ (M_4 3 0) ∧ ((M_4 3 0) : Int) < 14) <|
    lt (mup M_4 7 (M_4 3 0).toNat p4) fun M_5 =>
    lt (mup M_5 3 0 (wrap ((M_5 3 0) + 1))) fun M_6 =>
    some ((wrap ((M_6 3 0) - 1)), M_6)
  else
    some ((-1), M)
def rm_X1_admit : Room := { frames := 0, cells := 0, slots := 0, locals := 0 }
def f_X1_areTwo (p1 : Int) (p2 : Int) (M : Mem) : Option (Int) :=
  obn (f_X1_has p1 M) fun r =>
  if r = 0 then
    some 0
  else
    obn (f_X1_has p2 M) fun r_2 =>
    if r_2 = 0 then
      some 0
    else
      if p1 = p2 then
        some 0
      else
        some 1
def rm_X1_areTwo : Room := { frames := 1, cells := 0, slots := 0, locals := 21 }
def f_X1_reach_s20 (v3 : Int) (v4 : Int) (M : Mem) (v2 : Int) (v5 : Int) : Option ((Int × Int) ⊕ (Int × Int)) :=
  if (M 3 0) ≤ v5 then
    some (.inr (v2, v5))
  else
    if (band (bshr v2 v5) 1) = 0 then
      lt (wrap (v5 + 1)) fun v5_2 =>
      some (.inl (v2, v5_2))
    else
      obn (f_X1_wishedOnes v5 M) fun r =>
      lt (bor v2 r) fun v2_2 =>
      lt (wrap (v5 + 1)) fun v5_3 =>
      some (.inl (v2_2, v5_3))
def f_X1_reach_l20 (v3 : Int) (v4 : Int) (M : Mem) (v2 : Int) (v5 : Int) : Option (Int × Int) := whl (fun s => f_X1_reach_s20 v3 v4 M s.1 s.2) FU (v2, v5)
def f_X1_reach_j53k6 (v2 : Int) (v3 : Int) (v4 : Int) (M : Mem) : Option ((Int × Int) ⊕ ((Int × Int) ⊕ (Int))) :=
  if v2 = v4 then
    some (.inr (.inr v2))
  else
    lt (wrap (v3 + 1)) fun v3_2 =>
    some (.inl (v2, v3_2))
def f_X1_reach_s6 (M : Mem) (v2 : Int) (v3 : Int) : Option ((Int × Int) ⊕ ((Int × Int) ⊕ (Int))) :=
  if (M 3 0) ≤ v3 then
    some (.inr (.inl (v2, v3)))
  else
    obn (f_X1_reach_l20 v3 v2 M v2 0) fun s => f_X1_reach_j53k6 s.1 v3 v2 M
def f_X1_reach_l6 (M : Mem) (v2 : Int) (v3 : Int) : Option ((Int × Int) ⊕ (Int)) := whl (fun s => f_X1_reach_s6 M s.1 s.2) FU (v2, v3)
def f_X1_reach_j67 (v2 : Int) (M : Mem) : Option (Int) :=
  some v2
def f_X1_reach (p1 : Int) (M : Mem) : Option (Int) :=
  lt (bshl 1 p1) fun v2 =>
  lpr (f_X1_reach_l6 M v2 1) (fun s => f_X1_reach_j67 s.1 M) (fun q => some q)
def rm_X1_reach : Room := { frames := 1, cells := 0, slots := 0, locals := 24 }
def f_X1_wentBadly (p1 : Int) (M : Mem) : Option (Int) :=
  gd ((0 : Int) ≤ p1 ∧ (p1 : Int) < 14) <|
  if (M 14 p1.toNat) = (-1) then
    some 0
  else
    gd ((0 : Int) ≤ p1 ∧ (p1 : Int) < 14) <|
    gd ((0 : Int) ≤ p1 ∧ (p1 : Int) < 14) <|
    if 5 ≤ (wrap ((M 14 p1.toNat) + (M 15 p1.toNat))) then
      some 0
    else
      some 1
def rm_X1_wentBadly : Room := { frames := 0, cells := 0, slots := 0, locals := 0 }
def f_X1_addRegret (p1 : Int) (p2 : Int) (M : Mem) : Option (Mem) :=
  gd ((0 : Int) ≤ (wrap ((wrap (p1 * 14)) + p2)) ∧ ((wrap ((wrap (p1 * 14)) + p2)) : Int) < 196) <|
  lt ((if 99 < wrap ((M 13 (wrap ((wrap (p1 * 14)) + p2)).toNat) + 1) then 99 else wrap ((M 13 (wrap ((wrap (p1 * 14)) + p2)).toNat) + 1))) fun v3 =>
  gd ((0 : Int) ≤ (wrap ((wrap (p1 * 14)) + p2)) ∧ ((wrap ((wrap (p1 * 14)) + p2)) : Int) < 196) <|
  lt (mup M 13 (wrap ((wrap (p1 * 14)) + p2)).toNat v3) fun M_2 =>
  gd ((0 : Int) ≤ (wrap ((wrap (p2 * 14)) + p1)) ∧ ((wrap ((wrap (p2 * 14)) + p1)) : Int) < 196) <|
  lt (mup M_2 13 (wrap ((wrap (p2 * 14)) + p1)).toNat v3) fun M_3 =>
  some M_3
def rm_X1_addRegret : Room := { frames := 1, cells := 0, slots := 0, locals := 60 }
end
noncomputable section
def f_X5_learn_s10 (v1 : Int) (v2 : Int) (M : Mem) : Option ((Int × Mem) ⊕ (Int × Mem)) :=
  if (M 17 0) ≤ v2 then
    some (.inr (v2, M))
  else
    gd ((0 : Int) ≤ v2 ∧ (v2 : Int) < 300) <|
    if v1 < (M 22 v2.toNat) then
      lt (wrap (v2 + 1)) fun v2_2 =>
      some (.inl (v2_2, M))
    else
      gd ((0 : Int) ≤ v2 ∧ (v2 : Int) < 300) <|
      gd ((0 : Int) ≤ v2 ∧ (v2 : Int) < 300) <|
      gd ((0 : Int) ≤ v2 ∧ (v2 : Int) < 300) <|
      gd ((0 : Int) ≤ v2 ∧ (v2 : Int) < 300) <|
      gd ((0 : Int) ≤ (wrap ((wrap ((wrap ((wrap ((M 20 v2.toNat) * 4)) + (M 18 v2.toNat))) * 14)) + (M 19 v2.toNat))) ∧ ((wrap ((wrap ((wrap ((wrap ((M 20 v2.toNat) * 4)) + (M 18 v2.toNat))) * 14)) + (M 19 v2.toNat))) : Int) < 112) <|
      lt (mup M 23 (wrap ((wrap ((wrap ((wrap ((M 20 v2.toNat) * 4)) + (M 18 v2.toNat))) * 14)) + (M 19 v2.toNat))).toNat (M 21 v2.toNat)) fun M_2 =>
      lt (wrap (v2 + 1)) fun v2_3 =>
      some (.inl (v2_3, M_2))
def f_X5_learn_l10 (v1 : Int) (v2 : Int) (M : Mem) : Option (Int × Mem) := whl (fun s => f_X5_learn_s10 v1 s.1 s.2) FU (v2, M)
def f_X5_learn_j70 (M : Mem) : Option (Mem) :=
  some M
def f_X5_learn (p1 : Int) (M : Mem) : Option (Mem) :=
  obn (f_J7_fill_53178 23 (-1) M) fun M_2 =>
  obn (f_X5_learn_l10 p1 0 M_2) fun s => f_X5_learn_j70 s.2
def rm_X5_learn : Room := { frames := 1, cells := 0, slots := 0, locals := 23 }
def f_X5_scale_s38 (v2 : Int) (v4 : Int) (v5 : Int) (M : Mem) (v6 : Int) (v7 : Int) (v8 : Int) : Option ((Int × Int × Int) ⊕ (Int × Int × Int)) :=
  if 14 ≤ v8 then
    some (.inr (v6, v7, v8))
  else
    if v8 = v2 then
      lt (wrap (v8 + 1)) fun v8_2 =>
      some (.inl (v6, v7, v8_2))
    else
      gd ((0 : Int) ≤ (wrap (v4 + v8)) ∧ ((wrap (v4 + v8)) : Int) < 112) <|
      if (M 23 (wrap (v4 + v8)).toNat) = (-1) then
        lt (wrap (v8 + 1)) fun v8_3 =>
        some (.inl (v6, v7, v8_3))
      else
        lt (wrap (v7 + 1)) fun v7_2 =>
        gd ((0 : Int) ≤ (wrap (v4 + v8)) ∧ ((wrap (v4 + v8)) : Int) < 112) <|
        if v5 ≤ (M 23 (wrap (v4 + v8)).toNat) then
          lt (wrap (v8 + 1)) fun v8_4 =>
          some (.inl (v6, v7_2, v8_4))
        else
          lt (wrap (v6 + 1)) fun v6_2 =>
          lt (wrap (v8 + 1)) fun v8_5 =>
          some (.inl (v6_2, v7_2, v8_5))
def f_X5_scale_l38 (v2 : Int) (v4 : Int) (v5 : Int) (M : Mem) (v6 : Int) (v7 : Int) (v8 : Int) : Option (Int × Int × Int) := whl (fun s => f_X5_scale_s38 v2 v4 v5 M s.1 s.2.1 s.2.2) FU (v6, v7, v8)
def f_X5_scale_j92 (v6 : Int) (v7 : Int) (M : Mem) : Option (Int) :=
  if v7 = 0 then
    some 5
  else
    gd (¬ v7 = 0) <|
    some (jdiv (wrap (10 * v6)) v7)
def f_X5_scale (p1 : Int) (p2 : Int) (p3 : Int) (M : Mem) : Option (Int) :=
  lt (wrap ((wrap ((wrap (p3 * 4)) + p1)) * 14)) fun v4 =>
  gd ((0 : Int) ≤ (wrap (v4 + p2)) ∧ ((wrap (v4 + p2)) : Int) < 112) <|
  lt (M 23 (wrap (v4 + p2)).toNat) fun v5 =>
  if v5 = (-1) then
    some (-1)
  else
    obn (f_X5_scale_l38 p2 v4 v5 M 0 0 0) fun s => f_X5_scale_j92 s.1 s.2.1 M
def rm_X5_scale : Room := { frames := 0, cells := 0, slots := 0, locals := 0 }
def f_X5_overall_s8 (v1 : Int) (v2 : Int) (M : Mem) (v3 : Int) (v4 : Int) (v5 : Int) : Option ((Int × Int × Int) ⊕ (Int × Int × Int)) :=
  if 4 ≤ v5 then
    some (.inr (v3, v4, v5))
  else
    obn (f_X5_scale v5 v1 v2 M) fun r =>
    if r = (-1) then
      lt (wrap (v5 + 1)) fun v5_2 =>
      some (.inl (v3, v4, v5_2))
    else
      lt (wrap (v3 + r)) fun v3_2 =>
      lt (wrap (v4 + 1)) fun v4_2 =>
      lt (wrap (v5 + 1)) fun v5_3 =>
      some (.inl (v3_2, v4_2, v5_3))
def f_X5_overall_l8 (v1 : Int) (v2 : Int) (M : Mem) (v3 : Int) (v4 : Int) (v5 : Int) : Option (Int × Int × Int) := whl (fun s => f_X5_overall_s8 v1 v2 M s.1 s.2.1 s.2.2) FU (v3, v4, v5)
def f_X5_overall_j44 (v3 : Int) (v4 : Int) (M : Mem) : Option (Int) :=
  if v4 = 0 then
    some (-1)
  else
    gd (¬ v4 = 0) <|
    some (jdiv v3 v4)
def f_X5_overall (p1 : Int) (p2 : Int) (M : Mem) : Option (Int) :=
  obn (f_X5_overall_l8 p1 p2 M 0 0 0) fun s => f_X5_overall_j44 s.1 s.2.1 M
def rm_X5_overall : Room := { frames := 1, cells := 0, slots := 0, locals := 28 }
def f_X5_level (p1 : Int) (p2 : Int) (M : Mem) : Option (Int) :=
  obn (f_X5_overall p1 p2 M) fun r =>
  if r = (-1) then
    some 5
  else
    some r
def rm_X5_level : Room := { frames := 2, cells := 0, slots := 0, locals := 54 }
def f_X5_add (p1 : Int) (p2 : Int) (p3 : Int) (p4 : Int) (p5 : Int) (M : Mem) : Option (Int × Mem) :=
  if (M 17 0) < 300 then
    gd ((0 : Int) ≤ (M 17 0) ∧ ((M 17 0) : Int) < 300) <|
    lt (mup M 18 (M 17 0).toNat p1) fun M_2 =>
    gd ((0 : Int) ≤ (M_2 17 0) ∧ ((M_2 17 0) : Int) < 300) <|
    lt (mup M_2 19 (M_2 17 0).toNat p2) fun M_3 =>
    gd ((0 : Int) ≤ (M_3 17 0) ∧ ((M_3 17 0) : Int) < 300) <|
    lt (mup M_3 20 (M_3 17 0).toNat p3) fun M_4 =>
    gd ((0 : Int) ≤ (M_4 17 0) ∧ ((M_4 17 0) : Int) < 300) <|
    lt (mup M_4 21 (M_4 17 0).toNat p4) fun M_5 =>
    gd ((0 : Int) ≤ (M_5 17 0) ∧ ((M_5 17 0) : Int) < 300) <|
    lt (mup M_5 22 (M_5 17 0).toNat p5) fun M_6 =>
    lt (mup M_6 17 0 (wrap ((M_6 17 0) + 1))) fun M_7 =>
    some (1, M_7)
  else
    some (0, M)
def rm_X5_add : Room := { frames := 0, cells := 0, slots := 0, locals := 0 }
end
noncomputable section
def f_X7_twinsHow_s5 (r0 : Int) (M : Mem) (v1 : Int) (v2 : Int) : Option ((Int × Int) ⊕ (Int × Int)) :=
  if (M r0.toNat 0) ≤ v2 then
    some (.inr (v1, v2))
  else
    gd ((0 : Int) ≤ v2 ∧ (v2 : Int) < 16) <|
    if (M (r0.toNat + 1) v2.toNat) = 16 then
      gd ((0 : Int) ≤ v2 ∧ (v2 : Int) < 16) <|
      lt (M (r0.toNat + 3) v2.toNat) fun v1_2 =>
      lt (wrap (v2 + 1)) fun v2_3 =>
      some (.inl (v1_2, v2_3))
    else
      lt (wrap (v2 + 1)) fun v2_2 =>
      some (.inl (v1, v2_2))
def f_X7_twinsHow_l5 (r0 : Int) (M : Mem) (v1 : Int) (v2 : Int) : Option (Int × Int) := whl (fun s => f_X7_twinsHow_s5 r0 M s.1 s.2) FU (v1, v2)
def f_X7_twinsHow_j37 (r0 : Int) (v1 : Int) (M : Mem) : Option (Int) :=
  some v1
def f_X7_twinsHow (r0 : Int) (M : Mem) : Option (Int) :=
  obn (f_X7_twinsHow_l5 r0 M 18 0) fun s => f_X7_twinsHow_j37 r0 s.1 M
def rm_X7_twinsHow : Room := { frames := 0, cells := 0, slots := 0, locals := 0 }
def f_X7_termsUse_s2 (r0 : Int) (v1 : Int) (v2 : Int) (M : Mem) (v3 : Int) : Option ((Int) ⊕ ((Int) ⊕ (Int))) :=
  gd ((0 : Int) ≤ v1 ∧ (v1 : Int) < 32) <|
  if (M (r0.toNat + 4) v1.toNat) ≤ v3 then
    some (.inr (.inl v3))
  else
    gd ((0 : Int) ≤ (wrap ((wrap (v1 * 4)) + v3)) ∧ ((wrap ((wrap (v1 * 4)) + v3)) : Int) < 128) <|
    if (M (r0.toNat + 6) (wrap ((wrap (v1 * 4)) + v3)).toNat) = v2 then
      some (.inr (.inr 1))
    else
      lt (wrap (v3 + 1)) fun v3_2 =>
      some (.inl v3_2)
def f_X7_termsUse_l2 (r0 : Int) (v1 : Int) (v2 : Int) (M : Mem) (v3 : Int) : Option ((Int) ⊕ (Int)) := whl (fun s => f_X7_termsUse_s2 r0 v1 v2 M s) FU v3
def f_X7_termsUse_j34 (r0 : Int) (M : Mem) : Option (Int) :=
  some 0
def f_X7_termsUse (r0 : Int) (p1 : Int) (p2 : Int) (M : Mem) : Option (Int) :=
  lpr (f_X7_termsUse_l2 r0 p1 p2 M 0) (fun s => f_X7_termsUse_j34 r0 M) (fun q => some q)
def rm_X7_termsUse : Room := { frames := 0, cells := 0, slots := 0, locals := 0 }
def f_X7_uses_s2 (r0 : Int) (v1 : Int) (M : Mem) (v2 : Int) : Option ((Int) ⊕ ((Int) ⊕ (Int))) :=
  if (M r0.toNat 0) ≤ v2 then
    some (.inr (.inl v2))
  else
    gd ((0 : Int) ≤ v2 ∧ (v2 : Int) < 16) <|
    if (M (r0.toNat + 1) v2.toNat) = 9 then
      gd ((0 : Int) ≤ v2 ∧ (v2 : Int) < 16) <|
      if (M (r0.toNat + 3) v2.toNat) = v1 then
        some (.inr (.inr 1))
      else
        obn (f_X7_termsUse r0 (wrap (2 * v2)) v1 M) fun r_3 =>
        if r_3 = 0 then
          obn (f_X7_termsUse r0 (wrap ((wrap (2 * v2)) + 1)) v1 M) fun r_4 =>
          if r_4 = 0 then
            lt (wrap (v2 + 1)) fun v2_3 =>
            some (.inl v2_3)
          else
            some (.inr (.inr 1))
        else
          some (.inr (.inr 1))
    else
      obn (f_X7_termsUse r0 (wrap (2 * v2)) v1 M) fun r =>
      if r = 0 then
        obn (f_X7_termsUse r0 (wrap ((wrap (2 * v2)) + 1)) v1 M) fun r_2 =>
        if r_2 = 0 then
          lt (wrap (v2 + 1)) fun v2_2 =>
          some (.inl v2_2)
        else
          some (.inr (.inr 1))
      else
        some (.inr (.inr 1))
def f_X7_uses_l2 (r0 : Int) (v1 : Int) (M : Mem) (v2 : Int) : Option ((Int) ⊕ (Int)) := whl (fun s => f_X7_uses_s2 r0 v1 M s) FU v2
def f_X7_uses_j63 (r0 : Int) (M : Mem) : Option (Int) :=
  some 0
def f_X7_uses (r0 : Int) (p1 : Int) (M : Mem) : Option (Int) :=
  lpr (f_X7_uses_l2 r0 p1 M 0) (fun s => f_X7_uses_j63 r0 M) (fun q => some q)
def rm_X7_uses : Room := { frames := 1, cells := 0, slots := 0, locals := 23 }
def f_X7_clear (r0 : Int) (M : Mem) : Option (Mem) :=
  lt (mup M r0.toNat 0 0) fun M_2 =>
  obn (f_J7_fill_53178 (r0.toNat + 4) 0 M_2) fun M_3 =>
  some M_3
def rm_X7_clear : Room := { frames := 1, cells := 0, slots := 0, locals := 23 }
def f_X7_takesTerms (r0 : Int) (p1 : Int) (p2 : Int) (M : Mem) : Option (Int) :=
  gd ((0 : Int) ≤ p1 ∧ (p1 : Int) < 16) <|
  if (M (r0.toNat + 1) p1.toNat) < 8 ∨ 15 < (M (r0.toNat + 1) p1.toNat) then
    some 0
  else if (M (r0.toNat + 1) p1.toNat) = 8 then
    if p2 = 0 then
      some 1
    else
      some 0
  else if (M (r0.toNat + 1) p1.toNat) = 9 then
    some 0
  else if (M (r0.toNat + 1) p1.toNat) = 10 then
    some 0
  else if (M (r0.toNat + 1) p1.toNat) = 11 then
    if p2 = 0 then
      some 1
    else
      some 0
  else if (M (r0.toNat + 1) p1.toNat) = 12 then
    some 0
  else if (M (r0.toNat + 1) p1.toNat) = 13 then
    some 1
  else if (M (r0.toNat + 1) p1.toNat) = 14 then
    if p2 = 0 then
      some 1
    else
      some 0
  else if (M (r0.toNat + 1) p1.toNat) = 15 then
    if p2 = 0 then
      some 1
    else
      some 0
  else none
def rm_X7_takesTerms : Room := { frames := 0, cells := 0, slots := 0, locals := 0 }
end
noncomputable section
def f_X0_write_s3 (p1 : Nat) (v2 : Int) (v3 : Int) (v4 : Int) (M : Mem) : Option ((Int × Mem) ⊕ (Int × Mem)) :=
  if v2 ≤ v4 then
    some (.inr (v4, M))
  else
    if 400 ≤ (M 57 0) then
      some (.inr (v4, M))
    else
      gd ((0 : Int) ≤ v4 ∧ (v4 : Int) < (aln p1 : Int)) <|
      gd ((0 : Int) ≤ v4 ∧ (v4 : Int) < 14) <|
      if (M p1 v4.toNat) = (M 61 v4.toNat) then
        lt (wrap (v4 + 1)) fun v4_2 =>
        some (.inl (v4_2, M))
      else
        gd ((0 : Int) ≤ (M 57 0) ∧ ((M 57 0) : Int) < 400) <|
        lt (mup M 58 (M 57 0).toNat v4) fun M_2 =>
        gd ((0 : Int) ≤ v4 ∧ (v4 : Int) < (aln p1 : Int)) <|
        gd ((0 : Int) ≤ (M_2 57 0) ∧ ((M_2 57 0) : Int) < 400) <|
        lt (mup M_2 59 (M_2 57 0).toNat (M_2 p1 v4.toNat)) fun M_3 =>
        gd ((0 : Int) ≤ (M_3 57 0) ∧ ((M_3 57 0) : Int) < 400) <|
        lt (mup M_3 60 (M_3 57 0).toNat v3) fun M_4 =>
        gd ((0 : Int) ≤ v4 ∧ (v4 : Int) < (aln p1 : Int)) <|
        gd ((0 : Int) ≤ v4 ∧ (v4 : Int) < 14) <|
        lt (mup M_4 61 v4.toNat (M_4 p1 v4.toNat)) fun M_5 =>
        lt (mup M_5 57 0 (wrap ((M_5 57 0) + 1))) fun M_6 =>
        lt (wrap (v4 + 1)) fun v4_3 =>
        some (.inl (v4_3, M_6))
def f_X0_write_l3 (p1 : Nat) (v2 : Int) (v3 : Int) (v4 : Int) (M : Mem) : Option (Int × Mem) := whl (fun s => f_X0_write_s3 p1 v2 v3 s.1 s.2) FU (v4, M)
def f_X0_write_j94 (p1 : Nat) (M : Mem) : Option (Mem) :=
  some M
def f_X0_write (p1 : Nat) (p2 : Int) (p3 : Int) (M : Mem) : Option (Mem) :=
  obn (f_X0_write_l3 p1 p2 p3 0 M) fun s => f_X0_write_j94 p1 s.2
def rm_X0_write : Room := { frames := 0, cells := 0, slots := 0, locals := 0 }
def f_X0_seatAt_s5 (v1 : Int) (v2 : Int) (M : Mem) (v3 : Int) (v4 : Int) : Option ((Int × Int) ⊕ (Int × Int)) :=
  if (M 57 0) ≤ v4 then
    some (.inr (v3, v4))
  else
    gd ((0 : Int) ≤ v4 ∧ (v4 : Int) < 400) <|
    if (M 58 v4.toNat) = v1 then
      gd ((0 : Int) ≤ v4 ∧ (v4 : Int) < 400) <|
      if v2 < (M 60 v4.toNat) then
        lt (wrap (v4 + 1)) fun v4_3 =>
        some (.inl (v3, v4_3))
      else
        gd ((0 : Int) ≤ v4 ∧ (v4 : Int) < 400) <|
        lt (M 59 v4.toNat) fun v3_2 =>
        lt (wrap (v4 + 1)) fun v4_4 =>
        some (.inl (v3_2, v4_4))
    else
      lt (wrap (v4 + 1)) fun v4_2 =>
      some (.inl (v3, v4_2))
def f_X0_seatAt_l5 (v1 : Int) (v2 : Int) (M : Mem) (v3 : Int) (v4 : Int) : Option (Int × Int) := whl (fun s => f_X0_seatAt_s5 v1 v2 M s.1 s.2) FU (v3, v4)
def f_X0_seatAt_j50 (v3 : Int) (M : Mem) : Option (Int) :=
  some v3
def f_X0_seatAt (p1 : Int) (p2 : Int) (M : Mem) : Option (Int) :=
  obn (f_X0_seatAt_l5 p1 p2 M (-1) 0) fun s => f_X0_seatAt_j50 s.1 M
def rm_X0_seatAt : Room := { frames := 0, cells := 0, slots := 0, locals := 0 }
end
noncomputable section
def f_X3_add (p1 : Int) (M : Mem) : Option (Int × Mem) :=
  if (M 51 0) < 6 then
    gd ((0 : Int) ≤ (M 51 0) ∧ ((M 51 0) : Int) < 6) <|
    lt (mup M 52 (M 51 0).toNat p1) fun M_2 =>
    lt (mup M_2 51 0 (wrap ((M_2 51 0) + 1))) fun M_3 =>
    some ((wrap ((M_3 51 0) - 1)), M_3)
  else
    some ((-1), M)
def rm_X3_add : Room := { frames := 0, cells := 0, slots := 0, locals := 0 }
def f_X3_clear (M : Mem) : Option (Mem) :=
  obn (f_J7_fill_53178 53 0 M) fun M_2 =>
  some M_2
def rm_X3_clear : Room := { frames := 1, cells := 0, slots := 0, locals := 23 }
def f_X3_addNeed (p1 : Int) (p2 : Int) (M : Mem) : Option (Mem) :=
  if p1 < 0 then
    some M
  else
    if 3 ≤ p1 then
      some M
    else
      gd ((0 : Int) ≤ p1 ∧ (p1 : Int) < 3) <|
      gd ((0 : Int) ≤ p1 ∧ (p1 : Int) < 3) <|
      lt (mup M 53 p1.toNat (wrap ((M 53 p1.toNat) + p2))) fun M_2 =>
      some M_2
def rm_X3_addNeed : Room := { frames := 0, cells := 0, slots := 0, locals := 0 }
def f_X3_lackOfWay_s24 (v2 : Int) (v3 : Int) (v4 : Int) (M : Mem) : Option ((Int × Int × Mem) ⊕ (Int × Int × Mem)) :=
  if v4 < 0 then
    some (.inr (v3, v4, M))
  else
    if v2 ≤ 0 then
      some (.inr (v3, v4, M))
    else
      gd (¬ v2 = 0) <|
      lt (jrem v3 v2) fun v5 =>
      gd (¬ v2 = 0) <|
      lt (jdiv v3 v2) fun v3_2 =>
      gd ((0 : Int) ≤ v4 ∧ (v4 : Int) < 6) <|
      lt (mup M 55 v4.toNat v5) fun M_2 =>
      gd ((0 : Int) ≤ v5 ∧ (v5 : Int) < 3) <|
      gd ((0 : Int) ≤ v4 ∧ (v4 : Int) < 6) <|
      gd ((0 : Int) ≤ v5 ∧ (v5 : Int) < 3) <|
      lt (mup M_2 54 v5.toNat (wrap ((M_2 54 v5.toNat) - (M_2 52 v4.toNat)))) fun M_3 =>
      lt (wrap (v4 + (-1))) fun v4_2 =>
      some (.inl (v3_2, v4_2, M_3))
def f_X3_lackOfWay_l24 (v2 : Int) (v3 : Int) (v4 : Int) (M : Mem) : Option (Int × Int × Mem) := whl (fun s => f_X3_lackOfWay_s24 v2 s.1 s.2.1 s.2.2) FU (v3, v4, M)
def f_X3_lackOfWay_s80 (M : Mem) (v4 : Int) (v5 : Int) : Option ((Int × Int) ⊕ (Int × Int)) :=
  if 3 ≤ v5 then
    some (.inr (v4, v5))
  else
    gd ((0 : Int) ≤ v5 ∧ (v5 : Int) < 3) <|
    lt (wrap (v4 + (if 0 < M 54 v5.toNat then M 54 v5.toNat else 0))) fun v4_2 =>
    lt (wrap (v5 + 1)) fun v5_2 =>
    some (.inl (v4_2, v5_2))
def f_X3_lackOfWay_l80 (M : Mem) (v4 : Int) (v5 : Int) : Option (Int × Int) := whl (fun s => f_X3_lackOfWay_s80 M s.1 s.2) FU (v4, v5)
def f_X3_lackOfWay_j108 (v4 : Int) (M : Mem) : Option (Int × Mem) :=
  some (v4, M)
def f_X3_lackOfWay_j74 (M : Mem) : Option (Int × Mem) :=
  obn (f_X3_lackOfWay_l80 M 0 0) fun s => f_X3_lackOfWay_j108 s.1 M
def f_X3_lackOfWay (p1 : Int) (p2 : Int) (M : Mem) : Option (Int × Mem) :=
  gd ((0 : Int) ≤ 0 ∧ (0 : Int) ≤ 0 ∧ (0 : Int) ≤ 3 ∧ (0 : Int) + 3 ≤ 3 ∧ (0 : Int) + 3 ≤ 3) <|
  lt (mcp M 53 0 54 0 3) fun M_2 =>
  lt (wrap ((M_2 51 0) - 1)) fun v4 =>
  obn (f_X3_lackOfWay_l24 p2 p1 v4 M_2) fun s => f_X3_lackOfWay_j74 s.2.2
def rm_X3_lackOfWay : Room := { frames := 1, cells := 0, slots := 0, locals := 60 }
def f_X3_divide_s4 (v1 : Int) (M : Mem) (v2 : Int) (v3 : Int) : Option ((Int × Int) ⊕ (Int × Int)) :=
  if (M 51 0) ≤ v3 then
    some (.inr (v2, v3))
  else
    lt (wrap (v2 * v1)) fun v2_2 =>
    lt (wrap (v3 + 1)) fun v3_2 =>
    some (.inl (v2_2, v3_2))
def f_X3_divide_l4 (v1 : Int) (M : Mem) (v2 : Int) (v3 : Int) : Option (Int × Int) := whl (fun s => f_X3_divide_s4 v1 M s.1 s.2) FU (v2, v3)
def f_X3_divide_s24 (v1 : Int) (v2 : Int) (v3 : Int) (M : Mem) : Option ((Int × Mem) ⊕ (Int × Mem)) :=
  if v2 ≤ v3 then
    some (.inr (v3, M))
  else
    bnd (f_X3_lackOfWay v3 v1 M) fun r M_2 =>
    if v3 = 0 then
      lt (mup M_2 51 6 r) fun M_3 =>
      gd ((0 : Int) ≤ 0 ∧ (0 : Int) ≤ 0 ∧ (0 : Int) ≤ M_3 51 0 ∧ (0 : Int) + M_3 51 0 ≤ 6 ∧ (0 : Int) + M_3 51 0 ≤ 6) <|
      lt (mcp M_3 55 0 56 0 (M_3 51 0)) fun M_4 =>
      lt (wrap (v3 + 1)) fun v3_2 =>
      some (.inl (v3_2, M_4))
    else
      if (M_2 51 6) ≤ r then
        lt (wrap (v3 + 1)) fun v3_3 =>
        some (.inl (v3_3, M_2))
      else
        lt (mup M_2 51 6 r) fun M_5 =>
        gd ((0 : Int) ≤ 0 ∧ (0 : Int) ≤ 0 ∧ (0 : Int) ≤ M_5 51 0 ∧ (0 : Int) + M_5 51 0 ≤ 6 ∧ (0 : Int) + M_5 51 0 ≤ 6) <|
        lt (mcp M_5 55 0 56 0 (M_5 51 0)) fun M_6 =>
        lt (wrap (v3 + 1)) fun v3_4 =>
        some (.inl (v3_4, M_6))
def f_X3_divide_l24 (v1 : Int) (v2 : Int) (v3 : Int) (M : Mem) : Option (Int × Mem) := whl (fun s => f_X3_divide_s24 v1 v2 s.1 s.2) FU (v3, M)
def f_X3_divide_j79 (M : Mem) : Option (Mem) :=
  some M
def f_X3_divide_j22 (v1 : Int) (v2 : Int) (M : Mem) : Option (Mem) :=
  obn (f_X3_divide_l24 v1 v2 0 M) fun s => f_X3_divide_j79 s.2
def f_X3_divide (p1 : Int) (M : Mem) : Option (Mem) :=
  obn (f_X3_divide_l4 p1 M 1 0) fun s => f_X3_divide_j22 p1 s.1 M
def rm_X3_divide : Room := { frames := 2, cells := 0, slots := 0, locals := 85 }
end
noncomputable section
def f_X9_hasSpace (p1 : Int) (M : Mem) : Option (Int) :=
  if 400 < (wrap ((M 24 0) + p1)) then
    some 0
  else
    some 1
def rm_X9_hasSpace : Room := { frames := 0, cells := 0, slots := 0, locals := 0 }
def f_X9_append_s3 (v1 : Int) (v2 : Int) (M : Mem) : Option ((Int × Mem) ⊕ (Int × Mem)) :=
  if v2 < 0 then
    some (.inr (v2, M))
  else
    if 400 ≤ (M 24 0) then
      some (.inr (v2, M))
    else
      gd ((0 : Int) ≤ (M 24 0) ∧ ((M 24 0) : Int) < 400) <|
      gd (0 ≤ (jchar (band (bshr v1 v2) 255)) ∧ (jchar (band (bshr v1 v2) 255)) < 65536) <|
      lt (mup M 25 (M 24 0).toNat (jchar (band (bshr v1 v2) 255))) fun M_2 =>
      lt (mup M_2 24 0 (wrap ((M_2 24 0) + 1))) fun M_3 =>
      lt (wrap (v2 + (-8))) fun v2_2 =>
      some (.inl (v2_2, M_3))
def f_X9_append_l3 (v1 : Int) (v2 : Int) (M : Mem) : Option (Int × Mem) := whl (fun s => f_X9_append_s3 v1 s.1 s.2) FU (v2, M)
def f_X9_append_j50 (M : Mem) : Option (Mem) :=
  some M
def f_X9_append (p1 : Int) (M : Mem) : Option (Mem) :=
  obn (f_X9_append_l3 p1 24 M) fun s => f_X9_append_j50 s.2
def rm_X9_append : Room := { frames := 0, cells := 0, slots := 0, locals := 0 }
def f_X9_isLetter (p0 : Int) (M : Mem) : Option (Int) :=
  if p0 < 97 then
    some 0
  else
    if 122 < p0 then
      some 0
    else
      some 1
def rm_X9_isLetter : Room := { frames := 0, cells := 0, slots := 0, locals := 0 }
def f_X9_wordCode_s8 (v1 : Int) (v2 : Int) (v3 : Int) (v4 : Int) (v5 : Int) (M : Mem) : Option ((Int × Int × Int × Mem) ⊕ ((Int × Int × Int × Mem) ⊕ (Int × Mem))) :=
  if (sLen 0 : Int) ≤ v5 then
    some (.inr (.inl (v3, v4, v5, M)))
  else
    gd (0 ≤ v5 ∧ v5 < (sLen 0 : Int)) <|
    lt (sAt 0 v5.toNat) fun v6 =>
    if v6 = 32 then
      if v4 = v2 then
        some (.inr (.inr (v3, M)))
      else
        lt (wrap (v3 + 1)) fun v3_2 =>
        lt (wrap (v5 + 1)) fun v5_6 =>
        some (.inl (v3_2, 0, v5_6, M))
    else
      if v4 < 0 then
        lt (wrap (v5 + 1)) fun v5_2 =>
        some (.inl (v3, (-1), v5_2, M))
      else
        if v2 ≤ v4 then
          lt (wrap (v5 + 1)) fun v5_3 =>
          some (.inl (v3, (-1), v5_3, M))
        else
          gd ((0 : Int) ≤ (wrap (v1 + v4)) ∧ ((wrap (v1 + v4)) : Int) < 400) <|
          if (M 25 (wrap (v1 + v4)).toNat) = v6 then
            lt (wrap (v4 + 1)) fun v4_2 =>
            lt (wrap (v5 + 1)) fun v5_5 =>
            some (.inl (v3, v4_2, v5_5, M))
          else
            lt (wrap (v5 + 1)) fun v5_4 =>
            some (.inl (v3, (-1), v5_4, M))
def f_X9_wordCode_l8 (v1 : Int) (v2 : Int) (v3 : Int) (v4 : Int) (v5 : Int) (M : Mem) : Option ((Int × Int × Int × Mem) ⊕ (Int × Mem)) := whl (fun s => f_X9_wordCode_s8 v1 v2 s.1 s.2.1 s.2.2.1 s.2.2.2) FU (v3, v4, v5, M)
def f_X9_wordCode_j91 (M : Mem) : Option (Int × Mem) :=
  some ((-2), M)
def f_X9_wordCode (p1 : Int) (p2 : Int) (M : Mem) : Option (Int × Mem) :=
  lpr (f_X9_wordCode_l8 p1 p2 0 0 0 M) (fun s => f_X9_wordCode_j91 s.2.2.2) (fun q => some q)
def rm_X9_wordCode : Room := { frames := 6, cells := 0, slots := 0, locals := 200 }
def f_X9_add (p1 : Int) (p2 : Int) (p3 : Int) (M : Mem) : Option (Mem) :=
  if 401 ≤ (M 24 2) then
    some M
  else
    gd ((0 : Int) ≤ (M 24 2) ∧ ((M 24 2) : Int) < 401) <|
    lt (mup M 26 (M 24 2).toNat p1) fun M_2 =>
    gd ((0 : Int) ≤ (M_2 24 2) ∧ ((M_2 24 2) : Int) < 401) <|
    lt (mup M_2 27 (M_2 24 2).toNat p2) fun M_3 =>
    gd ((0 : Int) ≤ (M_3 24 2) ∧ ((M_3 24 2) : Int) < 401) <|
    lt (mup M_3 28 (M_3 24 2).toNat p3) fun M_4 =>
    lt (mup M_4 24 2 (wrap ((M_4 24 2) + 1))) fun M_5 =>
    some M_5
def rm_X9_add : Room := { frames := 0, cells := 0, slots := 0, locals := 0 }
def f_X9_isDigit (p0 : Int) (M : Mem) : Option (Int) :=
  if p0 < 48 then
    some 0
  else
    if 57 < p0 then
      some 0
    else
      some 1
def rm_X9_isDigit : Room := { frames := 0, cells := 0, slots := 0, locals := 0 }
def f_X9_scanNumber_s4 (v1 : Int) (M : Mem) (v2 : Int) (v3 : Int) : Option ((Int × Int) ⊕ (Int × Int)) :=
  if (M 24 0) ≤ v3 then
    some (.inr (v2, v3))
  else
    gd ((0 : Int) ≤ v3 ∧ (v3 : Int) < 400) <|
    obn (f_X9_isDigit (M 25 v3.toNat) M) fun r =>
    if r = 0 then
      some (.inr (v2, v3))
    else
      if (wrap (v1 + 2)) ≤ v3 then
        lt (wrap (v3 + 1)) fun v3_2 =>
        some (.inl (v2, v3_2))
      else
        gd ((0 : Int) ≤ v3 ∧ (v3 : Int) < 400) <|
        lt (wrap ((wrap ((wrap (10 * v2)) + (M 25 v3.toNat))) - 48)) fun v2_2 =>
        lt (wrap (v3 + 1)) fun v3_3 =>
        some (.inl (v2_2, v3_3))
def f_X9_scanNumber_l4 (v1 : Int) (M : Mem) (v2 : Int) (v3 : Int) : Option (Int × Int) := whl (fun s => f_X9_scanNumber_s4 v1 M s.1 s.2) FU (v2, v3)
def f_X9_scanNumber_j52 (v1 : Int) (v2 : Int) (v3 : Int) (M : Mem) : Option (Int × Mem) :=
  if v3 ≤ (wrap (v1 + 2)) then
    obn (f_X9_add (-3) v1 v2 M) fun M_2 =>
    some ((wrap (v3 - v1)), M_2)
  else
    obn (f_X9_add (-2) v1 v2 M) fun M_3 =>
    some ((wrap (v3 - v1)), M_3)
def f_X9_scanNumber (p1 : Int) (M : Mem) : Option (Int × Mem) :=
  obn (f_X9_scanNumber_l4 p1 M 0 p1) fun s => f_X9_scanNumber_j52 p1 s.1 s.2 M
def rm_X9_scanNumber : Room := { frames := 1, cells := 0, slots := 0, locals := 23 }
def f_X9_scanToken_j108 (v1 : Int) (v2 : Int) (s0 : Int) (M : Mem) : Option (Int × Mem) :=
  if s0 = 0 then
    obn (f_X9_add (-2) v1 0 M) fun M_2 =>
    some (1, M_2)
  else
    obn (f_X9_add v2 v1 0 M) fun M_3 =>
    some (1, M_3)
def f_X9_scanToken_s16 (v1 : Int) (M : Mem) (v3 : Int) : Option ((Int) ⊕ (Int)) :=
  if (M 24 0) ≤ v3 then
    some (.inr v3)
  else
    gd ((0 : Int) ≤ v3 ∧ (v3 : Int) < 400) <|
    obn (f_X9_isLetter (M 25 v3.toNat) M) fun r =>
    if r = 0 then
      some (.inr v3)
    else
      lt (wrap (v3 + 1)) fun v3_2 =>
      some (.inl v3_2)
def f_X9_scanToken_l16 (v1 : Int) (M : Mem) (v3 : Int) : Option (Int) := whl (fun s => f_X9_scanToken_s16 v1 M s) FU v3
def f_X9_scanToken_j42 (v1 : Int) (v3 : Int) (M : Mem) : Option (Int × Mem) :=
  bnd (f_X9_wordCode v1 (wrap (v3 - v1)) M) fun r M_2 =>
  obn (f_X9_add r v1 0 M_2) fun M_3 =>
  some ((wrap (v3 - v1)), M_3)
def f_X9_scanToken (p1 : Int) (M : Mem) : Option (Int × Mem) :=
  gd ((0 : Int) ≤ p1 ∧ (p1 : Int) < 400) <|
  lt (M 25 p1.toNat) fun v2 =>
  obn (f_X9_isLetter v2 M) fun r =>
  if r = 0 then
    obn (f_X9_isDigit v2 M) fun r_2 =>
    if r_2 = 0 then
      if v2 = 59 then
        f_X9_scanToken_j108 p1 v2 1 M
      else
        if v2 = 58 then
          f_X9_scanToken_j108 p1 v2 1 M
        else
          if v2 = 60 then
            f_X9_scanToken_j108 p1 v2 1 M
          else
            if v2 = 61 then
              f_X9_scanToken_j108 p1 v2 1 M
            else
              if v2 = 62 then
                f_X9_scanToken_j108 p1 v2 1 M
              else
                f_X9_scanToken_j108 p1 v2 0 M
    else
      bnd (f_X9_scanNumber p1 M) fun r_3 M_2 =>
      some (r_3, M_2)
  else
    obn (f_X9_scanToken_l16 p1 M p1) fun s => f_X9_scanToken_j42 p1 s M
def rm_X9_scanToken : Room := { frames := 7, cells := 0, slots := 0, locals := 226 }
def f_X9_scan_j44k9 (v2 : Int) (s0 : Int) (M : Mem) : Option ((Int × Mem) ⊕ (Int × Mem)) :=
  if s0 = 0 then
    bnd (f_X9_scanToken v2 M) fun r M_2 =>
    lt (wrap (v2 + (if 1 < r then r else 1))) fun v2_2 =>
    some (.inl (v2_2, M_2))
  else
    lt (wrap (v2 + (if 1 < 1 then 1 else 1))) fun v2_3 =>
    some (.inl (v2_3, M))
def f_X9_scan_s9 (v2 : Int) (M : Mem) : Option ((Int × Mem) ⊕ (Int × Mem)) :=
  if (M 24 0) ≤ v2 then
    some (.inr (v2, M))
  else
    gd ((0 : Int) ≤ v2 ∧ (v2 : Int) < 400) <|
    if (M 25 v2.toNat) = 32 then
      f_X9_scan_j44k9 v2 1 M
    else
      gd ((0 : Int) ≤ v2 ∧ (v2 : Int) < 400) <|
      if (M 25 v2.toNat) = 10 then
        f_X9_scan_j44k9 v2 1 M
      else
        f_X9_scan_j44k9 v2 0 M
def f_X9_scan_l9 (v2 : Int) (M : Mem) : Option (Int × Mem) := whl (fun s => f_X9_scan_s9 s.1 s.2) FU (v2, M)
def f_X9_scan_j70 (M : Mem) : Option (Mem) :=
  obn (f_X9_add (-1) (M 24 0) 0 M) fun M_2 =>
  some M_2
def f_X9_scan (M : Mem) : Option (Mem) :=
  lt (mup M 24 2 0) fun M_2 =>
  obn (f_X9_scan_l9 0 M_2) fun s => f_X9_scan_j70 s.2
def rm_X9_scan : Room := { frames := 8, cells := 0, slots := 0, locals := 249 }
end
noncomputable section
def f_X4_traitOf (p1 : Int) (p2 : Int) (M : Mem) : Option (Int) :=
  if p1 < 0 ∨ 5 < p1 then
    obn (f_X1_naming p2 M) fun r =>
    some r
  else if p1 = 0 then
    gd ((0 : Int) ≤ p2 ∧ (p2 : Int) < 14) <|
    some (M 4 p2.toNat)
  else if p1 = 1 then
    gd ((0 : Int) ≤ p2 ∧ (p2 : Int) < 14) <|
    some (M 5 p2.toNat)
  else if p1 = 2 then
    obn (f_X5_level p2 0 M) fun r_2 =>
    some r_2
  else if p1 = 3 then
    obn (f_X5_level p2 1 M) fun r_3 =>
    some r_3
  else if p1 = 4 then
    gd ((0 : Int) ≤ p2 ∧ (p2 : Int) < 14) <|
    some (M 8 p2.toNat)
  else if p1 = 5 then
    obn (f_X1_toldWishes p2 M) fun r_4 =>
    some r_4
  else none
def rm_X4_traitOf : Room := { frames := 3, cells := 0, slots := 0, locals := 77 }
def f_X4_meetsTerm (p1 : Int) (p2 : Int) (M : Mem) : Option (Int) :=
  gd (isRu (M 30 2)) <|
  gd ((0 : Int) ≤ p1 ∧ (p1 : Int) < 128) <|
  lt (M ((M 30 2).toNat + 6) p1.toNat) fun v3 =>
  gd (isRu (M 30 2)) <|
  gd ((0 : Int) ≤ p1 ∧ (p1 : Int) < 128) <|
  lt (M ((M 30 2).toNat + 8) p1.toNat) fun v4 =>
  if v3 = 7 then
    gd ((0 : Int) ≤ p2 ∧ (p2 : Int) < 14) <|
    if (band (bshr (M 6 p2.toNat) v4) 1) = 0 then
      some 0
    else
      some 1
  else
    gd ((0 : Int) ≤ (wrap ((wrap (v3 * 14)) + p2)) ∧ ((wrap ((wrap (v3 * 14)) + p2)) : Int) < 98) <|
    lt (M 31 (wrap ((wrap (v3 * 14)) + p2)).toNat) fun v5 =>
    gd (isRu (M 30 2)) <|
    gd ((0 : Int) ≤ p1 ∧ (p1 : Int) < 128) <|
    lt (M ((M 30 2).toNat + 7) p1.toNat) fun v6 =>
    if v6 = 60 then
      if v4 ≤ v5 then
        some 0
      else
        some 1
    else
      if v6 = 62 then
        if v5 ≤ v4 then
          some 0
        else
          some 1
      else
        if v5 = v4 then
          some 1
        else
          some 0
def rm_X4_meetsTerm : Room := { frames := 0, cells := 0, slots := 0, locals := 0 }
def f_X4_meets_s2 (v1 : Int) (v2 : Int) (M : Mem) (v3 : Int) : Option ((Int) ⊕ ((Int) ⊕ (Int))) :=
  gd (isRu (M 30 2)) <|
  gd ((0 : Int) ≤ v1 ∧ (v1 : Int) < 32) <|
  if (M ((M 30 2).toNat + 4) v1.toNat) ≤ v3 then
    some (.inr (.inl v3))
  else
    lt (wrap ((wrap (v1 * 4)) + v3)) fun v4 =>
    obn (f_X4_meetsTerm v4 v2 M) fun r =>
    gd (isRu (M 30 2)) <|
    gd ((0 : Int) ≤ v4 ∧ (v4 : Int) < 128) <|
    if r = (M ((M 30 2).toNat + 5) v4.toNat) then
      some (.inr (.inr 0))
    else
      lt (wrap (v3 + 1)) fun v3_2 =>
      some (.inl v3_2)
def f_X4_meets_l2 (v1 : Int) (v2 : Int) (M : Mem) (v3 : Int) : Option ((Int) ⊕ (Int)) := whl (fun s => f_X4_meets_s2 v1 v2 M s) FU v3
def f_X4_meets_j50 (M : Mem) : Option (Int) :=
  some 1
def f_X4_meets (p1 : Int) (p2 : Int) (M : Mem) : Option (Int) :=
  lpr (f_X4_meets_l2 p1 p2 M 0) (fun s => f_X4_meets_j50 M) (fun q => some q)
def rm_X4_meets : Room := { frames := 1, cells := 0, slots := 0, locals := 26 }
def f_X4_holders_s4 (v1 : Int) (M : Mem) (v2 : Int) (v3 : Int) : Option ((Int × Int) ⊕ (Int × Int)) :=
  if (M 3 0) ≤ v3 then
    some (.inr (v2, v3))
  else
    obn (f_X4_meets v1 v3 M) fun r =>
    if r = 0 then
      lt (wrap (v3 + 1)) fun v3_2 =>
      some (.inl (v2, v3_2))
    else
      lt (bor v2 (bshl 1 v3)) fun v2_2 =>
      lt (wrap (v3 + 1)) fun v3_3 =>
      some (.inl (v2_2, v3_3))
def f_X4_holders_l4 (v1 : Int) (M : Mem) (v2 : Int) (v3 : Int) : Option (Int × Int) := whl (fun s => f_X4_holders_s4 v1 M s.1 s.2) FU (v2, v3)
def f_X4_holders_j36 (v2 : Int) (M : Mem) : Option (Int) :=
  some v2
def f_X4_holders (p1 : Int) (M : Mem) : Option (Int) :=
  obn (f_X4_holders_l4 p1 M 0 0) fun s => f_X4_holders_j36 s.1 M
def rm_X4_holders : Room := { frames := 2, cells := 0, slots := 0, locals := 50 }
def f_X4_prepare_s46 (p1 : Int) (v3 : Int) (v4 : Int) (M : Mem) : Option ((Int × Mem) ⊕ (Int × Mem)) :=
  if (M 3 0) ≤ v4 then
    some (.inr (v4, M))
  else
    obn (f_X4_traitOf v3 v4 M) fun r =>
    gd ((0 : Int) ≤ (wrap ((wrap (v3 * 14)) + v4)) ∧ ((wrap ((wrap (v3 * 14)) + v4)) : Int) < 98) <|
    lt (mup M 31 (wrap ((wrap (v3 * 14)) + v4)).toNat r) fun M_2 =>
    lt (wrap (v4 + 1)) fun v4_2 =>
    some (.inl (v4_2, M_2))
def f_X4_prepare_l46 (p1 : Int) (v3 : Int) (v4 : Int) (M : Mem) : Option (Int × Mem) := whl (fun s => f_X4_prepare_s46 p1 v3 s.1 s.2) FU (v4, M)
def f_X4_prepare_j83k26 (p1 : Int) (v3 : Int) (M : Mem) : Option ((Int × Mem) ⊕ (Int × Mem)) :=
  lt (wrap (v3 + 1)) fun v3_2 =>
  some (.inl (v3_2, M))
def f_X4_prepare_s26 (p1 : Int) (v3 : Int) (M : Mem) : Option ((Int × Mem) ⊕ (Int × Mem)) :=
  if 7 ≤ v3 then
    some (.inr (v3, M))
  else
    gd (isRu (M 30 2)) <|
    obn (f_X7_uses (M 30 2) v3 M) fun r =>
    if r = 0 then
      lt (wrap (v3 + 1)) fun v3_2 =>
      some (.inl (v3_2, M))
    else
      obn (f_X4_prepare_l46 p1 v3 0 M) fun s => f_X4_prepare_j83k26 p1 v3 s.2
def f_X4_prepare_l26 (p1 : Int) (v3 : Int) (M : Mem) : Option (Int × Mem) := whl (fun s => f_X4_prepare_s26 p1 s.1 s.2) FU (v3, M)
def f_X4_prepare_s91 (p1 : Int) (v3 : Int) (M : Mem) : Option ((Int × Mem) ⊕ (Int × Mem)) :=
  if (M 3 0) ≤ v3 then
    some (.inr (v3, M))
  else
    obn (f_X1_wishedOnes v3 M) fun r =>
    gd ((0 : Int) ≤ v3 ∧ (v3 : Int) < 14) <|
    lt (mup M 32 v3.toNat r) fun M_2 =>
    lt (wrap (v3 + 1)) fun v3_2 =>
    some (.inl (v3_2, M_2))
def f_X4_prepare_l91 (p1 : Int) (v3 : Int) (M : Mem) : Option (Int × Mem) := whl (fun s => f_X4_prepare_s91 p1 s.1 s.2) FU (v3, M)
def f_X4_prepare_s124 (p1 : Int) (v3 : Int) (M : Mem) : Option ((Int × Mem) ⊕ (Int × Mem)) :=
  gd (isRu (M 30 2)) <|
  if (M ((M 30 2).toNat) 0) ≤ v3 then
    some (.inr (v3, M))
  else
    obn (f_X4_holders (wrap (2 * v3)) M) fun r =>
    gd ((0 : Int) ≤ v3 ∧ (v3 : Int) < 16) <|
    lt (mup M 33 v3.toNat r) fun M_2 =>
    obn (f_X4_holders (wrap ((wrap (2 * v3)) + 1)) M_2) fun r_2 =>
    gd ((0 : Int) ≤ v3 ∧ (v3 : Int) < 16) <|
    lt (mup M_2 34 v3.toNat r_2) fun M_3 =>
    lt (wrap (v3 + 1)) fun v3_2 =>
    some (.inl (v3_2, M_3))
def f_X4_prepare_l124 (p1 : Int) (v3 : Int) (M : Mem) : Option (Int × Mem) := whl (fun s => f_X4_prepare_s124 p1 s.1 s.2) FU (v3, M)
def f_X4_prepare_j169 (p1 : Int) (M : Mem) : Option (Mem) :=
  some M
def f_X4_prepare_j122 (p1 : Int) (M : Mem) : Option (Mem) :=
  obn (f_X4_prepare_l124 p1 0 M) fun s => f_X4_prepare_j169 p1 s.2
def f_X4_prepare_j89 (p1 : Int) (M : Mem) : Option (Mem) :=
  obn (f_X4_prepare_l91 p1 0 M) fun s => f_X4_prepare_j122 p1 s.2
def f_X4_prepare (p1 : Int) (p2 : Int) (M : Mem) : Option (Mem) :=
  lt (mup M 30 2 p1) fun M_2 =>
  gd (isRu (M_2 30 2)) <|
  obn (f_X7_twinsHow (M_2 30 2) M_2) fun r =>
  lt (mup M_2 30 3 r) fun M_3 =>
  obn (f_X5_learn p2 M_3) fun M_4 =>
  obn (f_X4_prepare_l26 p1 0 M_4) fun s => f_X4_prepare_j89 p1 s.2
def rm_X4_prepare : Room := { frames := 4, cells := 0, slots := 0, locals := 99 }
def f_X4_hasNoPair_j61k2 (v1 : Int) (v2 : Int) (s0 : Int) (M : Mem) : Option ((Int) ⊕ ((Int) ⊕ (Int))) :=
  if (band s0 v1) = 0 then
    lt (wrap (v2 + 1)) fun v2_2 =>
    some (.inl v2_2)
  else
    some (.inr (.inr 0))
def f_X4_hasNoPair_s2 (v1 : Int) (M : Mem) (v2 : Int) : Option ((Int) ⊕ ((Int) ⊕ (Int))) :=
  if (M 3 0) ≤ v2 then
    some (.inr (.inl v2))
  else
    if (band (bshr v1 v2) 1) = 0 then
      lt (wrap (v2 + 1)) fun v2_2 =>
      some (.inl v2_2)
    else
      if (M 30 3) = 13 then
        gd ((0 : Int) ≤ v2 ∧ (v2 : Int) < 14) <|
        gd ((0 : Int) ≤ v2 ∧ (v2 : Int) < 14) <|
        f_X4_hasNoPair_j61k2 v1 v2 (bor (M 10 v2.toNat) (M 11 v2.toNat)) M
      else
        gd ((0 : Int) ≤ v2 ∧ (v2 : Int) < 14) <|
        f_X4_hasNoPair_j61k2 v1 v2 (M 10 v2.toNat) M
def f_X4_hasNoPair_l2 (v1 : Int) (M : Mem) (v2 : Int) : Option ((Int) ⊕ (Int)) := whl (fun s => f_X4_hasNoPair_s2 v1 M s) FU v2
def f_X4_hasNoPair_j76 (M : Mem) : Option (Int) :=
  some 1
def f_X4_hasNoPair (p1 : Int) (M : Mem) : Option (Int) :=
  lpr (f_X4_hasNoPair_l2 p1 M 0) (fun s => f_X4_hasNoPair_j76 M) (fun q => some q)
def rm_X4_hasNoPair : Room := { frames := 0, cells := 0, slots := 0, locals := 0 }
def f_X4_holdsTwo_j13 (v0 : Int) (v1 : Int) (s0 : Int) (M : Mem) : Option (Int) :=
  if v0 = 0 then
    some 0
  else
    if v1 = 0 then
      some 0
    else
      if v0 = v1 then
        if s0 = 0 then
          some 1
        else
          some 0
      else
        some 1
def f_X4_holdsTwo (p0 : Int) (p1 : Int) (M : Mem) : Option (Int) :=
  if (band p0 (wrap (p0 - 1))) = 0 then
    f_X4_holdsTwo_j13 p0 p1 1 M
  else
    f_X4_holdsTwo_j13 p0 p1 0 M
def rm_X4_holdsTwo : Room := { frames := 0, cells := 0, slots := 0, locals := 0 }
def f_X4_fitsStatements_s2 (v1 : Int) (M : Mem) (v2 : Int) : Option ((Int) ⊕ ((Int) ⊕ (Int))) :=
  gd (isRu (M 30 2)) <|
  if (M ((M 30 2).toNat) 0) ≤ v2 then
    some (.inr (.inl v2))
  else
    gd ((0 : Int) ≤ v2 ∧ (v2 : Int) < 16) <|
    lt (band (M 33 v2.toNat) v1) fun v3 =>
    gd (isRu (M 30 2)) <|
    gd ((0 : Int) ≤ v2 ∧ (v2 : Int) < 16) <|
    if (M ((M 30 2).toNat + 1) v2.toNat) = 13 then
      gd ((0 : Int) ≤ v2 ∧ (v2 : Int) < 16) <|
      obn (f_X4_holdsTwo v3 (band (M 34 v2.toNat) v1) M) fun r_2 =>
      if r_2 = 0 then
        gd (isRu (M 30 2)) <|
        gd ((0 : Int) ≤ v2 ∧ (v2 : Int) < 16) <|
        if (M ((M 30 2).toNat + 1) v2.toNat) = 14 then
          obn (f_J6_bitCount_0f7a4 v3 M) fun r_3 =>
          gd (isRu (M 30 2)) <|
          gd ((0 : Int) ≤ v2 ∧ (v2 : Int) < 16) <|
          if r_3 ≤ (M ((M 30 2).toNat + 2) v2.toNat) then
            lt (wrap (v2 + 1)) fun v2_5 =>
            some (.inl v2_5)
          else
            some (.inr (.inr 0))
        else
          lt (wrap (v2 + 1)) fun v2_4 =>
          some (.inl v2_4)
      else
        some (.inr (.inr 0))
    else
      gd (isRu (M 30 2)) <|
      gd ((0 : Int) ≤ v2 ∧ (v2 : Int) < 16) <|
      if (M ((M 30 2).toNat + 1) v2.toNat) = 14 then
        obn (f_J6_bitCount_0f7a4 v3 M) fun r =>
        gd (isRu (M 30 2)) <|
        gd ((0 : Int) ≤ v2 ∧ (v2 : Int) < 16) <|
        if r ≤ (M ((M 30 2).toNat + 2) v2.toNat) then
          lt (wrap (v2 + 1)) fun v2_3 =>
          some (.inl v2_3)
        else
          some (.inr (.inr 0))
      else
        lt (wrap (v2 + 1)) fun v2_2 =>
        some (.inl v2_2)
def f_X4_fitsStatements_l2 (v1 : Int) (M : Mem) (v2 : Int) : Option ((Int) ⊕ (Int)) := whl (fun s => f_X4_fitsStatements_s2 v1 M s) FU v2
def f_X4_fitsStatements_j91 (M : Mem) : Option (Int) :=
  some 1
def f_X4_fitsStatements (p1 : Int) (M : Mem) : Option (Int) :=
  lpr (f_X4_fitsStatements_l2 p1 M 0) (fun s => f_X4_fitsStatements_j91 M) (fun q => some q)
def rm_X4_fitsStatements : Room := { frames := 1, cells := 0, slots := 0, locals := 22 }
def f_X4_mayStand (p1 : Int) (p2 : Int) (M : Mem) : Option (Int) :=
  obn (f_J6_bitCount_0f7a4 p2 M) fun r =>
  gd ((0 : Int) ≤ p1 ∧ (p1 : Int) < 3) <|
  if (M 16 p1.toNat) < r then
    some 0
  else
    gd ((0 : Int) ≤ p1 ∧ (p1 : Int) < 3) <|
    if (band (M 12 p1.toNat) p2) = 0 then
      obn (f_X4_hasNoPair p2 M) fun r_2 =>
      if r_2 = 0 then
        some 0
      else
        obn (f_X4_fitsStatements p2 M) fun r_3 =>
        if r_3 = 0 then
          some 0
        else
          some 1
    else
      some 0
def rm_X4_mayStand : Room := { frames := 2, cells := 0, slots := 0, locals := 45 }
def f_X4_lackIn_s4 (v1 : Int) (M : Mem) (v2 : Int) (v3 : Int) : Option ((Int × Int) ⊕ (Int × Int)) :=
  gd (isRu (M 30 2)) <|
  if (M ((M 30 2).toNat) 0) ≤ v3 then
    some (.inr (v2, v3))
  else
    gd (isRu (M 30 2)) <|
    gd ((0 : Int) ≤ v3 ∧ (v3 : Int) < 16) <|
    if (M ((M 30 2).toNat + 1) v3.toNat) = 15 then
      gd (isRu (M 30 2)) <|
      gd ((0 : Int) ≤ v3 ∧ (v3 : Int) < 16) <|
      gd ((0 : Int) ≤ v3 ∧ (v3 : Int) < 16) <|
      obn (f_J6_bitCount_0f7a4 (band (M 33 v3.toNat) v1) M) fun r =>
      lt (wrap (v2 + (if 0 < wrap ((M ((M 30 2).toNat + 2) v3.toNat) - r) then wrap ((M ((M 30 2).toNat + 2) v3.toNat) - r) else 0))) fun v2_2 =>
      lt (wrap (v3 + 1)) fun v3_3 =>
      some (.inl (v2_2, v3_3))
    else
      lt (wrap (v3 + 1)) fun v3_2 =>
      some (.inl (v2, v3_2))
def f_X4_lackIn_l4 (v1 : Int) (M : Mem) (v2 : Int) (v3 : Int) : Option (Int × Int) := whl (fun s => f_X4_lackIn_s4 v1 M s.1 s.2) FU (v2, v3)
def f_X4_lackIn_j63 (v2 : Int) (M : Mem) : Option (Int) :=
  some v2
def f_X4_lackIn (p1 : Int) (M : Mem) : Option (Int) :=
  obn (f_X4_lackIn_l4 p1 M 0 0) fun s => f_X4_lackIn_j63 s.1 M
def rm_X4_lackIn : Room := { frames := 1, cells := 0, slots := 0, locals := 60 }
def f_X4_leftIn_s4 (v1 : Int) (M : Mem) (v2 : Int) (v3 : Int) : Option ((Int × Int) ⊕ (Int × Int)) :=
  if (M 3 0) ≤ v3 then
    some (.inr (v2, v3))
  else
    if (band (bshr v1 v3) 1) = 0 then
      lt (wrap (v3 + 1)) fun v3_2 =>
      some (.inl (v2, v3_2))
    else
      gd ((0 : Int) ≤ v3 ∧ (v3 : Int) < 14) <|
      if (band (M 32 v3.toNat) v1) = 0 then
        gd ((0 : Int) ≤ v3 ∧ (v3 : Int) < 14) <|
        lt (wrap (v2 + (wrap (1 + (M 8 v3.toNat))))) fun v2_2 =>
        lt (wrap (v3 + 1)) fun v3_4 =>
        some (.inl (v2_2, v3_4))
      else
        lt (wrap (v3 + 1)) fun v3_3 =>
        some (.inl (v2, v3_3))
def f_X4_leftIn_l4 (v1 : Int) (M : Mem) (v2 : Int) (v3 : Int) : Option (Int × Int) := whl (fun s => f_X4_leftIn_s4 v1 M s.1 s.2) FU (v2, v3)
def f_X4_leftIn_j54 (v2 : Int) (M : Mem) : Option (Int) :=
  some v2
def f_X4_leftIn (p1 : Int) (M : Mem) : Option (Int) :=
  obn (f_X4_leftIn_l4 p1 M 0 0) fun s => f_X4_leftIn_j54 s.1 M
def rm_X4_leftIn : Room := { frames := 0, cells := 0, slots := 0, locals := 0 }
def f_X4_regretIn_s26 (v1 : Int) (v3 : Int) (M : Mem) (v2 : Int) (v4 : Int) : Option ((Int × Int) ⊕ (Int × Int)) :=
  if v3 ≤ v4 then
    some (.inr (v2, v4))
  else
    if (band (bshr v1 v4) 1) = 0 then
      lt (wrap (v4 + 1)) fun v4_2 =>
      some (.inl (v2, v4_2))
    else
      gd ((0 : Int) ≤ (wrap ((wrap (v3 * 14)) + v4)) ∧ ((wrap ((wrap (v3 * 14)) + v4)) : Int) < 196) <|
      lt (wrap (v2 + (M 13 (wrap ((wrap (v3 * 14)) + v4)).toNat))) fun v2_2 =>
      lt (wrap (v4 + 1)) fun v4_3 =>
      some (.inl (v2_2, v4_3))
def f_X4_regretIn_l26 (v1 : Int) (v3 : Int) (M : Mem) (v2 : Int) (v4 : Int) : Option (Int × Int) := whl (fun s => f_X4_regretIn_s26 v1 v3 M s.1 s.2) FU (v2, v4)
def f_X4_regretIn_j65k4 (v1 : Int) (v2 : Int) (v3 : Int) (M : Mem) : Option ((Int × Int) ⊕ (Int × Int)) :=
  lt (wrap (v3 + 1)) fun v3_2 =>
  some (.inl (v2, v3_2))
def f_X4_regretIn_s4 (v1 : Int) (M : Mem) (v2 : Int) (v3 : Int) : Option ((Int × Int) ⊕ (Int × Int)) :=
  if (M 3 0) ≤ v3 then
    some (.inr (v2, v3))
  else
    if (band (bshr v1 v3) 1) = 0 then
      lt (wrap (v3 + 1)) fun v3_2 =>
      some (.inl (v2, v3_2))
    else
      obn (f_X4_regretIn_l26 v1 v3 M v2 0) fun s => f_X4_regretIn_j65k4 v1 s.1 v3 M
def f_X4_regretIn_l4 (v1 : Int) (M : Mem) (v2 : Int) (v3 : Int) : Option (Int × Int) := whl (fun s => f_X4_regretIn_s4 v1 M s.1 s.2) FU (v2, v3)
def f_X4_regretIn_j71 (v2 : Int) (M : Mem) : Option (Int) :=
  some v2
def f_X4_regretIn (p1 : Int) (M : Mem) : Option (Int) :=
  obn (f_X4_regretIn_l4 p1 M 0 0) fun s => f_X4_regretIn_j71 s.1 M
def rm_X4_regretIn : Room := { frames := 0, cells := 0, slots := 0, locals := 0 }
def f_X4_addedHarm (p1 : Int) (p2 : Int) (M : Mem) : Option (Int) :=
  gd (isRu (M 30 2)) <|
  gd ((0 : Int) ≤ p1 ∧ (p1 : Int) < 16) <|
  if (M ((M 30 2).toNat + 1) p1.toNat) < 10 ∨ 12 < (M ((M 30 2).toNat + 1) p1.toNat) then
    some 0
  else if (M ((M 30 2).toNat + 1) p1.toNat) = 10 then
    gd (isRu (M 30 2)) <|
    gd ((0 : Int) ≤ p1 ∧ (p1 : Int) < 16) <|
    obn (f_X4_leftIn p2 M) fun r =>
    some (wrap ((M ((M 30 2).toNat + 2) p1.toNat) * r))
  else if (M ((M 30 2).toNat + 1) p1.toNat) = 11 then
    gd ((0 : Int) ≤ p1 ∧ (p1 : Int) < 16) <|
    obn (f_J6_bitCount_0f7a4 (band (M 33 p1.toNat) p2) M) fun r_2 =>
    if r_2 = 1 then
      gd (isRu (M 30 2)) <|
      gd ((0 : Int) ≤ p1 ∧ (p1 : Int) < 16) <|
      some (M ((M 30 2).toNat + 2) p1.toNat)
    else
      some 0
  else if (M ((M 30 2).toNat + 1) p1.toNat) = 12 then
    gd (isRu (M 30 2)) <|
    gd ((0 : Int) ≤ p1 ∧ (p1 : Int) < 16) <|
    obn (f_X4_regretIn p2 M) fun r_3 =>
    some (wrap ((M ((M 30 2).toNat + 2) p1.toNat) * r_3))
  else none
def rm_X4_addedHarm : Room := { frames := 1, cells := 0, slots := 0, locals := 24 }
def f_X4_joins (p1 : Int) (p2 : Int) (M : Mem) : Option (Int) :=
  if (M 30 3) = 17 then
    gd ((0 : Int) ≤ p1 ∧ (p1 : Int) < 14) <|
    if (band (bshr (M 11 p1.toNat) p2) 1) = 0 then
      some 0
    else
      some 1
  else
    some 0
def rm_X4_joins : Room := { frames := 0, cells := 0, slots := 0, locals := 0 }
def f_X4_isSpread (p1 : Int) (M : Mem) : Option (Int) :=
  gd (isRu (M 30 2)) <|
  gd ((0 : Int) ≤ p1 ∧ (p1 : Int) < 16) <|
  if (M ((M 30 2).toNat + 1) p1.toNat) = 8 then
    some 1
  else
    gd (isRu (M 30 2)) <|
    gd ((0 : Int) ≤ p1 ∧ (p1 : Int) < 16) <|
    if (M ((M 30 2).toNat + 1) p1.toNat) = 9 then
      some 1
    else
      some 0
def rm_X4_isSpread : Room := { frames := 0, cells := 0, slots := 0, locals := 0 }
def f_X4_weightOf (p1 : Int) (p2 : Int) (M : Mem) : Option (Int) :=
  gd (isRu (M 30 2)) <|
  gd ((0 : Int) ≤ p1 ∧ (p1 : Int) < 16) <|
  if (M ((M 30 2).toNat + 1) p1.toNat) = 9 then
    gd (isRu (M 30 2)) <|
    gd ((0 : Int) ≤ p1 ∧ (p1 : Int) < 16) <|
    gd ((0 : Int) ≤ (wrap ((wrap ((M ((M 30 2).toNat + 3) p1.toNat) * 14)) + p2)) ∧ ((wrap ((wrap ((M ((M 30 2).toNat + 3) p1.toNat) * 14)) + p2)) : Int) < 98) <|
    some (M 31 (wrap ((wrap ((M ((M 30 2).toNat + 3) p1.toNat) * 14)) + p2)).toNat)
  else
    gd ((0 : Int) ≤ p1 ∧ (p1 : Int) < 16) <|
    some (band (bshr (M 33 p1.toNat) p2) 1)
def rm_X4_weightOf : Room := { frames := 0, cells := 0, slots := 0, locals := 0 }
def f_X4_isWhole_s13 (v1 : Int) (v2 : Int) (M : Mem) (v3 : Int) : Option ((Int) ⊕ ((Int) ⊕ (Int))) :=
  if (M 3 0) ≤ v3 then
    some (.inr (.inl v3))
  else
    if (band (bshr v1 v3) 1) = 0 then
      lt (wrap (v3 + 1)) fun v3_2 =>
      some (.inl v3_2)
    else
      gd ((0 : Int) ≤ v3 ∧ (v3 : Int) < 14) <|
      if (band (band (M 11 v3.toNat) v2) (bxor v1 (-1))) = 0 then
        lt (wrap (v3 + 1)) fun v3_3 =>
        some (.inl v3_3)
      else
        some (.inr (.inr 0))
def f_X4_isWhole_l13 (v1 : Int) (v2 : Int) (M : Mem) (v3 : Int) : Option ((Int) ⊕ (Int)) := whl (fun s => f_X4_isWhole_s13 v1 v2 M s) FU v3
def f_X4_isWhole_j58 (M : Mem) : Option (Int) :=
  some 1
def f_X4_isWhole (p1 : Int) (p2 : Int) (M : Mem) : Option (Int) :=
  if (M 30 3) = 17 then
    lpr (f_X4_isWhole_l13 p1 p2 M 0) (fun s => f_X4_isWhole_j58 M) (fun q => some q)
  else
    some 1
def rm_X4_isWhole : Room := { frames := 0, cells := 0, slots := 0, locals := 0 }
def f_X4_isSound_s4 (p1 : Nat) (M : Mem) (v2 : Int) (v3 : Int) : Option ((Int × Int) ⊕ (Int × Int)) :=
  if (M 3 13) ≤ v3 then
    some (.inr (v2, v3))
  else
    gd ((0 : Int) ≤ v3 ∧ (v3 : Int) < (aln p1 : Int)) <|
    lt (bor v2 (M p1 v3.toNat)) fun v2_2 =>
    lt (wrap (v3 + 1)) fun v3_2 =>
    some (.inl (v2_2, v3_2))
def f_X4_isSound_l4 (p1 : Nat) (M : Mem) (v2 : Int) (v3 : Int) : Option (Int × Int) := whl (fun s => f_X4_isSound_s4 p1 M s.1 s.2) FU (v2, v3)
def f_X4_isSound_s29 (p1 : Nat) (v2 : Int) (M : Mem) (v3 : Int) : Option ((Int) ⊕ ((Int) ⊕ (Int))) :=
  if (M 3 13) ≤ v3 then
    some (.inr (.inl v3))
  else
    gd ((0 : Int) ≤ v3 ∧ (v3 : Int) < (aln p1 : Int)) <|
    obn (f_X4_mayStand v3 (M p1 v3.toNat) M) fun r =>
    if r = 0 then
      some (.inr (.inr 0))
    else
      gd ((0 : Int) ≤ v3 ∧ (v3 : Int) < (aln p1 : Int)) <|
      obn (f_X4_isWhole (M p1 v3.toNat) v2 M) fun r_2 =>
      if r_2 = 0 then
        some (.inr (.inr 0))
      else
        lt (wrap (v3 + 1)) fun v3_2 =>
        some (.inl v3_2)
def f_X4_isSound_l29 (p1 : Nat) (v2 : Int) (M : Mem) (v3 : Int) : Option ((Int) ⊕ (Int)) := whl (fun s => f_X4_isSound_s29 p1 v2 M s) FU v3
def f_X4_isSound_j70 (p1 : Nat) (M : Mem) : Option (Int) :=
  some 1
def f_X4_isSound_j27 (p1 : Nat) (v2 : Int) (M : Mem) : Option (Int) :=
  lpr (f_X4_isSound_l29 p1 v2 M 0) (fun s => f_X4_isSound_j70 p1 M) (fun q => some q)
def f_X4_isSound (p1 : Nat) (M : Mem) : Option (Int) :=
  obn (f_X4_isSound_l4 p1 M 0 0) fun s => f_X4_isSound_j27 p1 s.1 M
def rm_X4_isSound : Room := { frames := 3, cells := 0, slots := 0, locals := 67 }
def f_X4_weightIn_s31 (v1 : Int) (v2 : Int) (M : Mem) (v3 : Int) (v4 : Int) : Option ((Int × Int) ⊕ (Int × Int)) :=
  if (M 3 0) ≤ v4 then
    some (.inr (v3, v4))
  else
    if (band (bshr v2 v4) 1) = 0 then
      lt (wrap (v4 + 1)) fun v4_2 =>
      some (.inl (v3, v4_2))
    else
      obn (f_X4_weightOf v1 v4 M) fun r =>
      lt (wrap (v3 + r)) fun v3_2 =>
      lt (wrap (v4 + 1)) fun v4_3 =>
      some (.inl (v3_2, v4_3))
def f_X4_weightIn_l31 (v1 : Int) (v2 : Int) (M : Mem) (v3 : Int) (v4 : Int) : Option (Int × Int) := whl (fun s => f_X4_weightIn_s31 v1 v2 M s.1 s.2) FU (v3, v4)
def f_X4_weightIn_j68 (v3 : Int) (M : Mem) : Option (Int) :=
  some v3
def f_X4_weightIn (p1 : Int) (p2 : Int) (M : Mem) : Option (Int) :=
  gd (isRu (M 30 2)) <|
  gd ((0 : Int) ≤ p1 ∧ (p1 : Int) < 16) <|
  if (M ((M 30 2).toNat + 1) p1.toNat) = 8 then
    gd ((0 : Int) ≤ p1 ∧ (p1 : Int) < 16) <|
    obn (f_J6_bitCount_0f7a4 (band (M 33 p1.toNat) p2) M) fun r =>
    some r
  else
    obn (f_X4_weightIn_l31 p1 p2 M 0 0) fun s => f_X4_weightIn_j68 s.1 M
def rm_X4_weightIn : Room := { frames := 1, cells := 0, slots := 0, locals := 22 }
def f_X4_harmBy_s88 (p2 : Nat) (v1 : Int) (M : Mem) (v3 : Int) (v4 : Int) : Option ((Int × Int) ⊕ (Int × Int)) :=
  if (M 3 13) ≤ v4 then
    some (.inr (v3, v4))
  else
    gd ((0 : Int) ≤ v4 ∧ (v4 : Int) < (aln p2 : Int)) <|
    obn (f_X4_addedHarm v1 (M p2 v4.toNat) M) fun r =>
    lt (wrap (v3 + r)) fun v3_2 =>
    lt (wrap (v4 + 1)) fun v4_2 =>
    some (.inl (v3_2, v4_2))
def f_X4_harmBy_l88 (p2 : Nat) (v1 : Int) (M : Mem) (v3 : Int) (v4 : Int) : Option (Int × Int) := whl (fun s => f_X4_harmBy_s88 p2 v1 M s.1 s.2) FU (v3, v4)
def f_X4_harmBy_j118 (p2 : Nat) (v3 : Int) (M : Mem) : Option (Int) :=
  some v3
def f_X4_harmBy_s23 (p2 : Nat) (v1 : Int) (M : Mem) (v3 : Int) (v4 : Int) (v5 : Int) : Option ((Int × Int × Int) ⊕ (Int × Int × Int)) :=
  if (M 3 13) ≤ v5 then
    some (.inr (v3, v4, v5))
  else
    gd ((0 : Int) ≤ v5 ∧ (v5 : Int) < (aln p2 : Int)) <|
    obn (f_X4_weightIn v1 (M p2 v5.toNat) M) fun r =>
    lt ((if r < v3 then r else v3)) fun v3_2 =>
    lt ((if v4 < r then r else v4)) fun v4_2 =>
    lt (wrap (v5 + 1)) fun v5_2 =>
    some (.inl (v3_2, v4_2, v5_2))
def f_X4_harmBy_l23 (p2 : Nat) (v1 : Int) (M : Mem) (v3 : Int) (v4 : Int) (v5 : Int) : Option (Int × Int × Int) := whl (fun s => f_X4_harmBy_s23 p2 v1 M s.1 s.2.1 s.2.2) FU (v3, v4, v5)
def f_X4_harmBy_j68 (p2 : Nat) (v1 : Int) (v3 : Int) (v4 : Int) (M : Mem) : Option (Int) :=
  gd (isRu (M 30 2)) <|
  gd ((0 : Int) ≤ v1 ∧ (v1 : Int) < 16) <|
  some (wrap ((M ((M 30 2).toNat + 2) v1.toNat) * (wrap (v4 - v3))))
def f_X4_harmBy (p1 : Int) (p2 : Nat) (M : Mem) : Option (Int) :=
  obn (f_X4_isSpread p1 M) fun r =>
  if r = 0 then
    obn (f_X4_harmBy_l88 p2 p1 M 0 0) fun s => f_X4_harmBy_j118 p2 s.1 M
  else
    gd ((0 : Int) ≤ 0 ∧ (0 : Int) < (aln p2 : Int)) <|
    obn (f_X4_weightIn p1 (M p2 0) M) fun r_2 =>
    obn (f_X4_harmBy_l23 p2 p1 M r_2 r_2 1) fun s => f_X4_harmBy_j68 p2 p1 s.1 s.2.1 M
def rm_X4_harmBy : Room := { frames := 2, cells := 0, slots := 0, locals := 60 }
def f_X4_harmOf_s4 (p1 : Nat) (M : Mem) (v2 : Int) (v3 : Int) : Option ((Int × Int) ⊕ (Int × Int)) :=
  gd (isRu (M 30 2)) <|
  if (M ((M 30 2).toNat) 0) ≤ v3 then
    some (.inr (v2, v3))
  else
    obn (f_X4_harmBy v3 p1 M) fun r =>
    lt (wrap (v2 + r)) fun v2_2 =>
    lt (wrap (v3 + 1)) fun v3_2 =>
    some (.inl (v2_2, v3_2))
def f_X4_harmOf_l4 (p1 : Nat) (M : Mem) (v2 : Int) (v3 : Int) : Option (Int × Int) := whl (fun s => f_X4_harmOf_s4 p1 M s.1 s.2) FU (v2, v3)
def f_X4_harmOf_j30 (p1 : Nat) (v2 : Int) (M : Mem) : Option (Int) :=
  some v2
def f_X4_harmOf (p1 : Nat) (M : Mem) : Option (Int) :=
  obn (f_X4_harmOf_l4 p1 M 0 0) fun s => f_X4_harmOf_j30 p1 s.1 M
def rm_X4_harmOf : Room := { frames := 3, cells := 0, slots := 0, locals := 86 }
def f_X4_lackOf_s4 (p1 : Nat) (M : Mem) (v2 : Int) (v3 : Int) : Option ((Int × Int) ⊕ (Int × Int)) :=
  if (M 3 13) ≤ v3 then
    some (.inr (v2, v3))
  else
    gd ((0 : Int) ≤ v3 ∧ (v3 : Int) < (aln p1 : Int)) <|
    obn (f_X4_lackIn (M p1 v3.toNat) M) fun r =>
    lt (wrap (v2 + r)) fun v2_2 =>
    lt (wrap (v3 + 1)) fun v3_2 =>
    some (.inl (v2_2, v3_2))
def f_X4_lackOf_l4 (p1 : Nat) (M : Mem) (v2 : Int) (v3 : Int) : Option (Int × Int) := whl (fun s => f_X4_lackOf_s4 p1 M s.1 s.2) FU (v2, v3)
def f_X4_lackOf_j31 (p1 : Nat) (v2 : Int) (M : Mem) : Option (Int) :=
  some v2
def f_X4_lackOf (p1 : Nat) (M : Mem) : Option (Int) :=
  obn (f_X4_lackOf_l4 p1 M 0 0) fun s => f_X4_lackOf_j31 p1 s.1 M
def rm_X4_lackOf : Room := { frames := 2, cells := 0, slots := 0, locals := 83 }
def f_X4_allows (p1 : Nat) (M : Mem) : Option (Int) :=
  obn (f_X4_lackOf p1 M) fun r =>
  if r = 0 then
    obn (f_X4_isSound p1 M) fun r_2 =>
    if r_2 = 0 then
      some 0
    else
      some 1
  else
    some 0
def rm_X4_allows : Room := { frames := 4, cells := 0, slots := 0, locals := 106 }
end
noncomputable section
def f_X8_begin (M : Mem) : Option (Mem) :=
  lt (mup M 35 2 0) fun M_2 =>
  lt (mup M_2 35 17 0) fun M_3 =>
  some M_3
def rm_X8_begin : Room := { frames := 0, cells := 0, slots := 0, locals := 0 }
def f_X8_admit (p1 : Int) (p2 : Int) (M : Mem) : Option (Mem) :=
  if 9 ≤ (M 35 2) then
    some M
  else
    gd ((0 : Int) ≤ (M 35 2) ∧ ((M 35 2) : Int) < 9) <|
    lt (mup M 36 (M 35 2).toNat p1) fun M_2 =>
    gd ((0 : Int) ≤ (M_2 35 2) ∧ ((M_2 35 2) : Int) < 9) <|
    lt (mup M_2 37 (M_2 35 2).toNat p2) fun M_3 =>
    lt (mup M_3 35 2 (wrap ((M_3 35 2) + 1))) fun M_4 =>
    some M_4
def rm_X8_admit : Room := { frames := 0, cells := 0, slots := 0, locals := 0 }
def f_X8_readSets_s16 (v1 : Int) (M : Mem) (v2 : Int) (v3 : Int) : Option ((Int × Int) ⊕ (Int × Int)) :=
  if (M 35 2) ≤ v3 then
    some (.inr (v2, v3))
  else
    if (band (bshr v1 v3) 1) = 0 then
      lt (wrap (v3 + 1)) fun v3_2 =>
      some (.inl (v2, v3_2))
    else
      gd ((0 : Int) ≤ v3 ∧ (v3 : Int) < 9) <|
      lt (bor v2 (bshl 1 (M 36 v3.toNat))) fun v2_2 =>
      lt (wrap (v3 + 1)) fun v3_3 =>
      some (.inl (v2_2, v3_3))
def f_X8_readSets_l16 (v1 : Int) (M : Mem) (v2 : Int) (v3 : Int) : Option (Int × Int) := whl (fun s => f_X8_readSets_s16 v1 M s.1 s.2) FU (v2, v3)
def f_X8_readSets_s58 (v1 : Int) (v2 : Int) (v3 : Int) (M : Mem) : Option ((Int × Mem) ⊕ (Int × Mem)) :=
  if (M 3 13) ≤ v3 then
    some (.inr (v3, M))
  else
    obn (f_X4_mayStand v3 v2 M) fun r =>
    if r = 0 then
      lt (wrap (v3 + 1)) fun v3_2 =>
      some (.inl (v3_2, M))
    else
      gd ((0 : Int) ≤ v1 ∧ (v1 : Int) < 512) <|
      gd ((0 : Int) ≤ v1 ∧ (v1 : Int) < 512) <|
      lt (mup M 39 v1.toNat (bor (M 39 v1.toNat) (bshl 1 v3))) fun M_2 =>
      lt (wrap (v3 + 1)) fun v3_3 =>
      some (.inl (v3_3, M_2))
def f_X8_readSets_l58 (v1 : Int) (v2 : Int) (v3 : Int) (M : Mem) : Option (Int × Mem) := whl (fun s => f_X8_readSets_s58 v1 v2 s.1 s.2) FU (v3, M)
def f_X8_readSets_s138 (v1 : Int) (v2 : Int) (v3 : Int) (M : Mem) : Option ((Int × Mem) ⊕ (Int × Mem)) :=
  gd (isRu (M 30 2)) <|
  if (M ((M 30 2).toNat) 0) ≤ v3 then
    some (.inr (v3, M))
  else
    gd ((0 : Int) ≤ v1 ∧ (v1 : Int) < 512) <|
    obn (f_X4_addedHarm v3 v2 M) fun r =>
    gd ((0 : Int) ≤ v1 ∧ (v1 : Int) < 512) <|
    lt (mup M 40 v1.toNat (wrap ((M 40 v1.toNat) + r))) fun M_2 =>
    lt (wrap (v3 + 1)) fun v3_2 =>
    some (.inl (v3_2, M_2))
def f_X8_readSets_l138 (v1 : Int) (v2 : Int) (v3 : Int) (M : Mem) : Option (Int × Mem) := whl (fun s => f_X8_readSets_s138 v1 v2 s.1 s.2) FU (v3, M)
def f_X8_readSets_j176k2 (v1 : Int) (M : Mem) : Option ((Int × Mem) ⊕ (Int × Mem)) :=
  lt (wrap (v1 + 1)) fun v1_2 =>
  some (.inl (v1_2, M))
def f_X8_readSets_j99k2 (v1 : Int) (v2 : Int) (M : Mem) : Option ((Int × Mem) ⊕ (Int × Mem)) :=
  gd ((0 : Int) ≤ v1 ∧ (v1 : Int) < 512) <|
  lt (mup M 40 v1.toNat 0) fun M_2 =>
  gd ((0 : Int) ≤ v1 ∧ (v1 : Int) < 512) <|
  lt (mup M_2 41 v1.toNat 0) fun M_3 =>
  gd ((0 : Int) ≤ v1 ∧ (v1 : Int) < 512) <|
  if (M_3 39 v1.toNat) = 0 then
    lt (wrap (v1 + 1)) fun v1_2 =>
    some (.inl (v1_2, M_3))
  else
    obn (f_X4_lackIn v2 M_3) fun r =>
    gd ((0 : Int) ≤ v1 ∧ (v1 : Int) < 512) <|
    lt (mup M_3 41 v1.toNat r) fun M_4 =>
    obn (f_X8_readSets_l138 v1 v2 0 M_4) fun s => f_X8_readSets_j176k2 v1 s.2
def f_X8_readSets_j49k2 (v1 : Int) (v2 : Int) (M : Mem) : Option ((Int × Mem) ⊕ (Int × Mem)) :=
  gd ((0 : Int) ≤ v1 ∧ (v1 : Int) < 512) <|
  lt (mup M 39 v1.toNat 0) fun M_2 =>
  obn (f_X8_readSets_l58 v1 v2 0 M_2) fun s => f_X8_readSets_j99k2 v1 v2 s.2
def f_X8_readSets_s2 (v1 : Int) (M : Mem) : Option ((Int × Mem) ⊕ (Int × Mem)) :=
  if (bshl 1 (M 35 2)) ≤ v1 then
    some (.inr (v1, M))
  else
    obn (f_X8_readSets_l16 v1 M 0 0) fun s => f_X8_readSets_j49k2 v1 s.1 M
def f_X8_readSets_l2 (v1 : Int) (M : Mem) : Option (Int × Mem) := whl (fun s => f_X8_readSets_s2 s.1 s.2) FU (v1, M)
def f_X8_readSets_j182 (M : Mem) : Option (Mem) :=
  some M
def f_X8_readSets (M : Mem) : Option (Mem) :=
  obn (f_X8_readSets_l2 0 M) fun s => f_X8_readSets_j182 s.2
def rm_X8_readSets : Room := { frames := 3, cells := 0, slots := 0, locals := 83 }
def f_X8_readTwins_s19 (v1 : Int) (v2 : Int) (M : Mem) : Option ((Int × Mem) ⊕ (Int × Mem)) :=
  if v1 ≤ v2 then
    some (.inr (v2, M))
  else
    gd ((0 : Int) ≤ v1 ∧ (v1 : Int) < 9) <|
    gd ((0 : Int) ≤ v2 ∧ (v2 : Int) < 9) <|
    obn (f_X4_joins (M 36 v1.toNat) (M 36 v2.toNat) M) fun r =>
    if r = 0 then
      lt (wrap (v2 + 1)) fun v2_2 =>
      some (.inl (v2_2, M))
    else
      gd ((0 : Int) ≤ v1 ∧ (v1 : Int) < 9) <|
      gd ((0 : Int) ≤ v1 ∧ (v1 : Int) < 9) <|
      lt (mup M 38 v1.toNat (bor (M 38 v1.toNat) (bshl 1 v2))) fun M_2 =>
      lt (wrap (v2 + 1)) fun v2_3 =>
      some (.inl (v2_3, M_2))
def f_X8_readTwins_l19 (v1 : Int) (v2 : Int) (M : Mem) : Option (Int × Mem) := whl (fun s => f_X8_readTwins_s19 v1 s.1 s.2) FU (v2, M)
def f_X8_readTwins_j64k2 (v1 : Int) (M : Mem) : Option ((Int × Mem) ⊕ (Int × Mem)) :=
  lt (wrap (v1 + 1)) fun v1_2 =>
  some (.inl (v1_2, M))
def f_X8_readTwins_s2 (v1 : Int) (M : Mem) : Option ((Int × Mem) ⊕ (Int × Mem)) :=
  if (M 35 2) ≤ v1 then
    some (.inr (v1, M))
  else
    gd ((0 : Int) ≤ v1 ∧ (v1 : Int) < 9) <|
    lt (mup M 38 v1.toNat 0) fun M_2 =>
    obn (f_X8_readTwins_l19 v1 0 M_2) fun s => f_X8_readTwins_j64k2 v1 s.2
def f_X8_readTwins_l2 (v1 : Int) (M : Mem) : Option (Int × Mem) := whl (fun s => f_X8_readTwins_s2 s.1 s.2) FU (v1, M)
def f_X8_readTwins_j70 (M : Mem) : Option (Mem) :=
  some M
def f_X8_readTwins (M : Mem) : Option (Mem) :=
  obn (f_X8_readTwins_l2 0 M) fun s => f_X8_readTwins_j70 s.2
def rm_X8_readTwins : Room := { frames := 1, cells := 0, slots := 0, locals := 22 }
def f_X8_readSpreads_s63 (v1 : Int) (v2 : Int) (M : Mem) : Option ((Int × Mem) ⊕ (Int × Mem)) :=
  if (M 35 2) ≤ v2 then
    some (.inr (v2, M))
  else
    gd ((0 : Int) ≤ v2 ∧ (v2 : Int) < 9) <|
    obn (f_X4_weightOf v1 (M 36 v2.toNat) M) fun r =>
    gd ((0 : Int) ≤ (wrap ((wrap ((M 35 9) * 9)) + v2)) ∧ ((wrap ((wrap ((M 35 9) * 9)) + v2)) : Int) < 144) <|
    lt (mup M 43 (wrap ((wrap ((M 35 9) * 9)) + v2)).toNat r) fun M_2 =>
    lt (wrap (v2 + 1)) fun v2_2 =>
    some (.inl (v2_2, M_2))
def f_X8_readSpreads_l63 (v1 : Int) (v2 : Int) (M : Mem) : Option (Int × Mem) := whl (fun s => f_X8_readSpreads_s63 v1 s.1 s.2) FU (v2, M)
def f_X8_readSpreads_j105k15 (v1 : Int) (M : Mem) : Option ((Int × Mem) ⊕ (Int × Mem)) :=
  lt (mup M 35 9 (wrap ((M 35 9) + 1))) fun M_2 =>
  lt (wrap (v1 + 1)) fun v1_2 =>
  some (.inl (v1_2, M_2))
def f_X8_readSpreads_s15 (v1 : Int) (M : Mem) : Option ((Int × Mem) ⊕ (Int × Mem)) :=
  gd (isRu (M 30 2)) <|
  if (M ((M 30 2).toNat) 0) ≤ v1 then
    some (.inr (v1, M))
  else
    obn (f_X4_isSpread v1 M) fun r =>
    if r = 0 then
      lt (wrap (v1 + 1)) fun v1_2 =>
      some (.inl (v1_2, M))
    else
      gd (isRu (M 30 2)) <|
      gd ((0 : Int) ≤ v1 ∧ (v1 : Int) < 16) <|
      gd ((0 : Int) ≤ (M 35 9) ∧ ((M 35 9) : Int) < 16) <|
      lt (mup M 42 (M 35 9).toNat (M ((M 30 2).toNat + 2) v1.toNat)) fun M_2 =>
      obn (f_X8_readSpreads_l63 v1 0 M_2) fun s => f_X8_readSpreads_j105k15 v1 s.2
def f_X8_readSpreads_l15 (v1 : Int) (M : Mem) : Option (Int × Mem) := whl (fun s => f_X8_readSpreads_s15 s.1 s.2) FU (v1, M)
def f_X8_readSpreads_j121 (M : Mem) : Option (Mem) :=
  some M
def f_X8_readSpreads (M : Mem) : Option (Mem) :=
  lt (mup M 35 9 0) fun M_2 =>
  obn (f_J7_fill_53178 44 0 M_2) fun M_3 =>
  obn (f_X8_readSpreads_l15 0 M_3) fun s => f_X8_readSpreads_j121 s.2
def rm_X8_readSpreads : Room := { frames := 1, cells := 0, slots := 0, locals := 23 }
def f_X8_spreadOf_s12 (v1 : Int) (M : Mem) (v2 : Int) (v3 : Int) (v4 : Int) : Option ((Int × Int × Int) ⊕ (Int × Int × Int)) :=
  if (M 3 13) ≤ v4 then
    some (.inr (v2, v3, v4))
  else
    gd ((0 : Int) ≤ (wrap (v1 + v4)) ∧ ((wrap (v1 + v4)) : Int) < 48) <|
    lt ((if M 44 (wrap (v1 + v4)).toNat < v2 then M 44 (wrap (v1 + v4)).toNat else v2)) fun v2_2 =>
    gd ((0 : Int) ≤ (wrap (v1 + v4)) ∧ ((wrap (v1 + v4)) : Int) < 48) <|
    lt ((if v3 < M 44 (wrap (v1 + v4)).toNat then M 44 (wrap (v1 + v4)).toNat else v3)) fun v3_2 =>
    lt (wrap (v4 + 1)) fun v4_2 =>
    some (.inl (v2_2, v3_2, v4_2))
def f_X8_spreadOf_l12 (v1 : Int) (M : Mem) (v2 : Int) (v3 : Int) (v4 : Int) : Option (Int × Int × Int) := whl (fun s => f_X8_spreadOf_s12 v1 M s.1 s.2.1 s.2.2) FU (v2, v3, v4)
def f_X8_spreadOf_j58 (v2 : Int) (v3 : Int) (M : Mem) : Option (Int) :=
  some (wrap (v3 - v2))
def f_X8_spreadOf (p1 : Int) (M : Mem) : Option (Int) :=
  gd ((0 : Int) ≤ p1 ∧ (p1 : Int) < 48) <|
  lt (M 44 p1.toNat) fun v2 =>
  obn (f_X8_spreadOf_l12 p1 M v2 v2 1) fun s => f_X8_spreadOf_j58 s.1 s.2.1 M
def rm_X8_spreadOf : Room := { frames := 1, cells := 0, slots := 0, locals := 60 }
def f_X8_weigh_s6 (M : Mem) (v1 : Int) (v2 : Int) (v3 : Int) : Option ((Int × Int × Int) ⊕ (Int × Int × Int)) :=
  if (M 3 13) ≤ v3 then
    some (.inr (v1, v2, v3))
  else
    gd ((0 : Int) ≤ v3 ∧ (v3 : Int) < 3) <|
    gd ((0 : Int) ≤ (M 45 v3.toNat) ∧ ((M 45 v3.toNat) : Int) < 512) <|
    lt (wrap (v1 + (M 40 (M 45 v3.toNat).toNat))) fun v1_2 =>
    gd ((0 : Int) ≤ v3 ∧ (v3 : Int) < 3) <|
    gd ((0 : Int) ≤ (M 45 v3.toNat) ∧ ((M 45 v3.toNat) : Int) < 512) <|
    lt (wrap (v2 + (M 41 (M 45 v3.toNat).toNat))) fun v2_2 =>
    lt (wrap (v3 + 1)) fun v3_2 =>
    some (.inl (v1_2, v2_2, v3_2))
def f_X8_weigh_l6 (M : Mem) (v1 : Int) (v2 : Int) (v3 : Int) : Option (Int × Int × Int) := whl (fun s => f_X8_weigh_s6 M s.1 s.2.1 s.2.2) FU (v1, v2, v3)
def f_X8_weigh_s78 (v2 : Int) (v3 : Int) (M : Mem) (v1 : Int) (v4 : Int) : Option ((Int × Int) ⊕ (Int × Int)) :=
  if (M 35 9) ≤ v4 then
    some (.inr (v1, v4))
  else
    if v2 = 0 then
      if v3 = 0 then
        if (M 35 19) ≤ v1 then
          some (.inr (v1, v4))
        else
          gd ((0 : Int) ≤ v4 ∧ (v4 : Int) < 16) <|
          obn (f_X8_spreadOf (wrap (v4 * 3)) M) fun r_2 =>
          lt (wrap (v1 + (wrap ((M 42 v4.toNat) * r_2)))) fun v1_3 =>
          lt (wrap (v4 + 1)) fun v4_3 =>
          some (.inl (v1_3, v4_3))
      else
        gd ((0 : Int) ≤ v4 ∧ (v4 : Int) < 16) <|
        obn (f_X8_spreadOf (wrap (v4 * 3)) M) fun r =>
        lt (wrap (v1 + (wrap ((M 42 v4.toNat) * r)))) fun v1_2 =>
        lt (wrap (v4 + 1)) fun v4_2 =>
        some (.inl (v1_2, v4_2))
    else
      some (.inr (v1, v4))
def f_X8_weigh_l78 (v2 : Int) (v3 : Int) (M : Mem) (v1 : Int) (v4 : Int) : Option (Int × Int) := whl (fun s => f_X8_weigh_s78 v2 v3 M s.1 s.2) FU (v1, v4)
def f_X8_weigh_j128 (v1 : Int) (v2 : Int) (v3 : Int) (M : Mem) : Option (Mem) :=
  if v2 = 0 then
    if v3 = 0 then
      if (M 35 19) ≤ v1 then
        some M
      else
        lt (mup M 35 17 1) fun M_6 =>
        lt (mup M_6 35 18 (M_6 35 16)) fun M_7 =>
        lt (mup M_7 35 19 v1) fun M_8 =>
        gd ((0 : Int) ≤ 0 ∧ (0 : Int) ≤ 0 ∧ (0 : Int) ≤ M_8 35 2 ∧ (0 : Int) + M_8 35 2 ≤ 9 ∧ (0 : Int) + M_8 35 2 ≤ 9) <|
        lt (mcp M_8 46 0 47 0 (M_8 35 2)) fun M_9 =>
        some M_9
    else
      lt (mup M 35 17 1) fun M_2 =>
      lt (mup M_2 35 18 (M_2 35 16)) fun M_3 =>
      lt (mup M_3 35 19 v1) fun M_4 =>
      gd ((0 : Int) ≤ 0 ∧ (0 : Int) ≤ 0 ∧ (0 : Int) ≤ M_4 35 2 ∧ (0 : Int) + M_4 35 2 ≤ 9 ∧ (0 : Int) + M_4 35 2 ≤ 9) <|
      lt (mcp M_4 46 0 47 0 (M_4 35 2)) fun M_5 =>
      some M_5
  else
    some M
def f_X8_weigh_j74 (v1 : Int) (v2 : Int) (s0 : Int) (M : Mem) : Option (Mem) :=
  obn (f_X8_weigh_l78 v2 s0 M v1 0) fun s => f_X8_weigh_j128 s.1 v2 s0 M
def f_X8_weigh_j51 (v1 : Int) (v2 : Int) (M : Mem) : Option (Mem) :=
  if (M 35 17) = 0 then
    f_X8_weigh_j74 v1 v2 1 M
  else
    if (M 35 18) ≤ (M 35 16) then
      f_X8_weigh_j74 v1 v2 0 M
    else
      f_X8_weigh_j74 v1 v2 1 M
def f_X8_weigh (M : Mem) : Option (Mem) :=
  obn (f_X8_weigh_l6 M 0 0 0) fun s => f_X8_weigh_j51 s.1 s.2.1 M
def rm_X8_weigh : Room := { frames := 2, cells := 0, slots := 0, locals := 84 }
def f_X8_isPerfect (M : Mem) : Option (Int) :=
  if (M 35 17) = 0 then
    some 0
  else
    if (M 35 18) = 0 then
      if (M 35 19) = 0 then
        some 1
      else
        some 0
    else
      some 0
def rm_X8_isPerfect : Room := { frames := 0, cells := 0, slots := 0, locals := 0 }
def f_X8_isRepeat_s23 (v1 : Int) (M : Mem) (v2 : Int) : Option ((Int) ⊕ ((Int) ⊕ (Int))) :=
  if v1 ≤ v2 then
    some (.inr (.inl v2))
  else
    gd ((0 : Int) ≤ v2 ∧ (v2 : Int) < 3) <|
    if (M 45 v2.toNat) = 0 then
      gd ((0 : Int) ≤ v2 ∧ (v2 : Int) < 3) <|
      gd ((0 : Int) ≤ v1 ∧ (v1 : Int) < 3) <|
      if (M 16 v2.toNat) = (M 16 v1.toNat) then
        gd ((0 : Int) ≤ v2 ∧ (v2 : Int) < 3) <|
        gd ((0 : Int) ≤ v1 ∧ (v1 : Int) < 3) <|
        if (M 12 v2.toNat) = (M 12 v1.toNat) then
          some (.inr (.inr 1))
        else
          lt (wrap (v2 + 1)) fun v2_4 =>
          some (.inl v2_4)
      else
        lt (wrap (v2 + 1)) fun v2_3 =>
        some (.inl v2_3)
    else
      lt (wrap (v2 + 1)) fun v2_2 =>
      some (.inl v2_2)
def f_X8_isRepeat_l23 (v1 : Int) (M : Mem) (v2 : Int) : Option ((Int) ⊕ (Int)) := whl (fun s => f_X8_isRepeat_s23 v1 M s) FU v2
def f_X8_isRepeat_j87 (M : Mem) : Option (Int) :=
  some 0
def f_X8_isRepeat (p1 : Int) (M : Mem) : Option (Int) :=
  gd ((0 : Int) ≤ p1 ∧ (p1 : Int) < 3) <|
  if (M 45 p1.toNat) = 0 then
    if (M 37 0) = (-1) then
      lpr (f_X8_isRepeat_l23 p1 M 0) (fun s => f_X8_isRepeat_j87 M) (fun q => some q)
    else
      some 0
  else
    some 0
def rm_X8_isRepeat : Room := { frames := 0, cells := 0, slots := 0, locals := 0 }
def f_X8_movesOf (p1 : Int) (p2 : Int) (M : Mem) : Option (Int) :=
  gd ((0 : Int) ≤ p1 ∧ (p1 : Int) < 9) <|
  if (M 37 p1.toNat) = (-1) then
    some 0
  else
    gd ((0 : Int) ≤ p1 ∧ (p1 : Int) < 9) <|
    if (M 37 p1.toNat) = p2 then
      some 0
    else
      some 1
def rm_X8_movesOf : Room := { frames := 0, cells := 0, slots := 0, locals := 0 }
def f_X8_mayJoin (p1 : Int) (p2 : Int) (M : Mem) : Option (Int) :=
  gd ((0 : Int) ≤ p2 ∧ (p2 : Int) < 3) <|
  lt (bor (M 45 p2.toNat) (bshl 1 p1)) fun v3 =>
  gd ((0 : Int) ≤ v3 ∧ (v3 : Int) < 512) <|
  if (band (bshr (M 39 v3.toNat) p2) 1) = 0 then
    some 0
  else
    gd ((0 : Int) ≤ p1 ∧ (p1 : Int) < 9) <|
    if (band (M 38 p1.toNat) (bxor v3 (-1))) = 0 then
      if (M 35 17) = 0 then
        some 1
      else
        obn (f_X8_movesOf p1 p2 M) fun r =>
        if (M 35 18) < (wrap ((M 35 16) + r)) then
          some 0
        else
          some 1
    else
      some 0
def rm_X8_mayJoin : Room := { frames := 1, cells := 0, slots := 0, locals := 22 }
def f_X8_put_s39 (v1 : Int) (v2 : Int) (v3 : Int) (v4 : Int) (M : Mem) : Option ((Int × Mem) ⊕ (Int × Mem)) :=
  if (M 35 9) ≤ v4 then
    some (.inr (v4, M))
  else
    gd ((0 : Int) ≤ (wrap ((wrap (v4 * 3)) + v2)) ∧ ((wrap ((wrap (v4 * 3)) + v2)) : Int) < 48) <|
    gd ((0 : Int) ≤ (wrap ((wrap (v4 * 9)) + v1)) ∧ ((wrap ((wrap (v4 * 9)) + v1)) : Int) < 144) <|
    gd ((0 : Int) ≤ (wrap ((wrap (v4 * 3)) + v2)) ∧ ((wrap ((wrap (v4 * 3)) + v2)) : Int) < 48) <|
    lt (mup M 44 (wrap ((wrap (v4 * 3)) + v2)).toNat (wrap ((M 44 (wrap ((wrap (v4 * 3)) + v2)).toNat) + (wrap (v3 * (M 43 (wrap ((wrap (v4 * 9)) + v1)).toNat)))))) fun M_2 =>
    lt (wrap (v4 + 1)) fun v4_2 =>
    some (.inl (v4_2, M_2))
def f_X8_put_l39 (v1 : Int) (v2 : Int) (v3 : Int) (v4 : Int) (M : Mem) : Option (Int × Mem) := whl (fun s => f_X8_put_s39 v1 v2 v3 s.1 s.2) FU (v4, M)
def f_X8_put_j82 (M : Mem) : Option (Mem) :=
  some M
def f_X8_put (p1 : Int) (p2 : Int) (p3 : Int) (M : Mem) : Option (Mem) :=
  gd ((0 : Int) ≤ p1 ∧ (p1 : Int) < 9) <|
  lt (mup M 46 p1.toNat p2) fun M_2 =>
  gd ((0 : Int) ≤ p2 ∧ (p2 : Int) < 3) <|
  gd ((0 : Int) ≤ p2 ∧ (p2 : Int) < 3) <|
  lt (mup M_2 45 p2.toNat (bxor (M_2 45 p2.toNat) (bshl 1 p1))) fun M_3 =>
  obn (f_X8_movesOf p1 p2 M_3) fun r =>
  lt (mup M_3 35 16 (wrap ((M_3 35 16) + (wrap (p3 * r))))) fun M_4 =>
  obn (f_X8_put_l39 p1 p2 p3 0 M_4) fun s => f_X8_put_j82 s.2
def rm_X8_put : Room := { frames := 1, cells := 0, slots := 0, locals := 22 }
def f_X8_assign_s15 (d : Nat) (rec : Int → Mem → Option Mem) (v1 : Int) (v2 : Int) (M : Mem) : Option ((Int × Mem) ⊕ (Int × Mem)) :=
  if (M 3 13) ≤ v2 then
    some (.inr (v2, M))
  else
    obn (f_X8_isPerfect M) fun r =>
    if r = 0 then
      obn (f_X8_isRepeat v2 M) fun r_2 =>
      if r_2 = 0 then
        obn (f_X8_mayJoin v1 v2 M) fun r_3 =>
        if r_3 = 0 then
          lt (wrap (v2 + 1)) fun v2_3 =>
          some (.inl (v2_3, M))
        else
          obn (f_X8_put v1 v2 1 M) fun M_2 =>
          obn (rec (wrap (v1 + 1)) M_2) fun M_3 =>
          obn (f_X8_put v1 v2 (-1) M_3) fun M_4 =>
          lt (wrap (v2 + 1)) fun v2_4 =>
          some (.inl (v2_4, M_4))
      else
        lt (wrap (v2 + 1)) fun v2_2 =>
        some (.inl (v2_2, M))
    else
      some (.inr (v2, M))
def f_X8_assign_l15 (d : Nat) (rec : Int → Mem → Option Mem) (v1 : Int) (v2 : Int) (M : Mem) : Option (Int × Mem) := whl (fun s => f_X8_assign_s15 d rec v1 s.1 s.2) FU (v2, M)
def f_X8_assign_j77 (d : Nat) (rec : Int → Mem → Option Mem) (M : Mem) : Option (Mem) :=
  some M
def f_X8_assign_b (d : Nat) (rec : Int → Mem → Option Mem) (p1 : Int) (M : Mem) : Option (Mem) :=
  if p1 < (M 35 2) then
    obn (f_X8_assign_l15 d rec p1 0 M) fun s => f_X8_assign_j77 d rec s.2
  else
    obn (f_X8_weigh M) fun M_2 =>
    some M_2
def f_X8_asg : Nat → Int → Mem → Option Mem
  | 0, _, _ => none
  | d + 1, p1, M => f_X8_assign_b d (f_X8_asg d) p1 M
def f_X8_assign (p1 : Int) (M : Mem) : Option Mem := f_X8_asg 11 p1 M
def rmr_X8_assign (d : Nat) : Room := { frames := d + 3, cells := 0, slots := 0, locals := (d + 1) * 22 + 200 }
def rm_X8_assign : Room := rmr_X8_assign 11
def f_X8_run (M : Mem) : Option (Mem) :=
  obn (f_X8_readSets M) fun M_2 =>
  obn (f_X8_readTwins M_2) fun M_3 =>
  obn (f_X8_readSpreads M_3) fun M_4 =>
  obn (f_J7_fill_53178 45 0 M_4) fun M_5 =>
  lt (mup M_5 35 16 0) fun M_6 =>
  lt (mup M_6 35 18 0) fun M_7 =>
  lt (mup M_7 35 19 0) fun M_8 =>
  obn (f_X8_assign 0 M_8) fun M_9 =>
  some M_9
def rm_X8_run : Room := { frames := 15, cells := 0, slots := 0, locals := 486 }
def f_X8_seatOf_s2 (v1 : Int) (M : Mem) (v2 : Int) : Option ((Int) ⊕ ((Int) ⊕ (Int))) :=
  if (M 35 2) ≤ v2 then
    some (.inr (.inl v2))
  else
    gd ((0 : Int) ≤ v2 ∧ (v2 : Int) < 9) <|
    if (M 36 v2.toNat) = v1 then
      gd ((0 : Int) ≤ v2 ∧ (v2 : Int) < 9) <|
      some (.inr (.inr (M 47 v2.toNat)))
    else
      lt (wrap (v2 + 1)) fun v2_2 =>
      some (.inl v2_2)
def f_X8_seatOf_l2 (v1 : Int) (M : Mem) (v2 : Int) : Option ((Int) ⊕ (Int)) := whl (fun s => f_X8_seatOf_s2 v1 M s) FU v2
def f_X8_seatOf_j33 (M : Mem) : Option (Int) :=
  some (-1)
def f_X8_seatOf (p1 : Int) (M : Mem) : Option (Int) :=
  lpr (f_X8_seatOf_l2 p1 M 0) (fun s => f_X8_seatOf_j33 M) (fun q => some q)
def rm_X8_seatOf : Room := { frames := 0, cells := 0, slots := 0, locals := 0 }
def f_X8_groupOf_s11 (v2 : Int) (M : Mem) (v3 : Int) (v4 : Int) : Option ((Int × Int) ⊕ (Int × Int)) :=
  if (M 35 2) ≤ v4 then
    some (.inr (v3, v4))
  else
    gd ((0 : Int) ≤ v4 ∧ (v4 : Int) < 9) <|
    if (M 47 v4.toNat) = v2 then
      gd ((0 : Int) ≤ v4 ∧ (v4 : Int) < 9) <|
      lt (bor v3 (bshl 1 (M 36 v4.toNat))) fun v3_2 =>
      lt (wrap (v4 + 1)) fun v4_3 =>
      some (.inl (v3_2, v4_3))
    else
      lt (wrap (v4 + 1)) fun v4_2 =>
      some (.inl (v3, v4_2))
def f_X8_groupOf_l11 (v2 : Int) (M : Mem) (v3 : Int) (v4 : Int) : Option (Int × Int) := whl (fun s => f_X8_groupOf_s11 v2 M s.1 s.2) FU (v3, v4)
def f_X8_groupOf_j49 (v3 : Int) (M : Mem) : Option (Int) :=
  some v3
def f_X8_groupOf (p1 : Int) (M : Mem) : Option (Int) :=
  obn (f_X8_seatOf p1 M) fun r =>
  obn (f_X8_groupOf_l11 r M 0 0) fun s => f_X8_groupOf_j49 s.1 M
def rm_X8_groupOf : Room := { frames := 1, cells := 0, slots := 0, locals := 22 }
end
noncomputable section
def f_X2_firstClass_j76k7 (v1 : Int) (v2 : Int) (v3 : Int) (v4 : Int) (M : Mem) : Option ((Int × Int × Int × Mem) ⊕ (Int × Int × Int × Mem)) :=
  gd ((0 : Int) ≤ v4 ∧ (v4 : Int) < 3) <|
  gd ((0 : Int) ≤ v4 ∧ (v4 : Int) < 3) <|
  lt (mup M 49 v4.toNat (band (M 49 v4.toNat) (bxor (bshl 1 v1) (-1)))) fun M_2 =>
  lt (wrap (v4 + 1)) fun v4_2 =>
  some (.inl (v2, v3, v4_2, M_2))
def f_X2_firstClass_s7 (v1 : Int) (v2 : Int) (v3 : Int) (v4 : Int) (M : Mem) : Option ((Int × Int × Int × Mem) ⊕ (Int × Int × Int × Mem)) :=
  if (M 3 13) ≤ v4 then
    some (.inr (v2, v3, v4, M))
  else
    gd ((0 : Int) ≤ v4 ∧ (v4 : Int) < 3) <|
    gd ((0 : Int) ≤ v4 ∧ (v4 : Int) < 3) <|
    lt (mup M 49 v4.toNat (bor (M 49 v4.toNat) (bshl 1 v1))) fun M_2 =>
    obn (f_X4_isSound 49 M_2) fun r =>
    if r = 0 then
      gd ((0 : Int) ≤ v4 ∧ (v4 : Int) < 3) <|
      gd ((0 : Int) ≤ v4 ∧ (v4 : Int) < 3) <|
      lt (mup M_2 49 v4.toNat (band (M_2 49 v4.toNat) (bxor (bshl 1 v1) (-1)))) fun M_3 =>
      lt (wrap (v4 + 1)) fun v4_2 =>
      some (.inl (v2, v3, v4_2, M_3))
    else
      obn (f_X4_harmOf 49 M_2) fun r_2 =>
      if v2 = (-1) then
        f_X2_firstClass_j76k7 v1 v4 r_2 v4 M_2
      else
        if v3 ≤ r_2 then
          gd ((0 : Int) ≤ v4 ∧ (v4 : Int) < 3) <|
          gd ((0 : Int) ≤ v4 ∧ (v4 : Int) < 3) <|
          lt (mup M_2 49 v4.toNat (band (M_2 49 v4.toNat) (bxor (bshl 1 v1) (-1)))) fun M_4 =>
          lt (wrap (v4 + 1)) fun v4_3 =>
          some (.inl (v2, v3, v4_3, M_4))
        else
          f_X2_firstClass_j76k7 v1 v4 r_2 v4 M_2
def f_X2_firstClass_l7 (v1 : Int) (v2 : Int) (v3 : Int) (v4 : Int) (M : Mem) : Option (Int × Int × Int × Mem) := whl (fun s => f_X2_firstClass_s7 v1 s.1 s.2.1 s.2.2.1 s.2.2.2) FU (v2, v3, v4, M)
def f_X2_firstClass_j97 (v2 : Int) (M : Mem) : Option (Int × Mem) :=
  some (v2, M)
def f_X2_firstClass (p1 : Int) (M : Mem) : Option (Int × Mem) :=
  obn (f_X2_firstClass_l7 p1 (-1) 0 0 M) fun s => f_X2_firstClass_j97 s.1 s.2.2.2
def rm_X2_firstClass : Room := { frames := 4, cells := 0, slots := 0, locals := 109 }
def f_X2_starts_s10 (v1 : Int) (M : Mem) : Option ((Int × Mem) ⊕ ((Int × Mem) ⊕ (Int × Mem))) :=
  if (M 3 0) ≤ v1 then
    some (.inr (.inl (v1, M)))
  else
    bnd (f_X2_firstClass v1 M) fun r M_2 =>
    if r = (-1) then
      some (.inr (.inr (0, M_2)))
    else
      gd ((0 : Int) ≤ v1 ∧ (v1 : Int) < 14) <|
      lt (mup M_2 50 v1.toNat r) fun M_3 =>
      gd ((0 : Int) ≤ r ∧ (r : Int) < 3) <|
      gd ((0 : Int) ≤ r ∧ (r : Int) < 3) <|
      lt (mup M_3 49 r.toNat (bor (M_3 49 r.toNat) (bshl 1 v1))) fun M_4 =>
      lt (wrap (v1 + 1)) fun v1_2 =>
      some (.inl (v1_2, M_4))
def f_X2_starts_l10 (v1 : Int) (M : Mem) : Option ((Int × Mem) ⊕ (Int × Mem)) := whl (fun s => f_X2_starts_s10 s.1 s.2) FU (v1, M)
def f_X2_starts_j59 (M : Mem) : Option (Int × Mem) :=
  obn (f_X4_lackOf 49 M) fun r =>
  lt (mup M 48 5 r) fun M_2 =>
  obn (f_X4_harmOf 49 M_2) fun r_2 =>
  lt (mup M_2 48 6 r_2) fun M_3 =>
  lt (mup M_3 48 4 0) fun M_4 =>
  some (1, M_4)
def f_X2_starts (M : Mem) : Option (Int × Mem) :=
  obn (f_J7_fill_53178 49 0 M) fun M_2 =>
  lpr (f_X2_starts_l10 0 M_2) (fun s => f_X2_starts_j59 s.2) (fun q => some q)
def rm_X2_starts : Room := { frames := 5, cells := 0, slots := 0, locals := 134 }
def f_X2_moveBetters (p1 : Int) (p2 : Int) (p3 : Int) (M : Mem) : Option (Int × Mem) :=
  gd ((0 : Int) ≤ p2 ∧ (p2 : Int) < 3) <|
  gd ((0 : Int) ≤ p2 ∧ (p2 : Int) < 3) <|
  lt (mup M 49 p2.toNat (bxor (M 49 p2.toNat) p1)) fun M_2 =>
  gd ((0 : Int) ≤ p3 ∧ (p3 : Int) < 3) <|
  gd ((0 : Int) ≤ p3 ∧ (p3 : Int) < 3) <|
  lt (mup M_2 49 p3.toNat (bxor (M_2 49 p3.toNat) p1)) fun M_3 =>
  obn (f_X4_lackOf 49 M_3) fun r =>
  if (M_3 48 5) < r then
    gd ((0 : Int) ≤ p2 ∧ (p2 : Int) < 3) <|
    gd ((0 : Int) ≤ p2 ∧ (p2 : Int) < 3) <|
    lt (mup M_3 49 p2.toNat (bxor (M_3 49 p2.toNat) p1)) fun M_4 =>
    gd ((0 : Int) ≤ p3 ∧ (p3 : Int) < 3) <|
    gd ((0 : Int) ≤ p3 ∧ (p3 : Int) < 3) <|
    lt (mup M_4 49 p3.toNat (bxor (M_4 49 p3.toNat) p1)) fun M_5 =>
    some (0, M_5)
  else
    obn (f_X4_isSound 49 M_3) fun r_2 =>
    if r_2 = 0 then
      gd ((0 : Int) ≤ p2 ∧ (p2 : Int) < 3) <|
      gd ((0 : Int) ≤ p2 ∧ (p2 : Int) < 3) <|
      lt (mup M_3 49 p2.toNat (bxor (M_3 49 p2.toNat) p1)) fun M_6 =>
      gd ((0 : Int) ≤ p3 ∧ (p3 : Int) < 3) <|
      gd ((0 : Int) ≤ p3 ∧ (p3 : Int) < 3) <|
      lt (mup M_6 49 p3.toNat (bxor (M_6 49 p3.toNat) p1)) fun M_7 =>
      some (0, M_7)
    else
      obn (f_X4_harmOf 49 M_3) fun r_3 =>
      if r < (M_3 48 5) then
        lt (mup M_3 48 5 r) fun M_8 =>
        lt (mup M_8 48 6 r_3) fun M_9 =>
        some (1, M_9)
      else
        if (M_3 48 6) ≤ r_3 then
          gd ((0 : Int) ≤ p2 ∧ (p2 : Int) < 3) <|
          gd ((0 : Int) ≤ p2 ∧ (p2 : Int) < 3) <|
          lt (mup M_3 49 p2.toNat (bxor (M_3 49 p2.toNat) p1)) fun M_10 =>
          gd ((0 : Int) ≤ p3 ∧ (p3 : Int) < 3) <|
          gd ((0 : Int) ≤ p3 ∧ (p3 : Int) < 3) <|
          lt (mup M_10 49 p3.toNat (bxor (M_10 49 p3.toNat) p1)) fun M_11 =>
          some (0, M_11)
        else
          lt (mup M_3 48 5 r) fun M_12 =>
          lt (mup M_12 48 6 r_3) fun M_13 =>
          some (1, M_13)
def rm_X2_moveBetters : Room := { frames := 4, cells := 0, slots := 0, locals := 109 }
def f_X2_stepsByMove_s22 (v1 : Int) (v2 : Int) (v3 : Int) (M : Mem) : Option ((Int × Mem) ⊕ ((Int × Mem) ⊕ (Int × Mem))) :=
  if (M 3 13) ≤ v3 then
    some (.inr (.inl (v3, M)))
  else
    if v3 = v2 then
      lt (wrap (v3 + 1)) fun v3_2 =>
      some (.inl (v3_2, M))
    else
      bnd (f_X2_moveBetters (bshl 1 v1) v2 v3 M) fun r M_2 =>
      if r = 0 then
        lt (wrap (v3 + 1)) fun v3_3 =>
        some (.inl (v3_3, M_2))
      else
        gd ((0 : Int) ≤ v1 ∧ (v1 : Int) < 14) <|
        lt (mup M_2 50 v1.toNat v3) fun M_3 =>
        some (.inr (.inr (1, M_3)))
def f_X2_stepsByMove_l22 (v1 : Int) (v2 : Int) (v3 : Int) (M : Mem) : Option ((Int × Mem) ⊕ (Int × Mem)) := whl (fun s => f_X2_stepsByMove_s22 v1 v2 s.1 s.2) FU (v3, M)
def f_X2_stepsByMove_j65k2 (v1 : Int) (M : Mem) : Option ((Int × Mem) ⊕ ((Int × Mem) ⊕ (Int × Mem))) :=
  lt (wrap (v1 + 1)) fun v1_2 =>
  some (.inl (v1_2, M))
def f_X2_stepsByMove_s2 (v1 : Int) (M : Mem) : Option ((Int × Mem) ⊕ ((Int × Mem) ⊕ (Int × Mem))) :=
  if (M 3 0) ≤ v1 then
    some (.inr (.inl (v1, M)))
  else
    gd ((0 : Int) ≤ v1 ∧ (v1 : Int) < 14) <|
    lt (M 50 v1.toNat) fun v2 =>
    lpr (f_X2_stepsByMove_l22 v1 v2 0 M) (fun s => f_X2_stepsByMove_j65k2 v1 s.2) (fun q => some (.inr (.inr q)))
def f_X2_stepsByMove_l2 (v1 : Int) (M : Mem) : Option ((Int × Mem) ⊕ (Int × Mem)) := whl (fun s => f_X2_stepsByMove_s2 s.1 s.2) FU (v1, M)
def f_X2_stepsByMove_j71 (M : Mem) : Option (Int × Mem) :=
  some (0, M)
def f_X2_stepsByMove (M : Mem) : Option (Int × Mem) :=
  lpr (f_X2_stepsByMove_l2 0 M) (fun s => f_X2_stepsByMove_j71 s.2) (fun q => some q)
def rm_X2_stepsByMove : Room := { frames := 5, cells := 0, slots := 0, locals := 134 }
def f_X2_stepsBySwap_s17 (v1 : Int) (v2 : Int) (M : Mem) : Option ((Int × Mem) ⊕ ((Int × Mem) ⊕ (Int × Mem))) :=
  if (M 3 0) ≤ v2 then
    some (.inr (.inl (v2, M)))
  else
    gd ((0 : Int) ≤ v1 ∧ (v1 : Int) < 14) <|
    lt (M 50 v1.toNat) fun v3 =>
    gd ((0 : Int) ≤ v2 ∧ (v2 : Int) < 14) <|
    lt (M 50 v2.toNat) fun v4 =>
    if v3 = v4 then
      lt (wrap (v2 + 1)) fun v2_2 =>
      some (.inl (v2_2, M))
    else
      bnd (f_X2_moveBetters (bor (bshl 1 v1) (bshl 1 v2)) v3 v4 M) fun r M_2 =>
      if r = 0 then
        lt (wrap (v2 + 1)) fun v2_3 =>
        some (.inl (v2_3, M_2))
      else
        gd ((0 : Int) ≤ v1 ∧ (v1 : Int) < 14) <|
        lt (mup M_2 50 v1.toNat v4) fun M_3 =>
        gd ((0 : Int) ≤ v2 ∧ (v2 : Int) < 14) <|
        lt (mup M_3 50 v2.toNat v3) fun M_4 =>
        some (.inr (.inr (1, M_4)))
def f_X2_stepsBySwap_l17 (v1 : Int) (v2 : Int) (M : Mem) : Option ((Int × Mem) ⊕ (Int × Mem)) := whl (fun s => f_X2_stepsBySwap_s17 v1 s.1 s.2) FU (v2, M)
def f_X2_stepsBySwap_j89k2 (v1 : Int) (M : Mem) : Option ((Int × Mem) ⊕ ((Int × Mem) ⊕ (Int × Mem))) :=
  lt (wrap (v1 + 1)) fun v1_2 =>
  some (.inl (v1_2, M))
def f_X2_stepsBySwap_s2 (v1 : Int) (M : Mem) : Option ((Int × Mem) ⊕ ((Int × Mem) ⊕ (Int × Mem))) :=
  if (M 3 0) ≤ v1 then
    some (.inr (.inl (v1, M)))
  else
    lt (wrap (v1 + 1)) fun v2 =>
    lpr (f_X2_stepsBySwap_l17 v1 v2 M) (fun s => f_X2_stepsBySwap_j89k2 v1 s.2) (fun q => some (.inr (.inr q)))
def f_X2_stepsBySwap_l2 (v1 : Int) (M : Mem) : Option ((Int × Mem) ⊕ (Int × Mem)) := whl (fun s => f_X2_stepsBySwap_s2 s.1 s.2) FU (v1, M)
def f_X2_stepsBySwap_j95 (M : Mem) : Option (Int × Mem) :=
  some (0, M)
def f_X2_stepsBySwap (M : Mem) : Option (Int × Mem) :=
  lpr (f_X2_stepsBySwap_l2 0 M) (fun s => f_X2_stepsBySwap_j95 s.2) (fun q => some q)
def rm_X2_stepsBySwap : Room := { frames := 5, cells := 0, slots := 0, locals := 134 }
def f_X2_improve_s0 (M : Mem) : Option ((Mem) ⊕ (Mem)) :=
  if 1000000 ≤ (M 48 4) then
    some (.inr M)
  else
    bnd (f_X2_stepsByMove M) fun r M_2 =>
    if r = 0 then
      bnd (f_X2_stepsBySwap M_2) fun r_2 M_4 =>
      if r_2 = 0 then
        some (.inr M_4)
      else
        lt (mup M_4 48 4 (wrap ((M_4 48 4) + 1))) fun M_5 =>
        some (.inl M_5)
    else
      lt (mup M_2 48 4 (wrap ((M_2 48 4) + 1))) fun M_3 =>
      some (.inl M_3)
def f_X2_improve_l0 (M : Mem) : Option (Mem) := whl (fun s => f_X2_improve_s0 s) FU M
def f_X2_improve_j36 (M : Mem) : Option (Mem) :=
  some M
def f_X2_improve (M : Mem) : Option (Mem) :=
  obn (f_X2_improve_l0 M) fun s => f_X2_improve_j36 s
def rm_X2_improve : Room := { frames := 6, cells := 0, slots := 0, locals := 158 }
end
noncomputable section
def f_X10_within (p0 : Int) (p1 : Int) (p2 : Int) (M : Mem) : Option (Int) :=
  if p0 < p1 then
    some 0
  else
    if p2 < p0 then
      some 0
    else
      some 1
def rm_X10_within : Room := { frames := 0, cells := 0, slots := 0, locals := 0 }
end
noncomputable section
def f_X6_next (M : Mem) : Option (Mem) :=
  if (M 24 2) ≤ (wrap ((M 29 4) + 1)) then
    some M
  else
    lt (mup M 29 4 (wrap ((M 29 4) + 1))) fun M_2 =>
    gd ((0 : Int) ≤ (M_2 29 4) ∧ ((M_2 29 4) : Int) < 401) <|
    lt (mup M_2 29 5 (M_2 26 (M_2 29 4).toNat)) fun M_3 =>
    gd ((0 : Int) ≤ (M_3 29 4) ∧ ((M_3 29 4) : Int) < 401) <|
    lt (mup M_3 29 6 (M_3 27 (M_3 29 4).toNat)) fun M_4 =>
    gd ((0 : Int) ≤ (M_4 29 4) ∧ ((M_4 29 4) : Int) < 401) <|
    lt (mup M_4 29 7 (M_4 28 (M_4 29 4).toNat)) fun M_5 =>
    some M_5
def rm_X6_next : Room := { frames := 0, cells := 0, slots := 0, locals := 0 }
def f_X6_refuse (p1 : Int) (M : Mem) : Option (Int × Mem) :=
  lt (mup M 29 0 p1) fun M_2 =>
  lt (mup M_2 29 1 (M_2 29 6)) fun M_3 =>
  some (0, M_3)
def rm_X6_refuse : Room := { frames := 0, cells := 0, slots := 0, locals := 0 }
def f_X6_readCode (p1 : Int) (M : Mem) : Option (Int × Mem) :=
  if (M 29 5) = p1 then
    obn (f_X6_next M) fun M_2 =>
    some (1, M_2)
  else
    bnd (f_X6_refuse 1 M) fun r M_3 =>
    gd (isZ r) <|
    some (r, M_3)
def rm_X6_readCode : Room := { frames := 1, cells := 0, slots := 0, locals := 21 }
def f_X6_readTerm_j118 (v1 : Int) (v2 : Int) (s0 : Int) (M : Mem) : Option (Int × Mem) :=
  bnd (f_X6_readCode s0 M) fun r M_2 =>
  if r = 0 then
    some (0, M_2)
  else
    if v2 = 7 then
      if (M_2 29 5) = (-3) then
        if (M_2 29 7) ≤ 7 then
          gd (isRu (M_2 29 3)) <|
          gd ((0 : Int) ≤ v1 ∧ (v1 : Int) < 128) <|
          lt (mup M_2 ((M_2 29 3).toNat + 8) v1.toNat (M_2 29 7)) fun M_7 =>
          bnd (f_X6_readCode (-3) M_7) fun r_4 M_8 =>
          gd (isZ r_4) <|
          some (r_4, M_8)
        else
          bnd (f_X6_refuse 2 M_2) fun r_5 M_9 =>
          gd (isZ r_5) <|
          some (r_5, M_9)
      else
        gd (isRu (M_2 29 3)) <|
        gd ((0 : Int) ≤ v1 ∧ (v1 : Int) < 128) <|
        lt (mup M_2 ((M_2 29 3).toNat + 8) v1.toNat (M_2 29 7)) fun M_5 =>
        bnd (f_X6_readCode (-3) M_5) fun r_3 M_6 =>
        gd (isZ r_3) <|
        some (r_3, M_6)
    else
      gd (isRu (M_2 29 3)) <|
      gd ((0 : Int) ≤ v1 ∧ (v1 : Int) < 128) <|
      lt (mup M_2 ((M_2 29 3).toNat + 8) v1.toNat (M_2 29 7)) fun M_3 =>
      bnd (f_X6_readCode (-3) M_3) fun r_2 M_4 =>
      gd (isZ r_2) <|
      some (r_2, M_4)
def f_X6_readTerm_j36 (v1 : Int) (M : Mem) : Option (Int × Mem) :=
  lt (M 29 5) fun v2 =>
  obn (f_X10_within v2 0 7 M) fun r =>
  if r = 0 then
    bnd (f_X6_refuse 1 M) fun r_6 M_12 =>
    gd (isZ r_6) <|
    some (r_6, M_12)
  else
    gd (isRu (M 29 3)) <|
    gd ((0 : Int) ≤ v1 ∧ (v1 : Int) < 128) <|
    lt (mup M ((M 29 3).toNat + 6) v1.toNat v2) fun M_2 =>
    obn (f_X6_next M_2) fun M_3 =>
    if v2 = 7 then
      if v2 = 7 then
        if (M_3 29 5) = (-3) then
          if (M_3 29 7) ≤ 7 then
            gd (isRu (M_3 29 3)) <|
            gd ((0 : Int) ≤ v1 ∧ (v1 : Int) < 128) <|
            lt (mup M_3 ((M_3 29 3).toNat + 8) v1.toNat (M_3 29 7)) fun M_8 =>
            bnd (f_X6_readCode (-3) M_8) fun r_4 M_9 =>
            gd (isZ r_4) <|
            some (r_4, M_9)
          else
            bnd (f_X6_refuse 2 M_3) fun r_5 M_10 =>
            gd (isZ r_5) <|
            some (r_5, M_10)
        else
          gd (isRu (M_3 29 3)) <|
          gd ((0 : Int) ≤ v1 ∧ (v1 : Int) < 128) <|
          lt (mup M_3 ((M_3 29 3).toNat + 8) v1.toNat (M_3 29 7)) fun M_6 =>
          bnd (f_X6_readCode (-3) M_6) fun r_3 M_7 =>
          gd (isZ r_3) <|
          some (r_3, M_7)
      else
        gd (isRu (M_3 29 3)) <|
        gd ((0 : Int) ≤ v1 ∧ (v1 : Int) < 128) <|
        lt (mup M_3 ((M_3 29 3).toNat + 8) v1.toNat (M_3 29 7)) fun M_4 =>
        bnd (f_X6_readCode (-3) M_4) fun r_2 M_5 =>
        gd (isZ r_2) <|
        some (r_2, M_5)
    else
      gd (isRu (M_3 29 3)) <|
      gd ((0 : Int) ≤ v1 ∧ (v1 : Int) < 128) <|
      lt (mup M_3 ((M_3 29 3).toNat + 7) v1.toNat (M_3 29 5)) fun M_11 =>
      if (M_11 29 5) = 60 then
        f_X6_readTerm_j118 v1 v2 (M_11 29 5) M_11
      else
        if (M_11 29 5) = 62 then
          f_X6_readTerm_j118 v1 v2 (M_11 29 5) M_11
        else
          f_X6_readTerm_j118 v1 v2 61 M_11
def f_X6_readTerm_j22 (v1 : Int) (s0 : Int) (s1 : Int) (t2 : Int) (M : Mem) : Option (Int × Mem) :=
  gd ((0 : Int) ≤ s1 ∧ (s1 : Int) < 128) <|
  gd (isZ s0) <|
  lt (mup M (t2.toNat + 5) s1.toNat s0) fun M_2 =>
  if (M_2 29 5) = 19 then
    obn (f_X6_next M_2) fun M_14 =>
    f_X6_readTerm_j36 v1 M_14
  else
    lt (M_2 29 5) fun v2 =>
    obn (f_X10_within v2 0 7 M_2) fun r =>
    if r = 0 then
      bnd (f_X6_refuse 1 M_2) fun r_6 M_13 =>
      gd (isZ r_6) <|
      some (r_6, M_13)
    else
      gd (isRu (M_2 29 3)) <|
      gd ((0 : Int) ≤ v1 ∧ (v1 : Int) < 128) <|
      lt (mup M_2 ((M_2 29 3).toNat + 6) v1.toNat v2) fun M_3 =>
      obn (f_X6_next M_3) fun M_4 =>
      if v2 = 7 then
        if v2 = 7 then
          if (M_4 29 5) = (-3) then
            if (M_4 29 7) ≤ 7 then
              gd (isRu (M_4 29 3)) <|
              gd ((0 : Int) ≤ v1 ∧ (v1 : Int) < 128) <|
              lt (mup M_4 ((M_4 29 3).toNat + 8) v1.toNat (M_4 29 7)) fun M_9 =>
              bnd (f_X6_readCode (-3) M_9) fun r_4 M_10 =>
              gd (isZ r_4) <|
              some (r_4, M_10)
            else
              bnd (f_X6_refuse 2 M_4) fun r_5 M_11 =>
              gd (isZ r_5) <|
              some (r_5, M_11)
          else
            gd (isRu (M_4 29 3)) <|
            gd ((0 : Int) ≤ v1 ∧ (v1 : Int) < 128) <|
            lt (mup M_4 ((M_4 29 3).toNat + 8) v1.toNat (M_4 29 7)) fun M_7 =>
            bnd (f_X6_readCode (-3) M_7) fun r_3 M_8 =>
            gd (isZ r_3) <|
            some (r_3, M_8)
        else
          gd (isRu (M_4 29 3)) <|
          gd ((0 : Int) ≤ v1 ∧ (v1 : Int) < 128) <|
          lt (mup M_4 ((M_4 29 3).toNat + 8) v1.toNat (M_4 29 7)) fun M_5 =>
          bnd (f_X6_readCode (-3) M_5) fun r_2 M_6 =>
          gd (isZ r_2) <|
          some (r_2, M_6)
      else
        gd (isRu (M_4 29 3)) <|
        gd ((0 : Int) ≤ v1 ∧ (v1 : Int) < 128) <|
        lt (mup M_4 ((M_4 29 3).toNat + 7) v1.toNat (M_4 29 5)) fun M_12 =>
        if (M_12 29 5) = 60 then
          f_X6_readTerm_j118 v1 v2 (M_12 29 5) M_12
        else
          if (M_12 29 5) = 62 then
            f_X6_readTerm_j118 v1 v2 (M_12 29 5) M_12
          else
            f_X6_readTerm_j118 v1 v2 61 M_12
def f_X6_readTerm (p1 : Int) (M : Mem) : Option (Int × Mem) :=
  gd (isRu (M 29 3)) <|
  if (M 29 5) = 19 then
    f_X6_readTerm_j22 p1 1 p1 (M 29 3) M
  else
    f_X6_readTerm_j22 p1 0 p1 (M 29 3) M
def rm_X6_readTerm : Room := { frames := 2, cells := 0, slots := 0, locals := 42 }
def f_X6_readTerms_s2 (v1 : Int) (v2 : Int) (M : Mem) : Option ((Int × Mem) ⊕ ((Int × Mem) ⊕ (Int × Mem))) :=
  if 4 < v2 then
    some (.inr (.inl (v2, M)))
  else
    if (M 29 5) = 19 then
      if v2 < 4 then
        bnd (f_X6_readTerm (wrap ((wrap (v1 * 4)) + v2)) M) fun r M_2 =>
        if r = 0 then
          some (.inr (.inr (0, M_2)))
        else
          gd (isRu (M_2 29 3)) <|
          gd ((0 : Int) ≤ v1 ∧ (v1 : Int) < 32) <|
          lt (mup M_2 ((M_2 29 3).toNat + 4) v1.toNat (wrap (v2 + 1))) fun M_3 =>
          if (M_3 29 5) = 20 then
            obn (f_X6_next M_3) fun M_4 =>
            lt (wrap (v2 + 1)) fun v2_2 =>
            some (.inl (v2_2, M_4))
          else
            some (.inr (.inr (1, M_3)))
      else
        bnd (f_X6_refuse 3 M) fun r_2 M_5 =>
        gd (isZ r_2) <|
        some (.inr (.inr (r_2, M_5)))
    else
      obn (f_X10_within (M 29 5) 0 7 M) fun r_3 =>
      if r_3 = 0 then
        bnd (f_X6_refuse 1 M) fun r_6 M_10 =>
        gd (isZ r_6) <|
        some (.inr (.inr (r_6, M_10)))
      else
        if v2 < 4 then
          bnd (f_X6_readTerm (wrap ((wrap (v1 * 4)) + v2)) M) fun r_4 M_6 =>
          if r_4 = 0 then
            some (.inr (.inr (0, M_6)))
          else
            gd (isRu (M_6 29 3)) <|
            gd ((0 : Int) ≤ v1 ∧ (v1 : Int) < 32) <|
            lt (mup M_6 ((M_6 29 3).toNat + 4) v1.toNat (wrap (v2 + 1))) fun M_7 =>
            if (M_7 29 5) = 20 then
              obn (f_X6_next M_7) fun M_8 =>
              lt (wrap (v2 + 1)) fun v2_3 =>
              some (.inl (v2_3, M_8))
            else
              some (.inr (.inr (1, M_7)))
        else
          bnd (f_X6_refuse 3 M) fun r_5 M_9 =>
          gd (isZ r_5) <|
          some (.inr (.inr (r_5, M_9)))
def f_X6_readTerms_l2 (v1 : Int) (v2 : Int) (M : Mem) : Option ((Int × Mem) ⊕ (Int × Mem)) := whl (fun s => f_X6_readTerms_s2 v1 s.1 s.2) FU (v2, M)
def f_X6_readTerms_j93 (M : Mem) : Option (Int × Mem) :=
  some (0, M)
def f_X6_readTerms (p1 : Int) (M : Mem) : Option (Int × Mem) :=
  lpr (f_X6_readTerms_l2 p1 0 M) (fun s => f_X6_readTerms_j93 s.2) (fun q => some q)
def rm_X6_readTerms : Room := { frames := 3, cells := 0, slots := 0, locals := 64 }
def f_X6_readNumber (p1 : Int) (M : Mem) : Option (Int × Mem) :=
  gd (isRu (M 29 3)) <|
  gd ((0 : Int) ≤ p1 ∧ (p1 : Int) < 16) <|
  lt (mup M ((M 29 3).toNat + 2) p1.toNat (M 29 7)) fun M_2 =>
  bnd (f_X6_readCode (-3) M_2) fun r M_3 =>
  gd (isZ r) <|
  some (r, M_3)
def rm_X6_readNumber : Room := { frames := 2, cells := 0, slots := 0, locals := 42 }
def f_X6_readWeight (p1 : Int) (M : Mem) : Option (Int × Mem) :=
  bnd (f_X6_readCode 58 M) fun r M_2 =>
  if r = 0 then
    some (0, M_2)
  else
    bnd (f_X6_readNumber p1 M_2) fun r_2 M_3 =>
    if r_2 = 0 then
      some (0, M_3)
    else
      some (1, M_3)
def rm_X6_readWeight : Room := { frames := 3, cells := 0, slots := 0, locals := 63 }
def f_X6_readTrait (p1 : Int) (M : Mem) : Option (Int × Mem) :=
  gd (isRu (M 29 3)) <|
  gd ((0 : Int) ≤ p1 ∧ (p1 : Int) < 16) <|
  lt (mup M ((M 29 3).toNat + 3) p1.toNat (M 29 5)) fun M_2 =>
  obn (f_X10_within (M_2 29 5) 0 6 M_2) fun r =>
  if r = 0 then
    bnd (f_X6_readCode 0 M_2) fun r_2 M_3 =>
    gd (isZ r_2) <|
    some (r_2, M_3)
  else
    bnd (f_X6_readCode (M_2 29 5) M_2) fun r_3 M_4 =>
    gd (isZ r_3) <|
    some (r_3, M_4)
def rm_X6_readTrait : Room := { frames := 2, cells := 0, slots := 0, locals := 42 }
def f_X6_readHow (p1 : Int) (M : Mem) : Option (Int × Mem) :=
  gd (isRu (M 29 3)) <|
  gd ((0 : Int) ≤ p1 ∧ (p1 : Int) < 16) <|
  lt (mup M ((M 29 3).toNat + 3) p1.toNat (M 29 5)) fun M_2 =>
  if (M_2 29 5) = 13 then
    bnd (f_X6_readCode (M_2 29 5) M_2) fun r M_3 =>
    gd (isZ r) <|
    some (r, M_3)
  else
    if (M_2 29 5) = 17 then
      bnd (f_X6_readCode (M_2 29 5) M_2) fun r_3 M_5 =>
      gd (isZ r_3) <|
      some (r_3, M_5)
    else
      bnd (f_X6_readCode 18 M_2) fun r_2 M_4 =>
      gd (isZ r_2) <|
      some (r_2, M_4)
def rm_X6_readHow : Room := { frames := 2, cells := 0, slots := 0, locals := 42 }
def f_X6_readBody (p1 : Int) (p2 : Int) (M : Mem) : Option (Int × Mem) :=
  if p2 < 8 ∨ 16 < p2 then
    bnd (f_X6_readWeight p1 M) fun r M_2 =>
    gd (isZ r) <|
    some (r, M_2)
  else if p2 = 8 then
    if (M 29 5) = 58 then
      bnd (f_X6_readWeight p1 M) fun r_2 M_3 =>
      if r_2 = 0 then
        some (0, M_3)
      else
        some (1, M_3)
    else
      bnd (f_X6_readTerms (wrap (2 * p1)) M) fun r_3 M_4 =>
      if r_3 = 0 then
        some (0, M_4)
      else
        bnd (f_X6_readWeight p1 M_4) fun r_4 M_5 =>
        if r_4 = 0 then
          some (0, M_5)
        else
          some (1, M_5)
  else if p2 = 9 then
    bnd (f_X6_readTrait p1 M) fun r_5 M_6 =>
    if r_5 = 0 then
      some (0, M_6)
    else
      bnd (f_X6_readWeight p1 M_6) fun r_6 M_7 =>
      if r_6 = 0 then
        some (0, M_7)
      else
        some (1, M_7)
  else if p2 = 10 then
    bnd (f_X6_readWeight p1 M) fun r_7 M_8 =>
    gd (isZ r_7) <|
    some (r_7, M_8)
  else if p2 = 11 then
    bnd (f_X6_readTerms (wrap (2 * p1)) M) fun r_8 M_9 =>
    if r_8 = 0 then
      some (0, M_9)
    else
      bnd (f_X6_readWeight p1 M_9) fun r_9 M_10 =>
      if r_9 = 0 then
        some (0, M_10)
      else
        some (1, M_10)
  else if p2 = 12 then
    bnd (f_X6_readWeight p1 M) fun r_10 M_11 =>
    gd (isZ r_10) <|
    some (r_10, M_11)
  else if p2 = 13 then
    bnd (f_X6_readTerms (wrap (2 * p1)) M) fun r_11 M_12 =>
    if r_11 = 0 then
      some (0, M_12)
    else
      bnd (f_X6_readCode 21 M_12) fun r_12 M_13 =>
      if r_12 = 0 then
        some (0, M_13)
      else
        bnd (f_X6_readTerms (wrap ((wrap (2 * p1)) + 1)) M_13) fun r_13 M_14 =>
        if r_13 = 0 then
          some (0, M_14)
        else
          some (1, M_14)
  else if p2 = 14 then
    bnd (f_X6_readNumber p1 M) fun r_14 M_15 =>
    if r_14 = 0 then
      some (0, M_15)
    else
      bnd (f_X6_readTerms (wrap (2 * p1)) M_15) fun r_15 M_16 =>
      if r_15 = 0 then
        some (0, M_16)
      else
        some (1, M_16)
  else if p2 = 15 then
    bnd (f_X6_readNumber p1 M) fun r_16 M_17 =>
    if r_16 = 0 then
      some (0, M_17)
    else
      bnd (f_X6_readTerms (wrap (2 * p1)) M_17) fun r_17 M_18 =>
      if r_17 = 0 then
        some (0, M_18)
      else
        some (1, M_18)
  else if p2 = 16 then
    bnd (f_X6_readHow p1 M) fun r_18 M_19 =>
    gd (isZ r_18) <|
    some (r_18, M_19)
  else none
def rm_X6_readBody : Room := { frames := 4, cells := 0, slots := 0, locals := 86 }
def f_X6_readStatement (p1 : Int) (M : Mem) : Option (Int × Mem) :=
  lt (M 29 5) fun v2 =>
  obn (f_X10_within v2 8 16 M) fun r =>
  if r = 0 then
    bnd (f_X6_refuse 1 M) fun r_5 M_8 =>
    gd (isZ r_5) <|
    some (r_5, M_8)
  else
    if p1 < 16 then
      gd (isRu (M 29 3)) <|
      gd ((0 : Int) ≤ p1 ∧ (p1 : Int) < 16) <|
      lt (mup M ((M 29 3).toNat + 1) p1.toNat v2) fun M_2 =>
      gd (isRu (M_2 29 3)) <|
      lt (mup M_2 ((M_2 29 3).toNat) 0 (wrap (p1 + 1))) fun M_3 =>
      obn (f_X6_next M_3) fun M_4 =>
      bnd (f_X6_readBody p1 v2 M_4) fun r_2 M_5 =>
      if r_2 = 0 then
        some (0, M_5)
      else
        bnd (f_X6_readCode 59 M_5) fun r_3 M_6 =>
        if r_3 = 0 then
          some (0, M_6)
        else
          some (1, M_6)
    else
      bnd (f_X6_refuse 3 M) fun r_4 M_7 =>
      gd (isZ r_4) <|
      some (r_4, M_7)
def rm_X6_readStatement : Room := { frames := 5, cells := 0, slots := 0, locals := 108 }
def f_X6_reads_s40 (p1 : Int) (v2 : Int) (M : Mem) : Option ((Int × Mem) ⊕ ((Int × Mem) ⊕ (Int × Mem))) :=
  if 16 < v2 then
    some (.inr (.inl (v2, M)))
  else
    if (M 29 5) = (-1) then
      some (.inr (.inl (v2, M)))
    else
      bnd (f_X6_readStatement v2 M) fun r M_2 =>
      if r = 0 then
        some (.inr (.inr (0, M_2)))
      else
        lt (wrap (v2 + 1)) fun v2_2 =>
        some (.inl (v2_2, M_2))
def f_X6_reads_l40 (p1 : Int) (v2 : Int) (M : Mem) : Option ((Int × Mem) ⊕ (Int × Mem)) := whl (fun s => f_X6_reads_s40 p1 s.1 s.2) FU (v2, M)
def f_X6_reads_j70 (p1 : Int) (M : Mem) : Option (Int × Mem) :=
  some (1, M)
def f_X6_reads (p1 : Int) (M : Mem) : Option (Int × Mem) :=
  lt (mup M 29 3 p1) fun M_2 =>
  gd (isRu (M_2 29 3)) <|
  obn (f_X7_clear (M_2 29 3) M_2) fun M_3 =>
  lt (mup M_3 29 0 0) fun M_4 =>
  lt (mup M_4 29 1 (-1)) fun M_5 =>
  obn (f_X9_scan M_5) fun M_6 =>
  lt (mup M_6 29 4 (-1)) fun M_7 =>
  obn (f_X6_next M_7) fun M_8 =>
  lpr (f_X6_reads_l40 p1 0 M_8) (fun s => f_X6_reads_j70 p1 s.2) (fun q => some q)
def rm_X6_reads : Room := { frames := 9, cells := 0, slots := 0, locals := 272 }
end
noncomputable section
def f_X10_isDay (p1 : Int) (M : Mem) : Option (Int) :=
  obn (f_X10_within p1 0 (M 0 13) M) fun r =>
  gd (isZ r) <|
  some r
def rm_X10_isDay : Room := { frames := 1, cells := 0, slots := 0, locals := 22 }
def f_X10_searchBest_s57 (v2 : Int) (v3 : Int) (M : Mem) : Option ((Int × Mem) ⊕ (Int × Mem)) :=
  if v2 ≤ v3 then
    some (.inr (v3, M))
  else
    obn (f_X8_admit v3 (-1) M) fun M_2 =>
    lt (wrap (v3 + 1)) fun v3_2 =>
    some (.inl (v3_2, M_2))
def f_X10_searchBest_l57 (v2 : Int) (v3 : Int) (M : Mem) : Option (Int × Mem) := whl (fun s => f_X10_searchBest_s57 v2 s.1 s.2) FU (v3, M)
def f_X10_searchBest_j77 (M : Mem) : Option (Int × Mem) :=
  obn (f_X8_run M) fun M_2 =>
  if (M_2 35 17) = 0 then
    some ((-2), M_2)
  else
    some ((M_2 35 19), M_2)
def f_X10_searchBest_j20 (v1 : Int) (s0 : Int) (M : Mem) : Option (Int × Mem) :=
  if s0 = 0 then
    some ((-1), M)
  else
    if s0 ≤ 9 then
      gd (isRu (M 0 11)) <|
      obn (f_X4_prepare (M 0 11) v1 M) fun M_2 =>
      obn (f_X8_begin M_2) fun M_3 =>
      obn (f_X10_searchBest_l57 s0 0 M_3) fun s => f_X10_searchBest_j77 s.2
    else
      some ((-3), M)
def f_X10_searchBest (p1 : Int) (M : Mem) : Option (Int × Mem) :=
  obn (f_X10_isDay p1 M) fun r =>
  if r = 0 then
    f_X10_searchBest_j20 p1 0 M
  else
    obn (f_X1_cameBy p1 M) fun r_2 =>
    f_X10_searchBest_j20 p1 r_2 M
def rm_X10_searchBest : Room := { frames := 16, cells := 0, slots := 0, locals := 506 }
def f_X10_bestPlan (p1 : Int) (M : Mem) : Option (Int × Mem) :=
  if (M 0 16) = 0 then
    bnd (f_X10_searchBest p1 M) fun r M_2 =>
    lt (mup M_2 0 18 r) fun M_3 =>
    lt (mup M_3 0 17 p1) fun M_4 =>
    lt (mup M_4 0 16 1) fun M_5 =>
    some ((M_5 0 18), M_5)
  else
    if (M 0 17) = p1 then
      some ((M 0 18), M)
    else
      bnd (f_X10_searchBest p1 M) fun r_2 M_6 =>
      lt (mup M_6 0 18 r_2) fun M_7 =>
      lt (mup M_7 0 17 p1) fun M_8 =>
      lt (mup M_8 0 16 1) fun M_9 =>
      some ((M_9 0 18), M_9)
def rm_X10_bestPlan : Room := { frames := 17, cells := 0, slots := 0, locals := 529 }
def f_X10_child (p1 : Int) (p2 : Int) (p3 : Int) (M : Mem) : Option (Int × Mem) :=
  obn (f_X10_within p1 0 1 M) fun r =>
  if r = 0 then
    some ((-1), M)
  else
    obn (f_X10_within p2 1 12 M) fun r_2 =>
    if r_2 = 0 then
      some ((-1), M)
    else
      obn (f_X10_within p3 0 255 M) fun r_3 =>
      if r_3 = 0 then
        some ((-1), M)
      else
        lt (mup M 0 16 0) fun M_2 =>
        bnd (f_X1_admit p1 p2 p3 (M_2 0 13) M_2) fun r_4 M_3 =>
        some (r_4, M_3)
def rm_X10_child : Room := { frames := 1, cells := 0, slots := 0, locals := 24 }
def f_X10_mark (p1 : Int) (p2 : Int) (p3 : Int) (p4 : Int) (M : Mem) : Option (Int × Mem) :=
  obn (f_X10_within p1 0 3 M) fun r =>
  if r = 0 then
    some (0, M)
  else
    obn (f_X1_has p2 M) fun r_2 =>
    if r_2 = 0 then
      some (0, M)
    else
      obn (f_X10_within p3 0 1 M) fun r_3 =>
      if r_3 = 0 then
        some (0, M)
      else
        obn (f_X10_within p4 0 100 M) fun r_4 =>
        if r_4 = 0 then
          some (0, M)
        else
          lt (mup M 0 16 0) fun M_2 =>
          bnd (f_X5_add p1 p2 p3 p4 (M_2 0 13) M_2) fun r_5 M_3 =>
          gd (isZ r_5) <|
          some (r_5, M_3)
def rm_X10_mark : Room := { frames := 1, cells := 0, slots := 0, locals := 25 }
def f_X10_wish (p1 : Int) (p2 : Int) (p3 : Int) (M : Mem) : Option (Int × Mem) :=
  obn (f_X1_has p1 M) fun r =>
  if r = 0 then
    some (0, M)
  else
    obn (f_X10_within p2 0 2 M) fun r_2 =>
    if r_2 = 0 then
      some (0, M)
    else
      if p3 = (-1) then
        lt (mup M 0 16 0) fun M_2 =>
        gd ((0 : Int) ≤ (wrap ((wrap (p1 * 3)) + p2)) ∧ ((wrap ((wrap (p1 * 3)) + p2)) : Int) < 42) <|
        lt (mup M_2 9 (wrap ((wrap (p1 * 3)) + p2)).toNat p3) fun M_3 =>
        some (1, M_3)
      else
        obn (f_X1_areTwo p1 p3 M) fun r_3 =>
        if r_3 = 0 then
          some (0, M)
        else
          lt (mup M 0 16 0) fun M_4 =>
          gd ((0 : Int) ≤ (wrap ((wrap (p1 * 3)) + p2)) ∧ ((wrap ((wrap (p1 * 3)) + p2)) : Int) < 42) <|
          lt (mup M_4 9 (wrap ((wrap (p1 * 3)) + p2)).toNat p3) fun M_5 =>
          some (1, M_5)
def rm_X10_wish : Room := { frames := 2, cells := 0, slots := 0, locals := 43 }
def f_X10_setBit_j15 (p0 : Nat) (v1 : Int) (v2 : Int) (v3 : Int) (s0 : Int) (M : Mem) : Option (Int × Mem) :=
  if s0 = v3 then
    some (0, M)
  else
    gd ((0 : Int) ≤ v1 ∧ (v1 : Int) < (aln p0 : Int)) <|
    gd ((0 : Int) ≤ v1 ∧ (v1 : Int) < (aln p0 : Int)) <|
    lt (mup M p0 v1.toNat (bxor (M p0 v1.toNat) (bshl 1 v2))) fun M_2 =>
    some (1, M_2)
def f_X10_setBit (p0 : Nat) (p1 : Int) (p2 : Int) (p3 : Int) (M : Mem) : Option (Int × Mem) :=
  gd ((0 : Int) ≤ p1 ∧ (p1 : Int) < (aln p0 : Int)) <|
  if (band (bshr (M p0 p1.toNat) p2) 1) = 0 then
    f_X10_setBit_j15 p0 p1 p2 p3 0 M
  else
    f_X10_setBit_j15 p0 p1 p2 p3 1 M
def rm_X10_setBit : Room := { frames := 0, cells := 0, slots := 0, locals := 0 }
def f_X10_setPair (p0 : Nat) (p1 : Int) (p2 : Int) (p3 : Int) (M : Mem) : Option (Int × Mem) :=
  bnd (f_X10_setBit p0 p1 p2 p3 M) fun r M_2 =>
  if r = 0 then
    some (0, M_2)
  else
    bnd (f_X10_setBit p0 p2 p1 p3 M_2) fun r_2 M_3 =>
    if r_2 = 0 then
      some (0, M_3)
    else
      some (1, M_3)
def rm_X10_setPair : Room := { frames := 1, cells := 0, slots := 0, locals := 24 }
def f_X10_bar (p1 : Int) (p2 : Int) (p3 : Int) (M : Mem) : Option (Int × Mem) :=
  lt (mup M 0 16 0) fun M_2 =>
  obn (f_X1_areTwo p1 p2 M_2) fun r =>
  if r = 0 then
    some (0, M_2)
  else
    bnd (f_X10_setPair 10 p1 p2 p3 M_2) fun r_2 M_3 =>
    if r_2 = 0 then
      some (0, M_3)
    else
      some (1, M_3)
def rm_X10_bar : Room := { frames := 2, cells := 0, slots := 0, locals := 47 }
def f_X10_twins (p1 : Int) (p2 : Int) (p3 : Int) (M : Mem) : Option (Int × Mem) :=
  lt (mup M 0 16 0) fun M_2 =>
  obn (f_X1_areTwo p1 p2 M_2) fun r =>
  if r = 0 then
    some (0, M_2)
  else
    bnd (f_X10_setPair 11 p1 p2 p3 M_2) fun r_2 M_3 =>
    if r_2 = 0 then
      some (0, M_3)
    else
      some (1, M_3)
def rm_X10_twins : Room := { frames := 2, cells := 0, slots := 0, locals := 47 }
def f_X10_not (p1 : Int) (p2 : Int) (p3 : Int) (M : Mem) : Option (Int × Mem) :=
  obn (f_X1_has p1 M) fun r =>
  if r = 0 then
    some (0, M)
  else
    obn (f_X10_within p2 0 2 M) fun r_2 =>
    if r_2 = 0 then
      some (0, M)
    else
      lt (mup M 0 16 0) fun M_2 =>
      bnd (f_X10_setBit 12 p2 p1 p3 M_2) fun r_3 M_3 =>
      gd (isZ r_3) <|
      some (r_3, M_3)
def rm_X10_not : Room := { frames := 1, cells := 0, slots := 0, locals := 24 }
def f_X10_classes_s13 (v1 : Int) (M : Mem) (v2 : Int) : Option ((Int) ⊕ ((Int) ⊕ (Int × Mem))) :=
  if 14 ≤ v2 then
    some (.inr (.inl v2))
  else
    gd ((0 : Int) ≤ v2 ∧ (v2 : Int) < 14) <|
    if (M 1 v2.toNat) < v1 then
      lt (wrap (v2 + 1)) fun v2_2 =>
      some (.inl v2_2)
    else
      some (.inr (.inr (0, M)))
def f_X10_classes_l13 (v1 : Int) (M : Mem) (v2 : Int) : Option ((Int) ⊕ (Int × Mem)) := whl (fun s => f_X10_classes_s13 v1 M s) FU v2
def f_X10_classes_j37 (v1 : Int) (M : Mem) : Option (Int × Mem) :=
  lt (mup M 0 16 0) fun M_2 =>
  lt (mup M_2 3 13 v1) fun M_3 =>
  some (1, M_3)
def f_X10_classes (p1 : Int) (M : Mem) : Option (Int × Mem) :=
  obn (f_X10_within p1 2 3 M) fun r =>
  if r = 0 then
    some (0, M)
  else
    lpr (f_X10_classes_l13 p1 M 0) (fun s => f_X10_classes_j37 p1 M) (fun q => some q)
def rm_X10_classes : Room := { frames := 1, cells := 0, slots := 0, locals := 22 }
def f_X10_room (p1 : Int) (p2 : Int) (M : Mem) : Option (Int × Mem) :=
  obn (f_X10_within p1 0 2 M) fun r =>
  if r = 0 then
    some (0, M)
  else
    obn (f_X10_within p2 0 14 M) fun r_2 =>
    if r_2 = 0 then
      some (0, M)
    else
      lt (mup M 0 16 0) fun M_2 =>
      gd ((0 : Int) ≤ p1 ∧ (p1 : Int) < 3) <|
      lt (mup M_2 16 p1.toNat p2) fun M_3 =>
      some (1, M_3)
def rm_X10_room : Room := { frames := 1, cells := 0, slots := 0, locals := 22 }
def f_X10_feed (p1 : Int) (p2 : Int) (p3 : Int) (p4 : Int) (p5 : Int) (M : Mem) : Option (Int × Mem) :=
  obn (f_X9_hasSpace 20 M) fun r =>
  if r = 0 then
    some ((-1), M)
  else
    obn (f_X9_append p1 M) fun M_2 =>
    obn (f_X9_append p2 M_2) fun M_3 =>
    obn (f_X9_append p3 M_3) fun M_4 =>
    obn (f_X9_append p4 M_4) fun M_5 =>
    obn (f_X9_append p5 M_5) fun M_6 =>
    some ((M_6 24 0), M_6)
def rm_X10_feed : Room := { frames := 1, cells := 0, slots := 0, locals := 22 }
def f_X10_end (p1 : Int) (M : Mem) : Option (Int × Mem) :=
  obn (f_X10_within p1 0 (M 24 0) M) fun r =>
  if r = 0 then
    some ((-1), M)
  else
    lt (mup M 24 0 p1) fun M_2 =>
    some (p1, M_2)
def rm_X10_end : Room := { frames := 1, cells := 0, slots := 0, locals := 22 }
def f_X10_rule (M : Mem) : Option (Int × Mem) :=
  gd (isRu (M 0 12)) <|
  bnd (f_X6_reads (M 0 12) M) fun r M_2 =>
  lt (mup M_2 24 0 0) fun M_3 =>
  if r = 0 then
    some ((wrap ((-1) - (M_3 29 0))), M_3)
  else
    gd (isRu (M_3 0 11)) <|
    gd (isRu (M_3 0 12)) <|
    lt (mup M_3 0 11 (M_3 0 12)) fun M_4 =>
    lt (mup M_4 0 12 (M_3 0 11)) fun M_5 =>
    lt (mup M_5 0 16 0) fun M_6 =>
    gd (isRu (M_6 0 11)) <|
    some ((M_6 ((M_6 0 11).toNat) 0), M_6)
def rm_X10_rule : Room := { frames := 10, cells := 0, slots := 0, locals := 294 }
def f_X10_place (M : Mem) : Option (Int) :=
  some (M 29 1)
def rm_X10_place : Room := { frames := 0, cells := 0, slots := 0, locals := 0 }
def f_X10_holds (p1 : Int) (p2 : Int) (p3 : Int) (p4 : Int) (M : Mem) : Option (Int × Mem) :=
  gd (isRu (M 0 11)) <|
  obn (f_X10_within p1 0 (wrap ((M ((M 0 11).toNat) 0) - 1)) M) fun r =>
  if r = 0 then
    some ((-1), M)
  else
    obn (f_X10_within p2 0 1 M) fun r_2 =>
    if r_2 = 0 then
      some ((-1), M)
    else
      obn (f_X1_has p3 M) fun r_3 =>
      if r_3 = 0 then
        some ((-1), M)
      else
        obn (f_X10_isDay p4 M) fun r_4 =>
        if r_4 = 0 then
          some ((-1), M)
        else
          gd (isRu (M 0 11)) <|
          obn (f_X7_takesTerms (M 0 11) p1 p2 M) fun r_5 =>
          if r_5 = 0 then
            some ((-1), M)
          else
            gd (isRu (M 0 11)) <|
            obn (f_X4_prepare (M 0 11) p4 M) fun M_2 =>
            obn (f_X4_meets (wrap ((wrap (p1 * 2)) + p2)) p3 M_2) fun r_6 =>
            if r_6 = 0 then
              some (0, M_2)
            else
              some (1, M_2)
def rm_X10_holds : Room := { frames := 5, cells := 0, slots := 0, locals := 123 }
def f_X10_day_j50 (v1 : Int) (M : Mem) : Option (Int × Mem) :=
  lt (mup M 0 16 0) fun M_2 =>
  lt (mup M_2 0 13 (wrap ((M_2 0 13) + v1))) fun M_3 =>
  some ((M_3 0 13), M_3)
def f_X10_day (p1 : Int) (M : Mem) : Option (Int × Mem) :=
  obn (f_X10_within p1 0 1000 M) fun r =>
  if r = 0 then
    some ((-1), M)
  else
    if (wrap ((M 0 13) + p1)) ≤ 100000 then
      if p1 ≤ 0 then
        lt (mup M 0 16 0) fun M_2 =>
        lt (mup M_2 0 13 (wrap ((M_2 0 13) + p1))) fun M_3 =>
        some ((M_3 0 13), M_3)
      else
        obn (f_X0_write 1 (M 3 0) (M 0 13) M) fun M_4 =>
        f_X10_day_j50 p1 M_4
    else
      some ((-1), M)
def rm_X10_day : Room := { frames := 1, cells := 0, slots := 0, locals := 24 }
def f_X10_plan (p1 : Int) (M : Mem) : Option (Int × Mem) :=
  bnd (f_X10_bestPlan p1 M) fun r M_2 =>
  some (r, M_2)
def rm_X10_plan : Room := { frames := 18, cells := 0, slots := 0, locals := 550 }
def f_X10_planned (p1 : Int) (p2 : Int) (M : Mem) : Option (Int × Mem) :=
  bnd (f_X10_bestPlan p1 M) fun r M_2 =>
  if 0 ≤ r then
    obn (f_X8_seatOf p2 M_2) fun r_2 =>
    some (r_2, M_2)
  else
    some ((-1), M_2)
def rm_X10_planned : Room := { frames := 18, cells := 0, slots := 0, locals := 550 }
def f_X10_takeSearched_s2 (v1 : Int) (M : Mem) : Option ((Int × Mem) ⊕ (Int × Mem)) :=
  if (M 3 0) ≤ v1 then
    some (.inr (v1, M))
  else
    obn (f_X8_seatOf v1 M) fun r =>
    gd ((0 : Int) ≤ v1 ∧ (v1 : Int) < 14) <|
    lt (mup M 1 v1.toNat r) fun M_2 =>
    lt (wrap (v1 + 1)) fun v1_2 =>
    some (.inl (v1_2, M_2))
def f_X10_takeSearched_l2 (v1 : Int) (M : Mem) : Option (Int × Mem) := whl (fun s => f_X10_takeSearched_s2 s.1 s.2) FU (v1, M)
def f_X10_takeSearched_j33 (M : Mem) : Option (Mem) :=
  some M
def f_X10_takeSearched (M : Mem) : Option (Mem) :=
  obn (f_X10_takeSearched_l2 0 M) fun s => f_X10_takeSearched_j33 s.2
def rm_X10_takeSearched : Room := { frames := 1, cells := 0, slots := 0, locals := 22 }
def f_X10_keep (M : Mem) : Option (Int × Mem) :=
  bnd (f_X10_bestPlan (M 0 13) M) fun r M_2 =>
  if r < 0 then
    some (r, M_2)
  else
    obn (f_X10_takeSearched M_2) fun M_3 =>
    some (r, M_3)
def rm_X10_keep : Room := { frames := 18, cells := 0, slots := 0, locals := 550 }
def f_X10_make_s60 (v1 : Int) (M : Mem) : Option ((Int × Mem) ⊕ (Int × Mem)) :=
  if (M 3 0) ≤ v1 then
    some (.inr (v1, M))
  else
    gd ((0 : Int) ≤ v1 ∧ (v1 : Int) < 14) <|
    gd ((0 : Int) ≤ v1 ∧ (v1 : Int) < 14) <|
    lt (mup M 1 v1.toNat (M 50 v1.toNat)) fun M_2 =>
    lt (wrap (v1 + 1)) fun v1_2 =>
    some (.inl (v1_2, M_2))
def f_X10_make_l60 (v1 : Int) (M : Mem) : Option (Int × Mem) := whl (fun s => f_X10_make_s60 s.1 s.2) FU (v1, M)
def f_X10_make_j92 (M : Mem) : Option (Int × Mem) :=
  if (M 48 5) = 0 then
    some ((M 48 6), M)
  else
    some ((-4), M)
def f_X10_make (M : Mem) : Option (Int × Mem) :=
  if (M 3 0) = 0 then
    some ((-1), M)
  else
    gd (isRu (M 0 11)) <|
    obn (f_X4_prepare (M 0 11) (M 0 13) M) fun M_2 =>
    bnd (f_X2_starts M_2) fun r M_3 =>
    if r = 0 then
      some ((-2), M_3)
    else
      obn (f_X2_improve M_3) fun M_4 =>
      lt (mup M_4 0 15 (M_4 48 4)) fun M_5 =>
      obn (f_X10_make_l60 0 M_5) fun s => f_X10_make_j92 s.2
def rm_X10_make : Room := { frames := 7, cells := 0, slots := 0, locals := 178 }
def f_X10_steps (M : Mem) : Option (Int) :=
  some (M 0 15)
def rm_X10_steps : Room := { frames := 0, cells := 0, slots := 0, locals := 0 }
def f_X10_gatherList_s10 (v1 : Int) (M : Mem) : Option ((Int × Mem) ⊕ (Int × Mem)) :=
  if (M 3 0) ≤ v1 then
    some (.inr (v1, M))
  else
    gd ((0 : Int) ≤ v1 ∧ (v1 : Int) < 14) <|
    lt (M 1 v1.toNat) fun v2 =>
    if v2 < 0 then
      lt (wrap (v1 + 1)) fun v1_2 =>
      some (.inl (v1_2, M))
    else
      if 3 ≤ v2 then
        lt (wrap (v1 + 1)) fun v1_3 =>
        some (.inl (v1_3, M))
      else
        gd ((0 : Int) ≤ v2 ∧ (v2 : Int) < 3) <|
        gd ((0 : Int) ≤ v2 ∧ (v2 : Int) < 3) <|
        lt (mup M 2 v2.toNat (bor (M 2 v2.toNat) (bshl 1 v1))) fun M_2 =>
        lt (wrap (v1 + 1)) fun v1_4 =>
        some (.inl (v1_4, M_2))
def f_X10_gatherList_l10 (v1 : Int) (M : Mem) : Option (Int × Mem) := whl (fun s => f_X10_gatherList_s10 s.1 s.2) FU (v1, M)
def f_X10_gatherList_j59 (M : Mem) : Option (Mem) :=
  some M
def f_X10_gatherList (M : Mem) : Option (Mem) :=
  obn (f_J7_fill_53178 2 0 M) fun M_2 =>
  obn (f_X10_gatherList_l10 0 M_2) fun s => f_X10_gatherList_j59 s.2
def rm_X10_gatherList : Room := { frames := 1, cells := 0, slots := 0, locals := 23 }
def f_X10_late_j118k50 (v1 : Int) (v2 : Int) (v3 : Int) (v4 : Int) (M : Mem) : Option ((Int × Int × Int × Mem) ⊕ (Int × Int × Int × Mem)) :=
  gd ((0 : Int) ≤ v4 ∧ (v4 : Int) < 3) <|
  gd ((0 : Int) ≤ v4 ∧ (v4 : Int) < 3) <|
  lt (mup M 2 v4.toNat (band (M 2 v4.toNat) (bxor (bshl 1 v1) (-1)))) fun M_2 =>
  lt (wrap (v4 + 1)) fun v4_2 =>
  some (.inl (v2, v3, v4_2, M_2))
def f_X10_late_s50 (v1 : Int) (v2 : Int) (v3 : Int) (v4 : Int) (M : Mem) : Option ((Int × Int × Int × Mem) ⊕ (Int × Int × Int × Mem)) :=
  if (M 3 13) ≤ v4 then
    some (.inr (v2, v3, v4, M))
  else
    gd ((0 : Int) ≤ v4 ∧ (v4 : Int) < 3) <|
    gd ((0 : Int) ≤ v4 ∧ (v4 : Int) < 3) <|
    lt (mup M 2 v4.toNat (bor (M 2 v4.toNat) (bshl 1 v1))) fun M_2 =>
    obn (f_X4_allows 2 M_2) fun r =>
    if r = 0 then
      gd ((0 : Int) ≤ v4 ∧ (v4 : Int) < 3) <|
      gd ((0 : Int) ≤ v4 ∧ (v4 : Int) < 3) <|
      lt (mup M_2 2 v4.toNat (band (M_2 2 v4.toNat) (bxor (bshl 1 v1) (-1)))) fun M_3 =>
      lt (wrap (v4 + 1)) fun v4_2 =>
      some (.inl (v2, v3, v4_2, M_3))
    else
      obn (f_X4_harmOf 2 M_2) fun r_2 =>
      if v2 < 0 then
        f_X10_late_j118k50 v1 v4 r_2 v4 M_2
      else
        if v3 ≤ r_2 then
          gd ((0 : Int) ≤ v4 ∧ (v4 : Int) < 3) <|
          gd ((0 : Int) ≤ v4 ∧ (v4 : Int) < 3) <|
          lt (mup M_2 2 v4.toNat (band (M_2 2 v4.toNat) (bxor (bshl 1 v1) (-1)))) fun M_4 =>
          lt (wrap (v4 + 1)) fun v4_3 =>
          some (.inl (v2, v3, v4_3, M_4))
        else
          f_X10_late_j118k50 v1 v4 r_2 v4 M_2
def f_X10_late_l50 (v1 : Int) (v2 : Int) (v3 : Int) (v4 : Int) (M : Mem) : Option (Int × Int × Int × Mem) := whl (fun s => f_X10_late_s50 v1 s.1 s.2.1 s.2.2.1 s.2.2.2) FU (v2, v3, v4, M)
def f_X10_late_j139 (v1 : Int) (v2 : Int) (M : Mem) : Option (Int × Mem) :=
  if v2 < 0 then
    some (v2, M)
  else
    gd ((0 : Int) ≤ v1 ∧ (v1 : Int) < 14) <|
    lt (mup M 1 v1.toNat v2) fun M_2 =>
    some (v2, M_2)
def f_X10_late (p1 : Int) (M : Mem) : Option (Int × Mem) :=
  obn (f_X1_has p1 M) fun r =>
  if r = 0 then
    some ((-1), M)
  else
    gd ((0 : Int) ≤ p1 ∧ (p1 : Int) < 14) <|
    if (M 1 p1.toNat) = (-1) then
      gd (isRu (M 0 11)) <|
      obn (f_X4_prepare (M 0 11) (M 0 13) M) fun M_2 =>
      obn (f_X10_gatherList M_2) fun M_3 =>
      obn (f_X10_late_l50 p1 (-2) 0 0 M_3) fun s => f_X10_late_j139 p1 s.1 s.2.2.2
    else
      some ((-1), M)
def rm_X10_late : Room := { frames := 5, cells := 0, slots := 0, locals := 127 }
def f_X10_countListed_s4 (M : Mem) (v1 : Int) (v2 : Int) : Option ((Int × Int) ⊕ (Int × Int)) :=
  if (M 3 0) ≤ v2 then
    some (.inr (v1, v2))
  else
    gd ((0 : Int) ≤ v2 ∧ (v2 : Int) < 14) <|
    if (M 1 v2.toNat) = (-1) then
      lt (wrap (v2 + 1)) fun v2_2 =>
      some (.inl (v1, v2_2))
    else
      lt (wrap (v1 + 1)) fun v1_2 =>
      lt (wrap (v2 + 1)) fun v2_3 =>
      some (.inl (v1_2, v2_3))
def f_X10_countListed_l4 (M : Mem) (v1 : Int) (v2 : Int) : Option (Int × Int) := whl (fun s => f_X10_countListed_s4 M s.1 s.2) FU (v1, v2)
def f_X10_countListed_j34 (v1 : Int) (M : Mem) : Option (Int) :=
  some v1
def f_X10_countListed (M : Mem) : Option (Int) :=
  obn (f_X10_countListed_l4 M 0 0) fun s => f_X10_countListed_j34 s.1 M
def rm_X10_countListed : Room := { frames := 0, cells := 0, slots := 0, locals := 0 }
def f_X10_change_s49 (v2 : Int) (M : Mem) : Option ((Int × Mem) ⊕ (Int × Mem)) :=
  if (M 3 0) ≤ v2 then
    some (.inr (v2, M))
  else
    gd ((0 : Int) ≤ v2 ∧ (v2 : Int) < 14) <|
    if (M 1 v2.toNat) = (-1) then
      lt (wrap (v2 + 1)) fun v2_2 =>
      some (.inl (v2_2, M))
    else
      gd ((0 : Int) ≤ v2 ∧ (v2 : Int) < 14) <|
      obn (f_X8_admit v2 (M 1 v2.toNat) M) fun M_2 =>
      lt (wrap (v2 + 1)) fun v2_3 =>
      some (.inl (v2_3, M_2))
def f_X10_change_l49 (v2 : Int) (M : Mem) : Option (Int × Mem) := whl (fun s => f_X10_change_s49 s.1 s.2) FU (v2, M)
def f_X10_change_j90 (M : Mem) : Option (Int × Mem) :=
  obn (f_X8_run M) fun M_2 =>
  if (M_2 35 17) = 0 then
    some ((-2), M_2)
  else
    obn (f_X10_takeSearched M_2) fun M_3 =>
    some ((M_3 35 18), M_3)
def f_X10_change (M : Mem) : Option (Int × Mem) :=
  obn (f_X10_countListed M) fun r =>
  if r = 0 then
    some ((-1), M)
  else
    if r ≤ 9 then
      lt (mup M 0 16 0) fun M_2 =>
      gd (isRu (M_2 0 11)) <|
      obn (f_X4_prepare (M_2 0 11) (M_2 0 13) M_2) fun M_3 =>
      obn (f_X8_begin M_3) fun M_4 =>
      obn (f_X10_change_l49 0 M_4) fun s => f_X10_change_j90 s.2
    else
      some ((-3), M)
def rm_X10_change : Room := { frames := 16, cells := 0, slots := 0, locals := 506 }
def f_X10_classOf (p1 : Int) (M : Mem) : Option (Int) :=
  obn (f_X1_has p1 M) fun r =>
  if r = 0 then
    some (-1)
  else
    gd ((0 : Int) ≤ p1 ∧ (p1 : Int) < 14) <|
    some (M 1 p1.toNat)
def rm_X10_classOf : Room := { frames := 1, cells := 0, slots := 0, locals := 21 }
def f_X10_was (p1 : Int) (p2 : Int) (M : Mem) : Option (Int) :=
  obn (f_X1_has p1 M) fun r =>
  if r = 0 then
    some (-1)
  else
    obn (f_X10_isDay p2 M) fun r_2 =>
    if r_2 = 0 then
      some (-1)
    else
      if p2 = (M 0 13) then
        gd ((0 : Int) ≤ p1 ∧ (p1 : Int) < 14) <|
        some (M 1 p1.toNat)
      else
        obn (f_X0_seatAt p1 p2 M) fun r_3 =>
        some r_3
def rm_X10_was : Room := { frames := 2, cells := 0, slots := 0, locals := 43 }
def f_X10_served (p1 : Int) (M : Mem) : Option (Int × Mem) :=
  obn (f_X1_has p1 M) fun r =>
  if r = 0 then
    some ((-1), M)
  else
    gd ((0 : Int) ≤ p1 ∧ (p1 : Int) < 14) <|
    if (M 1 p1.toNat) = (-1) then
      some ((-1), M)
    else
      obn (f_X10_gatherList M) fun M_2 =>
      gd ((0 : Int) ≤ p1 ∧ (p1 : Int) < 14) <|
      gd ((0 : Int) ≤ (M_2 1 p1.toNat) ∧ ((M_2 1 p1.toNat) : Int) < 3) <|
      obn (f_X1_bestWish p1 (M_2 2 (M_2 1 p1.toNat).toNat) M_2) fun r_2 =>
      some (r_2, M_2)
def rm_X10_served : Room := { frames := 2, cells := 0, slots := 0, locals := 45 }
def f_X10_harm (p1 : Int) (M : Mem) : Option (Int × Mem) :=
  obn (f_X10_countListed M) fun r =>
  if r = 0 then
    some ((-1), M)
  else
    gd (isRu (M 0 11)) <|
    obn (f_X10_within p1 (-1) (wrap ((M ((M 0 11).toNat) 0) - 1)) M) fun r_2 =>
    if r_2 = 0 then
      some ((-1), M)
    else
      gd (isRu (M 0 11)) <|
      obn (f_X4_prepare (M 0 11) (M 0 13) M) fun M_2 =>
      obn (f_X10_gatherList M_2) fun M_3 =>
      if p1 = (-1) then
        obn (f_X4_harmOf 2 M_3) fun r_4 =>
        some (r_4, M_3)
      else
        obn (f_X4_harmBy p1 2 M_3) fun r_3 =>
        some (r_3, M_3)
def rm_X10_harm : Room := { frames := 5, cells := 0, slots := 0, locals := 123 }
def f_X10_allowed (p1 : Int) (M : Mem) : Option (Int × Mem) :=
  obn (f_X10_countListed M) fun r =>
  if r = 0 then
    some ((-1), M)
  else
    obn (f_X10_within p1 0 1 M) fun r_2 =>
    if r_2 = 0 then
      some ((-1), M)
    else
      gd (isRu (M 0 11)) <|
      obn (f_X4_prepare (M 0 11) (M 0 13) M) fun M_2 =>
      obn (f_X10_gatherList M_2) fun M_3 =>
      if p1 = 1 then
        obn (f_X4_lackOf 2 M_3) fun r_4 =>
        some (r_4, M_3)
      else
        obn (f_X4_allows 2 M_3) fun r_3 =>
        if r_3 = 0 then
          some (0, M_3)
        else
          some (1, M_3)
def rm_X10_allowed : Room := { frames := 5, cells := 0, slots := 0, locals := 127 }
def f_X10_bettersBoth_j157 (v3 : Int) (v4 : Int) (v5 : Int) (s0 : Int) (M : Mem) : Option (Int × Mem) :=
  gd ((0 : Int) ≤ v3 ∧ (v3 : Int) < 3) <|
  gd ((0 : Int) ≤ v3 ∧ (v3 : Int) < 3) <|
  lt (mup M 2 v3.toNat (bxor (M 2 v3.toNat) v5)) fun M_2 =>
  gd ((0 : Int) ≤ v4 ∧ (v4 : Int) < 3) <|
  gd ((0 : Int) ≤ v4 ∧ (v4 : Int) < 3) <|
  lt (mup M_2 2 v4.toNat (bxor (M_2 2 v4.toNat) v5)) fun M_3 =>
  gd (isZ s0) <|
  some (s0, M_3)
def f_X10_bettersBoth (p1 : Int) (p2 : Int) (M : Mem) : Option (Int × Mem) :=
  gd ((0 : Int) ≤ p1 ∧ (p1 : Int) < 14) <|
  lt (M 1 p1.toNat) fun v3 =>
  gd ((0 : Int) ≤ p2 ∧ (p2 : Int) < 14) <|
  lt (M 1 p2.toNat) fun v4 =>
  if v3 = (-1) then
    some (0, M)
  else
    if v4 = (-1) then
      some (0, M)
    else
      if v3 = v4 then
        some (0, M)
      else
        lt (bor (bshl 1 p1) (bshl 1 p2)) fun v5 =>
        gd ((0 : Int) ≤ v3 ∧ (v3 : Int) < 3) <|
        obn (f_X1_bestWish p1 (M 2 v3.toNat) M) fun r =>
        gd ((0 : Int) ≤ v4 ∧ (v4 : Int) < 3) <|
        obn (f_X1_bestWish p2 (M 2 v4.toNat) M) fun r_2 =>
        gd ((0 : Int) ≤ v3 ∧ (v3 : Int) < 3) <|
        gd ((0 : Int) ≤ v3 ∧ (v3 : Int) < 3) <|
        lt (mup M 2 v3.toNat (bxor (M 2 v3.toNat) v5)) fun M_2 =>
        gd ((0 : Int) ≤ v4 ∧ (v4 : Int) < 3) <|
        gd ((0 : Int) ≤ v4 ∧ (v4 : Int) < 3) <|
        lt (mup M_2 2 v4.toNat (bxor (M_2 2 v4.toNat) v5)) fun M_3 =>
        gd ((0 : Int) ≤ v4 ∧ (v4 : Int) < 3) <|
        obn (f_X1_bestWish p1 (M_3 2 v4.toNat) M_3) fun r_3 =>
        if r ≤ r_3 then
          f_X10_bettersBoth_j157 v3 v4 v5 0 M_3
        else
          gd ((0 : Int) ≤ v3 ∧ (v3 : Int) < 3) <|
          obn (f_X1_bestWish p2 (M_3 2 v3.toNat) M_3) fun r_4 =>
          if r_2 ≤ r_4 then
            f_X10_bettersBoth_j157 v3 v4 v5 0 M_3
          else
            obn (f_X4_allows 2 M_3) fun r_5 =>
            if r_5 = 0 then
              f_X10_bettersBoth_j157 v3 v4 v5 0 M_3
            else
              f_X10_bettersBoth_j157 v3 v4 v5 1 M_3
def rm_X10_bettersBoth : Room := { frames := 5, cells := 0, slots := 0, locals := 127 }
def f_X10_searchSwaps_s39 (v1 : Int) (v3 : Int) (v2 : Int) (v4 : Int) (M : Mem) : Option ((Int × Int × Mem) ⊕ ((Int × Int × Mem) ⊕ (Int × Mem))) :=
  if (M 3 0) ≤ v4 then
    some (.inr (.inl (v2, v4, M)))
  else
    bnd (f_X10_bettersBoth v3 v4 M) fun r M_2 =>
    if r = 0 then
      lt (wrap (v4 + 1)) fun v4_2 =>
      some (.inl (v2, v4_2, M_2))
    else
      if v2 = v1 then
        some (.inr (.inr ((wrap ((wrap (v3 * 14)) + v4)), M_2)))
      else
        lt (wrap (v2 + 1)) fun v2_2 =>
        lt (wrap (v4 + 1)) fun v4_3 =>
        some (.inl (v2_2, v4_3, M_2))
def f_X10_searchSwaps_l39 (v1 : Int) (v3 : Int) (v2 : Int) (v4 : Int) (M : Mem) : Option ((Int × Int × Mem) ⊕ (Int × Mem)) := whl (fun s => f_X10_searchSwaps_s39 v1 v3 s.1 s.2.1 s.2.2) FU (v2, v4, M)
def f_X10_searchSwaps_j83k23 (v1 : Int) (v2 : Int) (v3 : Int) (M : Mem) : Option ((Int × Int × Mem) ⊕ ((Int × Int × Mem) ⊕ (Int × Mem))) :=
  lt (wrap (v3 + 1)) fun v3_2 =>
  some (.inl (v2, v3_2, M))
def f_X10_searchSwaps_s23 (v1 : Int) (v2 : Int) (v3 : Int) (M : Mem) : Option ((Int × Int × Mem) ⊕ ((Int × Int × Mem) ⊕ (Int × Mem))) :=
  if (M 3 0) ≤ v3 then
    some (.inr (.inl (v2, v3, M)))
  else
    lt (wrap (v3 + 1)) fun v4 =>
    lpr (f_X10_searchSwaps_l39 v1 v3 v2 v4 M) (fun s => f_X10_searchSwaps_j83k23 v1 s.1 v3 s.2.2) (fun q => some (.inr (.inr q)))
def f_X10_searchSwaps_l23 (v1 : Int) (v2 : Int) (v3 : Int) (M : Mem) : Option ((Int × Int × Mem) ⊕ (Int × Mem)) := whl (fun s => f_X10_searchSwaps_s23 v1 s.1 s.2.1 s.2.2) FU (v2, v3, M)
def f_X10_searchSwaps_j89 (v1 : Int) (v2 : Int) (M : Mem) : Option (Int × Mem) :=
  if 0 ≤ v1 then
    some ((-1), M)
  else
    some (v2, M)
def f_X10_searchSwaps (p1 : Int) (M : Mem) : Option (Int × Mem) :=
  gd (isRu (M 0 11)) <|
  obn (f_X4_prepare (M 0 11) (M 0 13) M) fun M_2 =>
  obn (f_X10_gatherList M_2) fun M_3 =>
  lpr (f_X10_searchSwaps_l23 p1 0 0 M_3) (fun s => f_X10_searchSwaps_j89 p1 s.1 s.2.2) (fun q => some q)
def rm_X10_searchSwaps : Room := { frames := 6, cells := 0, slots := 0, locals := 155 }
def f_X10_swaps (M : Mem) : Option (Int × Mem) :=
  bnd (f_X10_searchSwaps (-1) M) fun r M_2 =>
  some (r, M_2)
def rm_X10_swaps : Room := { frames := 7, cells := 0, slots := 0, locals := 179 }
def f_X10_swap (p1 : Int) (p2 : Int) (M : Mem) : Option (Int × Mem) :=
  if p1 < 0 then
    some ((-1), M)
  else
    obn (f_X10_within p2 0 1 M) fun r =>
    if r = 0 then
      some ((-1), M)
    else
      bnd (f_X10_searchSwaps p1 M) fun r_2 M_2 =>
      if r_2 = (-1) then
        some ((-1), M_2)
      else
        if p2 = 0 then
          some ((jdiv r_2 14), M_2)
        else
          some ((jrem r_2 14), M_2)
def rm_X10_swap : Room := { frames := 7, cells := 0, slots := 0, locals := 179 }
def f_X10_lonely_s4 (v1 : Int) (M : Mem) (v2 : Int) (v3 : Int) : Option ((Int × Int) ⊕ ((Int × Int) ⊕ (Int))) :=
  if (M 3 0) ≤ v3 then
    some (.inr (.inl (v2, v3)))
  else
    obn (f_X1_naming v3 M) fun r =>
    if r = 0 then
      if v2 = v1 then
        some (.inr (.inr v3))
      else
        lt (wrap (v2 + 1)) fun v2_2 =>
        lt (wrap (v3 + 1)) fun v3_3 =>
        some (.inl (v2_2, v3_3))
    else
      lt (wrap (v3 + 1)) fun v3_2 =>
      some (.inl (v2, v3_2))
def f_X10_lonely_l4 (v1 : Int) (M : Mem) (v2 : Int) (v3 : Int) : Option ((Int × Int) ⊕ (Int)) := whl (fun s => f_X10_lonely_s4 v1 M s.1 s.2) FU (v2, v3)
def f_X10_lonely_j42 (M : Mem) : Option (Int) :=
  some (-1)
def f_X10_lonely (p1 : Int) (M : Mem) : Option (Int) :=
  lpr (f_X10_lonely_l4 p1 M 0 0) (fun s => f_X10_lonely_j42 M) (fun q => some q)
def rm_X10_lonely : Room := { frames := 1, cells := 0, slots := 0, locals := 23 }
def f_X10_ring_s24 (v1 : Int) (v2 : Int) (M : Mem) (v3 : Int) : Option ((Int) ⊕ ((Int) ⊕ (Int))) :=
  if v1 ≤ v3 then
    some (.inr (.inl v3))
  else
    if (band (bshr v2 v3) 1) = 0 then
      lt (wrap (v3 + 1)) fun v3_2 =>
      some (.inl v3_2)
    else
      obn (f_X1_reach v3 M) fun r =>
      if (band (bshr r v1) 1) = 0 then
        lt (wrap (v3 + 1)) fun v3_3 =>
        some (.inl v3_3)
      else
        some (.inr (.inr v3))
def f_X10_ring_l24 (v1 : Int) (v2 : Int) (M : Mem) (v3 : Int) : Option ((Int) ⊕ (Int)) := whl (fun s => f_X10_ring_s24 v1 v2 M s) FU v3
def f_X10_ring_j60 (v1 : Int) (M : Mem) : Option (Int) :=
  some v1
def f_X10_ring (p1 : Int) (M : Mem) : Option (Int) :=
  obn (f_X1_has p1 M) fun r =>
  if r = 0 then
    some (-1)
  else
    obn (f_X1_reach p1 M) fun r_2 =>
    lpr (f_X10_ring_l24 p1 r_2 M 0) (fun s => f_X10_ring_j60 p1 M) (fun q => some q)
def rm_X10_ring : Room := { frames := 2, cells := 0, slots := 0, locals := 49 }
def f_X10_helper (p1 : Int) (M : Mem) : Option (Int × Mem) :=
  obn (f_X10_within p1 1 60 M) fun r =>
  if r = 0 then
    some ((-1), M)
  else
    bnd (f_X3_add p1 M) fun r_2 M_2 =>
    some (r_2, M_2)
def rm_X10_helper : Room := { frames := 1, cells := 0, slots := 0, locals := 22 }
def f_X10_help_s46 (v1 : Int) (v2 : Int) (M : Mem) : Option ((Int × Mem) ⊕ (Int × Mem)) :=
  if (M 3 0) ≤ v2 then
    some (.inr (v2, M))
  else
    gd ((0 : Int) ≤ v2 ∧ (v2 : Int) < 14) <|
    if (M 1 v2.toNat) = (-1) then
      lt (wrap (v2 + 1)) fun v2_2 =>
      some (.inl (v2_2, M))
    else
      gd ((0 : Int) ≤ v2 ∧ (v2 : Int) < 14) <|
      obn (f_X5_level v2 1 M) fun r =>
      obn (f_X3_addNeed (M 1 v2.toNat) r M) fun M_2 =>
      lt (wrap (v2 + 1)) fun v2_3 =>
      some (.inl (v2_3, M_2))
def f_X10_help_l46 (v1 : Int) (v2 : Int) (M : Mem) : Option (Int × Mem) := whl (fun s => f_X10_help_s46 v1 s.1 s.2) FU (v2, M)
def f_X10_help_j95 (v1 : Int) (M : Mem) : Option (Int × Mem) :=
  obn (f_X3_divide (M 3 13) M) fun M_2 =>
  if v1 = (-1) then
    some ((M_2 51 6), M_2)
  else
    gd ((0 : Int) ≤ v1 ∧ (v1 : Int) < 6) <|
    some ((M_2 56 v1.toNat), M_2)
def f_X10_help (p1 : Int) (M : Mem) : Option (Int × Mem) :=
  obn (f_X10_countListed M) fun r =>
  if r = 0 then
    some ((-1), M)
  else
    obn (f_X10_within p1 (-1) (wrap ((M 51 0) - 1)) M) fun r_2 =>
    if r_2 = 0 then
      some ((-1), M)
    else
      obn (f_X5_learn (M 0 13) M) fun M_2 =>
      obn (f_X3_clear M_2) fun M_3 =>
      obn (f_X10_help_l46 p1 0 M_3) fun s => f_X10_help_j95 p1 s.2
def rm_X10_help : Room := { frames := 3, cells := 0, slots := 0, locals := 109 }
def f_X10_word (p1 : Int) (p2 : Int) (p3 : Int) (M : Mem) : Option (Int × Mem) :=
  obn (f_X1_has p1 M) fun r =>
  if r = 0 then
    some (0, M)
  else
    gd ((0 : Int) ≤ p1 ∧ (p1 : Int) < 14) <|
    if (M 1 p1.toNat) = (-1) then
      some (0, M)
    else
      obn (f_X10_within p2 0 10 M) fun r_2 =>
      if r_2 = 0 then
        some (0, M)
      else
        obn (f_X10_within p3 0 5 M) fun r_3 =>
        if r_3 = 0 then
          some (0, M)
        else
          gd ((0 : Int) ≤ p1 ∧ (p1 : Int) < 14) <|
          lt (mup M 14 p1.toNat p2) fun M_2 =>
          gd ((0 : Int) ≤ p1 ∧ (p1 : Int) < 14) <|
          lt (mup M_2 15 p1.toNat p3) fun M_3 =>
          some (1, M_3)
def rm_X10_word : Room := { frames := 1, cells := 0, slots := 0, locals := 22 }
def f_X10_partPairs_s17 (v1 : Int) (v2 : Int) (M : Mem) : Option ((Int × Mem) ⊕ (Int × Mem)) :=
  if (M 3 0) ≤ v2 then
    some (.inr (v2, M))
  else
    gd ((0 : Int) ≤ v1 ∧ (v1 : Int) < 14) <|
    if (M 1 v1.toNat) = (-1) then
      lt (wrap (v2 + 1)) fun v2_2 =>
      some (.inl (v2_2, M))
    else
      gd ((0 : Int) ≤ v1 ∧ (v1 : Int) < 14) <|
      gd ((0 : Int) ≤ v2 ∧ (v2 : Int) < 14) <|
      if (M 1 v1.toNat) = (M 1 v2.toNat) then
        obn (f_X1_wentBadly v1 M) fun r =>
        if r = 0 then
          lt (wrap (v2 + 1)) fun v2_4 =>
          some (.inl (v2_4, M))
        else
          obn (f_X1_wentBadly v2 M) fun r_2 =>
          if r_2 = 0 then
            lt (wrap (v2 + 1)) fun v2_5 =>
            some (.inl (v2_5, M))
          else
            obn (f_X1_addRegret v1 v2 M) fun M_2 =>
            lt (wrap (v2 + 1)) fun v2_6 =>
            some (.inl (v2_6, M_2))
      else
        lt (wrap (v2 + 1)) fun v2_3 =>
        some (.inl (v2_3, M))
def f_X10_partPairs_l17 (v1 : Int) (v2 : Int) (M : Mem) : Option (Int × Mem) := whl (fun s => f_X10_partPairs_s17 v1 s.1 s.2) FU (v2, M)
def f_X10_partPairs_j90k2 (v1 : Int) (M : Mem) : Option ((Int × Mem) ⊕ (Int × Mem)) :=
  lt (wrap (v1 + 1)) fun v1_2 =>
  some (.inl (v1_2, M))
def f_X10_partPairs_s2 (v1 : Int) (M : Mem) : Option ((Int × Mem) ⊕ (Int × Mem)) :=
  if (M 3 0) ≤ v1 then
    some (.inr (v1, M))
  else
    lt (wrap (v1 + 1)) fun v2 =>
    obn (f_X10_partPairs_l17 v1 v2 M) fun s => f_X10_partPairs_j90k2 v1 s.2
def f_X10_partPairs_l2 (v1 : Int) (M : Mem) : Option (Int × Mem) := whl (fun s => f_X10_partPairs_s2 s.1 s.2) FU (v1, M)
def f_X10_partPairs_j96 (M : Mem) : Option (Mem) :=
  some M
def f_X10_partPairs (M : Mem) : Option (Mem) :=
  obn (f_X10_partPairs_l2 0 M) fun s => f_X10_partPairs_j96 s.2
def rm_X10_partPairs : Room := { frames := 2, cells := 0, slots := 0, locals := 83 }
def f_X10_settle_s4 (v1 : Int) (v2 : Int) (M : Mem) : Option ((Int × Int × Mem) ⊕ (Int × Int × Mem)) :=
  if (M 3 0) ≤ v2 then
    some (.inr (v1, v2, M))
  else
    gd ((0 : Int) ≤ v2 ∧ (v2 : Int) < 14) <|
    lt (M 1 v2.toNat) fun v3 =>
    if v3 = (-1) then
      lt (wrap (v2 + 1)) fun v2_4 =>
      some (.inl (v1, v2_4, M))
    else
      gd ((0 : Int) ≤ v3 ∧ (v3 : Int) < 3) <|
      obn (f_X1_bestWish v2 (M 2 v3.toNat) M) fun r =>
      if r = 3 then
        gd ((0 : Int) ≤ v2 ∧ (v2 : Int) < 14) <|
        gd ((0 : Int) ≤ v2 ∧ (v2 : Int) < 14) <|
        lt (mup M 8 v2.toNat (if 99 < wrap ((M 8 v2.toNat) + 1) then 99 else wrap ((M 8 v2.toNat) + 1))) fun M_3 =>
        lt (wrap (v1 + 1)) fun v1_2 =>
        lt (wrap (v2 + 1)) fun v2_3 =>
        some (.inl (v1_2, v2_3, M_3))
      else
        gd ((0 : Int) ≤ v2 ∧ (v2 : Int) < 14) <|
        lt (mup M 8 v2.toNat 0) fun M_2 =>
        lt (wrap (v2 + 1)) fun v2_2 =>
        some (.inl (v1, v2_2, M_2))
def f_X10_settle_l4 (v1 : Int) (v2 : Int) (M : Mem) : Option (Int × Int × Mem) := whl (fun s => f_X10_settle_s4 s.1 s.2.1 s.2.2) FU (v1, v2, M)
def f_X10_settle_j95 (v1 : Int) (M : Mem) : Option (Int × Mem) :=
  some (v1, M)
def f_X10_settle (M : Mem) : Option (Int × Mem) :=
  obn (f_X10_settle_l4 0 0 M) fun s => f_X10_settle_j95 s.1 s.2.2
def rm_X10_settle : Room := { frames := 1, cells := 0, slots := 0, locals := 60 }
def f_X10_close (M : Mem) : Option (Int × Mem) :=
  obn (f_X10_countListed M) fun r =>
  if r = 0 then
    some ((-1), M)
  else
    obn (f_X10_gatherList M) fun M_2 =>
    obn (f_X10_partPairs M_2) fun M_3 =>
    bnd (f_X10_settle M_3) fun r_2 M_4 =>
    obn (f_J7_fill_53178 14 (-1) M_4) fun M_5 =>
    obn (f_J7_fill_53178 15 (-1) M_5) fun M_6 =>
    obn (f_J7_fill_53178 1 (-1) M_6) fun M_7 =>
    lt (mup M_7 0 16 0) fun M_8 =>
    lt (mup M_8 0 14 (wrap ((M_8 0 14) + 1))) fun M_9 =>
    some (r_2, M_9)
def rm_X10_close : Room := { frames := 3, cells := 0, slots := 0, locals := 105 }
def f_X10_regret (p1 : Int) (p2 : Int) (M : Mem) : Option (Int) :=
  obn (f_X1_areTwo p1 p2 M) fun r =>
  if r = 0 then
    some (-1)
  else
    gd ((0 : Int) ≤ (wrap ((wrap (p1 * 14)) + p2)) ∧ ((wrap ((wrap (p1 * 14)) + p2)) : Int) < 196) <|
    some (M 13 (wrap ((wrap (p1 * 14)) + p2)).toNat)
def rm_X10_regret : Room := { frames := 2, cells := 0, slots := 0, locals := 43 }
def f_X10_scaled (p1 : Int) (p2 : Int) (p3 : Int) (p4 : Int) (M : Mem) : Option (Int × Mem) :=
  obn (f_X10_within p1 (-1) 3 M) fun r =>
  if r = 0 then
    some ((-1), M)
  else
    obn (f_X1_has p2 M) fun r_2 =>
    if r_2 = 0 then
      some ((-1), M)
    else
      obn (f_X10_within p3 0 1 M) fun r_3 =>
      if r_3 = 0 then
        some ((-1), M)
      else
        obn (f_X10_isDay p4 M) fun r_4 =>
        if r_4 = 0 then
          some ((-1), M)
        else
          obn (f_X5_learn p4 M) fun M_2 =>
          if p1 = (-1) then
            obn (f_X5_overall p2 p3 M_2) fun r_6 =>
            some (r_6, M_2)
          else
            obn (f_X5_scale p1 p2 p3 M_2) fun r_5 =>
            some (r_5, M_2)
def rm_X10_scaled : Room := { frames := 2, cells := 0, slots := 0, locals := 54 }
def f_X10_countClass (p1 : Int) (M : Mem) : Option (Int × Mem) :=
  obn (f_X10_within p1 10 (wrap (9 + (M 3 13))) M) fun r =>
  if r = 0 then
    obn (f_X10_within p1 20 22 M) fun r_2 =>
    if r_2 = 0 then
      some ((-1), M)
    else
      gd ((0 : Int) ≤ (wrap (p1 - 20)) ∧ ((wrap (p1 - 20)) : Int) < 3) <|
      some ((M 16 (wrap (p1 - 20)).toNat), M)
  else
    obn (f_X10_gatherList M) fun M_2 =>
    gd ((0 : Int) ≤ (wrap (p1 - 10)) ∧ ((wrap (p1 - 10)) : Int) < 3) <|
    obn (f_J6_bitCount_0f7a4 (M_2 2 (wrap (p1 - 10)).toNat) M_2) fun r_3 =>
    some (r_3, M_2)
def rm_X10_countClass : Room := { frames := 2, cells := 0, slots := 0, locals := 45 }
def f_X10_count (p1 : Int) (M : Mem) : Option (Int × Mem) :=
  if p1 < 0 ∨ 9 < p1 then
    bnd (f_X10_countClass p1 M) fun r M_2 =>
    some (r, M_2)
  else if p1 = 0 then
    some ((M 3 0), M)
  else if p1 = 1 then
    some ((M 3 13), M)
  else if p1 = 2 then
    some ((M 0 13), M)
  else if p1 = 3 then
    some ((M 17 0), M)
  else if p1 = 4 then
    some ((M 24 0), M)
  else if p1 = 5 then
    obn (f_X10_countListed M) fun r_2 =>
    some (r_2, M)
  else if p1 = 6 then
    some ((M 0 14), M)
  else if p1 = 7 then
    gd (isRu (M 0 11)) <|
    some ((M ((M 0 11).toNat) 0), M)
  else if p1 = 8 then
    some ((M 51 0), M)
  else if p1 = 9 then
    some ((M 57 0), M)
  else none
def rm_X10_count : Room := { frames := 3, cells := 0, slots := 0, locals := 66 }
end
noncomputable section
def f_X11_within (p0 : Int) (p1 : Int) (p2 : Int) (M : Mem) : Option (Int) :=
  if p0 < p1 then
    some 0
  else
    if p2 < p0 then
      some 0
    else
      some 1
def rm_X11_within : Room := { frames := 0, cells := 0, slots := 0, locals := 0 }
def f_X11_child (p1 : Int) (p2 : Int) (p3 : Int) (M : Mem) : Option (Int × Mem) :=
  lt (mup M 80 0 0) fun M_2 =>
  obn (f_X11_within p1 0 1 M_2) fun r =>
  if r = 0 then
    some ((-1), M_2)
  else
    obn (f_X11_within p2 1 12 M_2) fun r_2 =>
    if r_2 = 0 then
      some ((-1), M_2)
    else
      obn (f_X11_within p3 0 255 M_2) fun r_3 =>
      if r_3 = 0 then
        some ((-1), M_2)
      else
        if (M_2 80 1) = 14 then
          some ((-1), M_2)
        else
          gd ((0 : Int) ≤ (M_2 80 1) ∧ ((M_2 80 1) : Int) < 14) <|
          lt (mup M_2 81 (M_2 80 1).toNat p1) fun M_3 =>
          gd ((0 : Int) ≤ (M_3 80 1) ∧ ((M_3 80 1) : Int) < 14) <|
          lt (mup M_3 82 (M_3 80 1).toNat p2) fun M_4 =>
          gd ((0 : Int) ≤ (M_4 80 1) ∧ ((M_4 80 1) : Int) < 14) <|
          lt (mup M_4 83 (M_4 80 1).toNat p3) fun M_5 =>
          gd ((0 : Int) ≤ (M_5 80 1) ∧ ((M_5 80 1) : Int) < 14) <|
          lt (mup M_5 84 (M_5 80 1).toNat (M_5 80 14)) fun M_6 =>
          lt (mup M_6 80 43 0) fun M_7 =>
          lt (mup M_7 80 1 (wrap ((M_7 80 1) + 1))) fun M_8 =>
          some ((wrap ((M_8 80 1) - 1)), M_8)
def rm_X11_child : Room := { frames := 1, cells := 0, slots := 0, locals := 22 }
def f_X11_isChild (p1 : Int) (M : Mem) : Option (Int) :=
  obn (f_X11_within p1 0 (wrap ((M 80 1) - 1)) M) fun r =>
  gd (isZ r) <|
  some r
def rm_X11_isChild : Room := { frames := 1, cells := 0, slots := 0, locals := 22 }
def f_X11_mark (p1 : Int) (p2 : Int) (p3 : Int) (p4 : Int) (M : Mem) : Option (Int × Mem) :=
  lt (mup M 80 0 0) fun M_2 =>
  obn (f_X11_within p1 0 3 M_2) fun r =>
  if r = 0 then
    some (0, M_2)
  else
    obn (f_X11_isChild p2 M_2) fun r_2 =>
    if r_2 = 0 then
      some (0, M_2)
    else
      obn (f_X11_within p3 0 1 M_2) fun r_3 =>
      if r_3 = 0 then
        some (0, M_2)
      else
        obn (f_X11_within p4 0 100 M_2) fun r_4 =>
        if r_4 = 0 then
          some (0, M_2)
        else
          if (M_2 80 15) = 300 then
            some (0, M_2)
          else
            gd ((0 : Int) ≤ (M_2 80 15) ∧ ((M_2 80 15) : Int) < 300) <|
            lt (mup M_2 92 (M_2 80 15).toNat p1) fun M_3 =>
            gd ((0 : Int) ≤ (M_3 80 15) ∧ ((M_3 80 15) : Int) < 300) <|
            lt (mup M_3 93 (M_3 80 15).toNat p2) fun M_4 =>
            gd ((0 : Int) ≤ (M_4 80 15) ∧ ((M_4 80 15) : Int) < 300) <|
            lt (mup M_4 94 (M_4 80 15).toNat p3) fun M_5 =>
            gd ((0 : Int) ≤ (M_5 80 15) ∧ ((M_5 80 15) : Int) < 300) <|
            lt (mup M_5 95 (M_5 80 15).toNat p4) fun M_6 =>
            gd ((0 : Int) ≤ (M_6 80 15) ∧ ((M_6 80 15) : Int) < 300) <|
            lt (mup M_6 96 (M_6 80 15).toNat (M_6 80 14)) fun M_7 =>
            lt (mup M_7 80 43 0) fun M_8 =>
            lt (mup M_8 80 15 (wrap ((M_8 80 15) + 1))) fun M_9 =>
            some (1, M_9)
def rm_X11_mark : Room := { frames := 2, cells := 0, slots := 0, locals := 43 }
def f_X11_areTwo (p1 : Int) (p2 : Int) (M : Mem) : Option (Int) :=
  obn (f_X11_isChild p1 M) fun r =>
  if r = 0 then
    some 0
  else
    obn (f_X11_isChild p2 M) fun r_2 =>
    if r_2 = 0 then
      some 0
    else
      if p1 = p2 then
        some 0
      else
        some 1
def rm_X11_areTwo : Room := { frames := 2, cells := 0, slots := 0, locals := 43 }
def f_X11_wish (p1 : Int) (p2 : Int) (p3 : Int) (M : Mem) : Option (Int × Mem) :=
  lt (mup M 80 0 0) fun M_2 =>
  obn (f_X11_isChild p1 M_2) fun r =>
  if r = 0 then
    some (0, M_2)
  else
    obn (f_X11_within p2 0 2 M_2) fun r_2 =>
    if r_2 = 0 then
      some (0, M_2)
    else
      if p3 = (-1) then
        gd ((0 : Int) ≤ (wrap ((wrap (3 * p1)) + p2)) ∧ ((wrap ((wrap (3 * p1)) + p2)) : Int) < 42) <|
        lt (mup M_2 86 (wrap ((wrap (3 * p1)) + p2)).toNat p3) fun M_3 =>
        lt (mup M_3 80 43 0) fun M_4 =>
        some (1, M_4)
      else
        obn (f_X11_areTwo p1 p3 M_2) fun r_3 =>
        if r_3 = 0 then
          some (0, M_2)
        else
          gd ((0 : Int) ≤ (wrap ((wrap (3 * p1)) + p2)) ∧ ((wrap ((wrap (3 * p1)) + p2)) : Int) < 42) <|
          lt (mup M_2 86 (wrap ((wrap (3 * p1)) + p2)).toNat p3) fun M_5 =>
          lt (mup M_5 80 43 0) fun M_6 =>
          some (1, M_6)
def rm_X11_wish : Room := { frames := 3, cells := 0, slots := 0, locals := 65 }
def f_X11_turns (p1 : Nat) (p2 : Int) (p3 : Int) (p4 : Int) (M : Mem) : Option (Int × Mem) :=
  gd ((0 : Int) ≤ (wrap ((wrap (14 * p2)) + p3)) ∧ ((wrap ((wrap (14 * p2)) + p3)) : Int) < (aln p1 : Int)) <|
  if (M p1 (wrap ((wrap (14 * p2)) + p3)).toNat) = p4 then
    some (0, M)
  else
    lt (mup M 80 43 0) fun M_2 =>
    gd ((0 : Int) ≤ (wrap ((wrap (14 * p2)) + p3)) ∧ ((wrap ((wrap (14 * p2)) + p3)) : Int) < (aln p1 : Int)) <|
    gd (isZ p4) <|
    lt (mup M_2 p1 (wrap ((wrap (14 * p2)) + p3)).toNat p4) fun M_3 =>
    gd ((0 : Int) ≤ (wrap ((wrap (14 * p3)) + p2)) ∧ ((wrap ((wrap (14 * p3)) + p2)) : Int) < (aln p1 : Int)) <|
    gd (isZ p4) <|
    lt (mup M_3 p1 (wrap ((wrap (14 * p3)) + p2)).toNat p4) fun M_4 =>
    some (1, M_4)
def rm_X11_turns : Room := { frames := 0, cells := 0, slots := 0, locals := 0 }
def f_X11_bar (p1 : Int) (p2 : Int) (p3 : Int) (M : Mem) : Option (Int × Mem) :=
  lt (mup M 80 0 0) fun M_2 =>
  obn (f_X11_areTwo p1 p2 M_2) fun r =>
  if r = 0 then
    some (0, M_2)
  else
    bnd (f_X11_turns 88 p1 p2 p3 M_2) fun r_2 M_3 =>
    if r_2 = 0 then
      some (0, M_3)
    else
      some (1, M_3)
def rm_X11_bar : Room := { frames := 3, cells := 0, slots := 0, locals := 65 }
def f_X11_twins (p1 : Int) (p2 : Int) (p3 : Int) (M : Mem) : Option (Int × Mem) :=
  lt (mup M 80 0 0) fun M_2 =>
  obn (f_X11_areTwo p1 p2 M_2) fun r =>
  if r = 0 then
    some (0, M_2)
  else
    bnd (f_X11_turns 89 p1 p2 p3 M_2) fun r_2 M_3 =>
    if r_2 = 0 then
      some (0, M_3)
    else
      some (1, M_3)
def rm_X11_twins : Room := { frames := 3, cells := 0, slots := 0, locals := 65 }
def f_X11_not (p1 : Int) (p2 : Int) (p3 : Int) (M : Mem) : Option (Int × Mem) :=
  lt (mup M 80 0 0) fun M_2 =>
  obn (f_X11_isChild p1 M_2) fun r =>
  if r = 0 then
    some (0, M_2)
  else
    obn (f_X11_within p2 0 2 M_2) fun r_2 =>
    if r_2 = 0 then
      some (0, M_2)
    else
      gd ((0 : Int) ≤ (wrap ((wrap (3 * p1)) + p2)) ∧ ((wrap ((wrap (3 * p1)) + p2)) : Int) < 42) <|
      if (M_2 90 (wrap ((wrap (3 * p1)) + p2)).toNat) = p3 then
        some (0, M_2)
      else
        gd ((0 : Int) ≤ (wrap ((wrap (3 * p1)) + p2)) ∧ ((wrap ((wrap (3 * p1)) + p2)) : Int) < 42) <|
        gd (isZ p3) <|
        lt (mup M_2 90 (wrap ((wrap (3 * p1)) + p2)).toNat p3) fun M_3 =>
        lt (mup M_3 80 43 0) fun M_4 =>
        some (1, M_4)
def rm_X11_not : Room := { frames := 2, cells := 0, slots := 0, locals := 43 }
def f_X11_classes_s18 (v1 : Int) (M : Mem) (v2 : Int) : Option ((Int) ⊕ ((Int) ⊕ (Int × Mem))) :=
  if (M 80 1) ≤ v2 then
    some (.inr (.inl v2))
  else
    gd ((0 : Int) ≤ v2 ∧ (v2 : Int) < 14) <|
    if (M 110 v2.toNat) < v1 then
      lt (wrap (v2 + 1)) fun v2_2 =>
      some (.inl v2_2)
    else
      some (.inr (.inr (0, M)))
def f_X11_classes_l18 (v1 : Int) (M : Mem) (v2 : Int) : Option ((Int) ⊕ (Int × Mem)) := whl (fun s => f_X11_classes_s18 v1 M s) FU v2
def f_X11_classes_j44 (v1 : Int) (M : Mem) : Option (Int × Mem) :=
  lt (mup M 80 12 v1) fun M_2 =>
  lt (mup M_2 80 43 0) fun M_3 =>
  some (1, M_3)
def f_X11_classes (p1 : Int) (M : Mem) : Option (Int × Mem) :=
  lt (mup M 80 0 0) fun M_2 =>
  obn (f_X11_within p1 2 3 M_2) fun r =>
  if r = 0 then
    some (0, M_2)
  else
    lpr (f_X11_classes_l18 p1 M_2 0) (fun s => f_X11_classes_j44 p1 M_2) (fun q => some q)
def rm_X11_classes : Room := { frames := 1, cells := 0, slots := 0, locals := 22 }
def f_X11_room (p1 : Int) (p2 : Int) (M : Mem) : Option (Int × Mem) :=
  lt (mup M 80 0 0) fun M_2 =>
  obn (f_X11_within p1 0 2 M_2) fun r =>
  if r = 0 then
    some (0, M_2)
  else
    obn (f_X11_within p2 0 14 M_2) fun r_2 =>
    if r_2 = 0 then
      some (0, M_2)
    else
      gd ((0 : Int) ≤ p1 ∧ (p1 : Int) < 3) <|
      lt (mup M_2 91 p1.toNat p2) fun M_3 =>
      lt (mup M_3 80 43 0) fun M_4 =>
      some (1, M_4)
def rm_X11_room : Room := { frames := 1, cells := 0, slots := 0, locals := 22 }
def f_X11_feed_j73k20 (v1 : Int) (v2 : Int) (v3 : Int) (v4 : Int) (v5 : Int) (v6 : Int) (s0 : Int) (M : Mem) : Option ((Int × Mem) ⊕ (Int × Mem)) :=
  gd ((0 : Int) ≤ (M 80 32) ∧ ((M 80 32) : Int) < 400) <|
  gd (-128 ≤ (jbyte (bshr s0 (wrap (24 - (wrap (8 * (jrem v6 4))))))) ∧ (jbyte (bshr s0 (wrap (24 - (wrap (8 * (jrem v6 4))))))) < 128) <|
  lt (mup M 105 (M 80 32).toNat (jbyte (bshr s0 (wrap (24 - (wrap (8 * (jrem v6 4)))))))) fun M_2 =>
  lt (mup M_2 80 32 (wrap ((M_2 80 32) + 1))) fun M_3 =>
  lt (wrap (v6 + 1)) fun v6_2 =>
  some (.inl (v6_2, M_3))
def f_X11_feed_s20 (v1 : Int) (v2 : Int) (v3 : Int) (v4 : Int) (v5 : Int) (v6 : Int) (M : Mem) : Option ((Int × Mem) ⊕ (Int × Mem)) :=
  if 20 ≤ v6 then
    some (.inr (v6, M))
  else
    if 4 ≤ v6 then
      if 8 ≤ v6 then
        if 12 ≤ v6 then
          if 16 ≤ v6 then
            f_X11_feed_j73k20 v1 v2 v3 v4 v5 v6 v5 M
          else
            f_X11_feed_j73k20 v1 v2 v3 v4 v5 v6 v4 M
        else
          f_X11_feed_j73k20 v1 v2 v3 v4 v5 v6 v3 M
      else
        f_X11_feed_j73k20 v1 v2 v3 v4 v5 v6 v2 M
    else
      f_X11_feed_j73k20 v1 v2 v3 v4 v5 v6 v1 M
def f_X11_feed_l20 (v1 : Int) (v2 : Int) (v3 : Int) (v4 : Int) (v5 : Int) (v6 : Int) (M : Mem) : Option (Int × Mem) := whl (fun s => f_X11_feed_s20 v1 v2 v3 v4 v5 s.1 s.2) FU (v6, M)
def f_X11_feed_j114 (M : Mem) : Option (Int × Mem) :=
  some ((M 80 32), M)
def f_X11_feed (p1 : Int) (p2 : Int) (p3 : Int) (p4 : Int) (p5 : Int) (M : Mem) : Option (Int × Mem) :=
  lt (mup M 80 0 0) fun M_2 =>
  if (M_2 80 32) ≤ 380 then
    obn (f_X11_feed_l20 p1 p2 p3 p4 p5 0 M_2) fun s => f_X11_feed_j114 s.2
  else
    some ((-1), M_2)
def rm_X11_feed : Room := { frames := 0, cells := 0, slots := 0, locals := 0 }
def f_X11_end (p1 : Int) (M : Mem) : Option (Int × Mem) :=
  lt (mup M 80 0 0) fun M_2 =>
  obn (f_X11_within p1 0 (M_2 80 32) M_2) fun r =>
  if r = 0 then
    some ((-1), M_2)
  else
    lt (mup M_2 80 32 p1) fun M_3 =>
    some (p1, M_3)
def rm_X11_end : Room := { frames := 1, cells := 0, slots := 0, locals := 22 }
def f_X11_byteAt (p1 : Int) (M : Mem) : Option (Int) :=
  if (M 80 32) ≤ p1 then
    some 0
  else
    gd ((0 : Int) ≤ p1 ∧ (p1 : Int) < 400) <|
    some (band (M 105 p1.toNat) 255)
def rm_X11_byteAt : Room := { frames := 0, cells := 0, slots := 0, locals := 0 }
def f_X11_isSmall (p0 : Int) (M : Mem) : Option (Int) :=
  if p0 < 97 then
    some 0
  else
    if 122 < p0 then
      some 0
    else
      some 1
def rm_X11_isSmall : Room := { frames := 0, cells := 0, slots := 0, locals := 0 }
def f_X11_isDigit (p0 : Int) (M : Mem) : Option (Int) :=
  if p0 < 48 then
    some 0
  else
    if 57 < p0 then
      some 0
    else
      some 1
def rm_X11_isDigit : Room := { frames := 0, cells := 0, slots := 0, locals := 0 }
def f_X11_next_s8 (M : Mem) : Option ((Mem) ⊕ (Mem)) :=
  obn (f_X11_byteAt (M 80 35) M) fun r =>
  if r = 32 then
    lt (mup M 80 35 (wrap ((M 80 35) + 1))) fun M_2 =>
    some (.inl M_2)
  else
    obn (f_X11_byteAt (M 80 35) M) fun r_2 =>
    if r_2 = 10 then
      lt (mup M 80 35 (wrap ((M 80 35) + 1))) fun M_3 =>
      some (.inl M_3)
    else
      some (.inr M)
def f_X11_next_l8 (M : Mem) : Option (Mem) := whl (fun s => f_X11_next_s8 s) FU M
def f_X11_next_s137 (M : Mem) : Option ((Mem) ⊕ (Mem)) :=
  obn (f_X11_byteAt (M 80 36) M) fun r =>
  obn (f_X11_isDigit r M) fun r_2 =>
  if r_2 = 0 then
    some (.inr M)
  else
    if 2 ≤ (wrap ((M 80 36) - (M 80 35))) then
      lt (mup M 80 36 (wrap ((M 80 36) + 1))) fun M_2 =>
      some (.inl M_2)
    else
      obn (f_X11_byteAt (M 80 36) M) fun r_3 =>
      lt (mup M 80 37 (wrap ((wrap ((wrap (10 * (M 80 37))) + r_3)) - 48))) fun M_3 =>
      lt (mup M_3 80 36 (wrap ((M_3 80 36) + 1))) fun M_4 =>
      some (.inl M_4)
def f_X11_next_l137 (M : Mem) : Option (Mem) := whl (fun s => f_X11_next_s137 s) FU M
def f_X11_next_j200 (M : Mem) : Option (Mem) :=
  if (wrap ((M 80 36) - (M 80 35))) ≤ 2 then
    lt (mup M 80 38 2) fun M_2 =>
    some M_2
  else
    lt (mup M 80 38 4) fun M_3 =>
    some M_3
def f_X11_next_s90 (M : Mem) : Option ((Mem) ⊕ (Mem)) :=
  obn (f_X11_byteAt (M 80 36) M) fun r =>
  obn (f_X11_isSmall r M) fun r_2 =>
  if r_2 = 0 then
    some (.inr M)
  else
    lt (mup M 80 36 (wrap ((M 80 36) + 1))) fun M_2 =>
    some (.inl M_2)
def f_X11_next_l90 (M : Mem) : Option (Mem) := whl (fun s => f_X11_next_s90 s) FU M
def f_X11_next_j117 (M : Mem) : Option (Mem) :=
  lt (mup M 80 38 1) fun M_2 =>
  some M_2
def f_X11_next_j47 (M : Mem) : Option (Mem) :=
  lt (mup M 80 36 (M 80 35)) fun M_2 =>
  obn (f_X11_byteAt (M_2 80 35) M_2) fun r =>
  if (M_2 80 35) < (M_2 80 32) then
    obn (f_X11_isSmall r M_2) fun r_2 =>
    if r_2 = 0 then
      obn (f_X11_isDigit r M_2) fun r_3 =>
      if r_3 = 0 then
        lt (mup M_2 80 36 (wrap ((M_2 80 36) + 1))) fun M_3 =>
        if r = 59 then
          lt (mup M_3 80 38 3) fun M_4 =>
          some M_4
        else
          if r = 58 then
            lt (mup M_3 80 38 3) fun M_5 =>
            some M_5
          else
            if r = 60 then
              lt (mup M_3 80 38 3) fun M_6 =>
              some M_6
            else
              if r = 61 then
                lt (mup M_3 80 38 3) fun M_7 =>
                some M_7
              else
                if r = 62 then
                  lt (mup M_3 80 38 3) fun M_9 =>
                  some M_9
                else
                  lt (mup M_3 80 38 4) fun M_8 =>
                  some M_8
      else
        lt (mup M_2 80 37 0) fun M_10 =>
        obn (f_X11_next_l137 M_10) fun s => f_X11_next_j200 s
    else
      obn (f_X11_next_l90 M_2) fun s => f_X11_next_j117 s
  else
    lt (mup M_2 80 38 0) fun M_11 =>
    some M_11
def f_X11_next (M : Mem) : Option (Mem) :=
  lt (mup M 80 35 (M 80 36)) fun M_2 =>
  obn (f_X11_next_l8 M_2) fun s => f_X11_next_j47 s
def rm_X11_next : Room := { frames := 1, cells := 0, slots := 0, locals := 21 }
def f_X11_sortWord (p0 : Int) (M : Mem) : Option (Int) :=
  if p0 < 0 ∨ 7 < p0 then
    some 13
  else if p0 = 0 then
    some 5
  else if p0 = 1 then
    some 6
  else if p0 = 2 then
    some 7
  else if p0 = 3 then
    some 8
  else if p0 = 4 then
    some 9
  else if p0 = 5 then
    some 10
  else if p0 = 6 then
    some 11
  else if p0 = 7 then
    some 12
  else none
def rm_X11_sortWord : Room := { frames := 0, cells := 0, slots := 0, locals := 0 }
def f_X11_isWord_s32 (p1 : Nat) (v2 : Int) (v3 : Int) (M : Mem) : Option ((Int × Int × Mem) ⊕ (Int × Int × Mem)) :=
  if (sLen p1 : Int) ≤ v3 then
    some (.inr (v2, v3, M))
  else
    if v2 = 0 then
      some (.inr (v2, v3, M))
    else
      obn (f_X11_byteAt (wrap ((M 80 35) + v3)) M) fun r =>
      gd (0 ≤ v3 ∧ v3 < (sLen p1 : Int)) <|
      if r = (sAt p1 v3.toNat) then
        lt (wrap (v3 + 1)) fun v3_3 =>
        some (.inl (1, v3_3, M))
      else
        lt (wrap (v3 + 1)) fun v3_2 =>
        some (.inl (0, v3_2, M))
def f_X11_isWord_l32 (p1 : Nat) (v2 : Int) (v3 : Int) (M : Mem) : Option (Int × Int × Mem) := whl (fun s => f_X11_isWord_s32 p1 s.1 s.2.1 s.2.2) FU (v2, v3, M)
def f_X11_isWord_j74 (p1 : Nat) (v2 : Int) (M : Mem) : Option (Int × Mem) :=
  gd (isZ v2) <|
  some (v2, M)
def f_X11_isWord_j29 (p1 : Nat) (s0 : Int) (M : Mem) : Option (Int × Mem) :=
  obn (f_X11_isWord_l32 p1 s0 0 M) fun s => f_X11_isWord_j74 p1 s.1 s.2.2
def f_X11_isWord (p1 : Nat) (M : Mem) : Option (Int × Mem) :=
  if (M 80 38) = 1 then
    if (wrap ((M 80 36) - (M 80 35))) = (sLen p1 : Int) then
      f_X11_isWord_j29 p1 1 M
    else
      f_X11_isWord_j29 p1 0 M
  else
    f_X11_isWord_j29 p1 0 M
def rm_X11_isWord : Room := { frames := 6, cells := 0, slots := 0, locals := 200 }
def f_X11_sortHere_s2 (v1 : Int) (M : Mem) : Option ((Int × Mem) ⊕ ((Int × Mem) ⊕ (Int × Mem))) :=
  if 9 ≤ v1 then
    some (.inr (.inl (v1, M)))
  else
    obn (f_X11_sortWord v1 M) fun r =>
    bnd (f_X11_isWord r.toNat M) fun r_2 M_2 =>
    if r_2 = 0 then
      lt (wrap (v1 + 1)) fun v1_2 =>
      some (.inl (v1_2, M_2))
    else
      some (.inr (.inr (v1, M_2)))
def f_X11_sortHere_l2 (v1 : Int) (M : Mem) : Option ((Int × Mem) ⊕ (Int × Mem)) := whl (fun s => f_X11_sortHere_s2 s.1 s.2) FU (v1, M)
def f_X11_sortHere_j27 (M : Mem) : Option (Int × Mem) :=
  some ((-1), M)
def f_X11_sortHere (M : Mem) : Option (Int × Mem) :=
  lpr (f_X11_sortHere_l2 0 M) (fun s => f_X11_sortHere_j27 s.2) (fun q => some q)
def rm_X11_sortHere : Room := { frames := 7, cells := 0, slots := 0, locals := 223 }
def f_X11_wrong (p1 : Int) (M : Mem) : Option (Int × Mem) :=
  if (M 80 33) = 0 then
    lt (mup M 80 33 p1) fun M_2 =>
    lt (mup M_2 80 34 (M_2 80 35)) fun M_3 =>
    some (0, M_3)
  else
    some (0, M)
def rm_X11_wrong : Room := { frames := 0, cells := 0, slots := 0, locals := 0 }
def f_X11_isSign (p1 : Int) (M : Mem) : Option (Int) :=
  if (M 80 38) = 3 then
    obn (f_X11_byteAt (M 80 35) M) fun r =>
    if r = p1 then
      some 1
    else
      some 0
  else
    some 0
def rm_X11_isSign : Room := { frames := 1, cells := 0, slots := 0, locals := 21 }
def f_X11_factWord (p0 : Int) (M : Mem) : Option (Int) :=
  if p0 < 0 ∨ 5 < p0 then
    some 22
  else if p0 = 0 then
    some 16
  else if p0 = 1 then
    some 17
  else if p0 = 2 then
    some 18
  else if p0 = 3 then
    some 19
  else if p0 = 4 then
    some 20
  else if p0 = 5 then
    some 21
  else none
def rm_X11_factWord : Room := { frames := 0, cells := 0, slots := 0, locals := 0 }
def f_X11_factHere_s2 (v1 : Int) (M : Mem) : Option ((Int × Mem) ⊕ ((Int × Mem) ⊕ (Int × Mem))) :=
  if 7 ≤ v1 then
    some (.inr (.inl (v1, M)))
  else
    obn (f_X11_factWord v1 M) fun r =>
    bnd (f_X11_isWord r.toNat M) fun r_2 M_2 =>
    if r_2 = 0 then
      lt (wrap (v1 + 1)) fun v1_2 =>
      some (.inl (v1_2, M_2))
    else
      some (.inr (.inr (v1, M_2)))
def f_X11_factHere_l2 (v1 : Int) (M : Mem) : Option ((Int × Mem) ⊕ (Int × Mem)) := whl (fun s => f_X11_factHere_s2 s.1 s.2) FU (v1, M)
def f_X11_factHere_j27 (M : Mem) : Option (Int × Mem) :=
  some ((-1), M)
def f_X11_factHere (M : Mem) : Option (Int × Mem) :=
  lpr (f_X11_factHere_l2 0 M) (fun s => f_X11_factHere_j27 s.2) (fun q => some q)
def rm_X11_factHere : Room := { frames := 7, cells := 0, slots := 0, locals := 223 }
def f_X11_takesTerm_j188 (v1 : Int) (s0 : Int) (s1 : Int) (M : Mem) : Option (Int × Mem) :=
  gd ((0 : Int) ≤ s1 ∧ (s1 : Int) < 256) <|
  lt (mup M 103 s1.toNat s0) fun M_2 =>
  obn (f_X11_next M_2) fun M_3 =>
  if (M_3 80 38) = 2 then
    gd ((0 : Int) ≤ v1 ∧ (v1 : Int) < 256) <|
    lt (mup M_3 104 v1.toNat (M_3 80 37)) fun M_4 =>
    obn (f_X11_next M_4) fun M_5 =>
    some (1, M_5)
  else
    bnd (f_X11_wrong 1 M_3) fun r M_6 =>
    gd (isZ r) <|
    some (r, M_6)
def f_X11_takesTerm_j26 (v1 : Int) (M : Mem) : Option (Int × Mem) :=
  bnd (f_X11_isWord 15 M) fun r M_2 =>
  if r = 0 then
    bnd (f_X11_factHere M_2) fun r_2 M_3 =>
    gd ((0 : Int) ≤ v1 ∧ (v1 : Int) < 256) <|
    lt (mup M_3 102 v1.toNat r_2) fun M_4 =>
    gd ((0 : Int) ≤ v1 ∧ (v1 : Int) < 256) <|
    if (M_4 102 v1.toNat) = (-1) then
      bnd (f_X11_wrong 1 M_4) fun r_13 M_7 =>
      gd (isZ r_13) <|
      some (r_13, M_7)
    else
      obn (f_X11_next M_4) fun M_5 =>
      obn (f_X11_isSign 60 M_5) fun r_3 =>
      if r_3 = 0 then
        obn (f_X11_isSign 61 M_5) fun r_6 =>
        if r_6 = 0 then
          obn (f_X11_isSign 62 M_5) fun r_9 =>
          if r_9 = 0 then
            bnd (f_X11_wrong 1 M_5) fun r_12 M_6 =>
            gd (isZ r_12) <|
            some (r_12, M_6)
          else
            obn (f_X11_isSign 60 M_5) fun r_10 =>
            if r_10 = 0 then
              obn (f_X11_isSign 61 M_5) fun r_11 =>
              if r_11 = 0 then
                f_X11_takesTerm_j188 v1 2 v1 M_5
              else
                f_X11_takesTerm_j188 v1 1 v1 M_5
            else
              f_X11_takesTerm_j188 v1 0 v1 M_5
        else
          obn (f_X11_isSign 60 M_5) fun r_7 =>
          if r_7 = 0 then
            obn (f_X11_isSign 61 M_5) fun r_8 =>
            if r_8 = 0 then
              f_X11_takesTerm_j188 v1 2 v1 M_5
            else
              f_X11_takesTerm_j188 v1 1 v1 M_5
          else
            f_X11_takesTerm_j188 v1 0 v1 M_5
      else
        obn (f_X11_isSign 60 M_5) fun r_4 =>
        if r_4 = 0 then
          obn (f_X11_isSign 61 M_5) fun r_5 =>
          if r_5 = 0 then
            f_X11_takesTerm_j188 v1 2 v1 M_5
          else
            f_X11_takesTerm_j188 v1 1 v1 M_5
        else
          f_X11_takesTerm_j188 v1 0 v1 M_5
  else
    obn (f_X11_next M_2) fun M_8 =>
    if (M_8 80 38) = 2 then
      if (M_8 80 37) ≤ 7 then
        gd ((0 : Int) ≤ v1 ∧ (v1 : Int) < 256) <|
        lt (mup M_8 102 v1.toNat 7) fun M_9 =>
        gd ((0 : Int) ≤ v1 ∧ (v1 : Int) < 256) <|
        lt (mup M_9 104 v1.toNat (M_9 80 37)) fun M_10 =>
        obn (f_X11_next M_10) fun M_11 =>
        some (1, M_11)
      else
        bnd (f_X11_wrong 2 M_8) fun r_14 M_12 =>
        gd (isZ r_14) <|
        some (r_14, M_12)
    else
      bnd (f_X11_wrong 1 M_8) fun r_15 M_13 =>
      gd (isZ r_15) <|
      some (r_15, M_13)
def f_X11_takesTerm (p1 : Int) (M : Mem) : Option (Int × Mem) :=
  bnd (f_X11_isWord 14 M) fun r M_2 =>
  gd ((0 : Int) ≤ p1 ∧ (p1 : Int) < 256) <|
  gd (isZ r) <|
  lt (mup M_2 101 p1.toNat r) fun M_3 =>
  gd ((0 : Int) ≤ p1 ∧ (p1 : Int) < 256) <|
  if (M_3 101 p1.toNat) = 0 then
    bnd (f_X11_isWord 15 M_3) fun r_2 M_4 =>
    if r_2 = 0 then
      bnd (f_X11_factHere M_4) fun r_3 M_5 =>
      gd ((0 : Int) ≤ p1 ∧ (p1 : Int) < 256) <|
      lt (mup M_5 102 p1.toNat r_3) fun M_6 =>
      gd ((0 : Int) ≤ p1 ∧ (p1 : Int) < 256) <|
      if (M_6 102 p1.toNat) = (-1) then
        bnd (f_X11_wrong 1 M_6) fun r_14 M_9 =>
        gd (isZ r_14) <|
        some (r_14, M_9)
      else
        obn (f_X11_next M_6) fun M_7 =>
        obn (f_X11_isSign 60 M_7) fun r_4 =>
        if r_4 = 0 then
          obn (f_X11_isSign 61 M_7) fun r_7 =>
          if r_7 = 0 then
            obn (f_X11_isSign 62 M_7) fun r_10 =>
            if r_10 = 0 then
              bnd (f_X11_wrong 1 M_7) fun r_13 M_8 =>
              gd (isZ r_13) <|
              some (r_13, M_8)
            else
              obn (f_X11_isSign 60 M_7) fun r_11 =>
              if r_11 = 0 then
                obn (f_X11_isSign 61 M_7) fun r_12 =>
                if r_12 = 0 then
                  f_X11_takesTerm_j188 p1 2 p1 M_7
                else
                  f_X11_takesTerm_j188 p1 1 p1 M_7
              else
                f_X11_takesTerm_j188 p1 0 p1 M_7
          else
            obn (f_X11_isSign 60 M_7) fun r_8 =>
            if r_8 = 0 then
              obn (f_X11_isSign 61 M_7) fun r_9 =>
              if r_9 = 0 then
                f_X11_takesTerm_j188 p1 2 p1 M_7
              else
                f_X11_takesTerm_j188 p1 1 p1 M_7
            else
              f_X11_takesTerm_j188 p1 0 p1 M_7
        else
          obn (f_X11_isSign 60 M_7) fun r_5 =>
          if r_5 = 0 then
            obn (f_X11_isSign 61 M_7) fun r_6 =>
            if r_6 = 0 then
              f_X11_takesTerm_j188 p1 2 p1 M_7
            else
              f_X11_takesTerm_j188 p1 1 p1 M_7
          else
            f_X11_takesTerm_j188 p1 0 p1 M_7
    else
      obn (f_X11_next M_4) fun M_10 =>
      if (M_10 80 38) = 2 then
        if (M_10 80 37) ≤ 7 then
          gd ((0 : Int) ≤ p1 ∧ (p1 : Int) < 256) <|
          lt (mup M_10 102 p1.toNat 7) fun M_11 =>
          gd ((0 : Int) ≤ p1 ∧ (p1 : Int) < 256) <|
          lt (mup M_11 104 p1.toNat (M_11 80 37)) fun M_12 =>
          obn (f_X11_next M_12) fun M_13 =>
          some (1, M_13)
        else
          bnd (f_X11_wrong 2 M_10) fun r_15 M_14 =>
          gd (isZ r_15) <|
          some (r_15, M_14)
      else
        bnd (f_X11_wrong 1 M_10) fun r_16 M_15 =>
        gd (isZ r_16) <|
        some (r_16, M_15)
  else
    obn (f_X11_next M_3) fun M_16 =>
    f_X11_takesTerm_j26 p1 M_16
def rm_X11_takesTerm : Room := { frames := 8, cells := 0, slots := 0, locals := 244 }
def f_X11_takesTerms_j46k9 (v1 : Int) (v2 : Int) (s0 : Int) (M : Mem) : Option ((Int × Mem) ⊕ ((Int × Mem) ⊕ (Int × Mem))) :=
  if s0 = 0 then
    bnd (f_X11_wrong 1 M) fun r_4 M_7 =>
    gd (isZ r_4) <|
    some (.inr (.inr (r_4, M_7)))
  else
    gd ((0 : Int) ≤ v1 ∧ (v1 : Int) < 64) <|
    if (M 100 v1.toNat) = 4 then
      bnd (f_X11_wrong 3 M) fun r_3 M_6 =>
      gd (isZ r_3) <|
      some (.inr (.inr (r_3, M_6)))
    else
      gd ((0 : Int) ≤ v1 ∧ (v1 : Int) < 64) <|
      bnd (f_X11_takesTerm (wrap ((wrap (4 * v1)) + (M 100 v1.toNat))) M) fun r M_2 =>
      if r = 0 then
        some (.inr (.inr (0, M_2)))
      else
        gd ((0 : Int) ≤ v1 ∧ (v1 : Int) < 64) <|
        gd ((0 : Int) ≤ v1 ∧ (v1 : Int) < 64) <|
        lt (mup M_2 100 v1.toNat (wrap ((M_2 100 v1.toNat) + 1))) fun M_3 =>
        bnd (f_X11_isWord 23 M_3) fun r_2 M_4 =>
        if r_2 = 0 then
          some (.inl (r_2, M_4))
        else
          obn (f_X11_next M_4) fun M_5 =>
          some (.inl (r_2, M_5))
def f_X11_takesTerms_s9 (v1 : Int) (v2 : Int) (M : Mem) : Option ((Int × Mem) ⊕ ((Int × Mem) ⊕ (Int × Mem))) :=
  if v2 = 0 then
    some (.inr (.inl (v2, M)))
  else
    bnd (f_X11_isWord 14 M) fun r M_2 =>
    if r = 0 then
      bnd (f_X11_isWord 15 M_2) fun r_2 M_3 =>
      if r_2 = 0 then
        bnd (f_X11_factHere M_3) fun r_3 M_4 =>
        if r_3 = (-1) then
          f_X11_takesTerms_j46k9 v1 v2 0 M_4
        else
          f_X11_takesTerms_j46k9 v1 v2 1 M_4
      else
        f_X11_takesTerms_j46k9 v1 v2 1 M_3
    else
      f_X11_takesTerms_j46k9 v1 v2 1 M_2
def f_X11_takesTerms_l9 (v1 : Int) (v2 : Int) (M : Mem) : Option ((Int × Mem) ⊕ (Int × Mem)) := whl (fun s => f_X11_takesTerms_s9 v1 s.1 s.2) FU (v2, M)
def f_X11_takesTerms_j121 (M : Mem) : Option (Int × Mem) :=
  some (1, M)
def f_X11_takesTerms (p1 : Int) (M : Mem) : Option (Int × Mem) :=
  gd ((0 : Int) ≤ p1 ∧ (p1 : Int) < 64) <|
  lt (mup M 100 p1.toNat 0) fun M_2 =>
  lpr (f_X11_takesTerms_l9 p1 1 M_2) (fun s => f_X11_takesTerms_j121 s.2) (fun q => some q)
def rm_X11_takesTerms : Room := { frames := 9, cells := 0, slots := 0, locals := 265 }
def f_X11_takesSign (p1 : Int) (M : Mem) : Option (Int × Mem) :=
  obn (f_X11_isSign p1 M) fun r =>
  if r = 0 then
    bnd (f_X11_wrong 1 M) fun r_2 M_3 =>
    gd (isZ r_2) <|
    some (r_2, M_3)
  else
    obn (f_X11_next M) fun M_2 =>
    some (1, M_2)
def rm_X11_takesSign : Room := { frames := 2, cells := 0, slots := 0, locals := 42 }
def f_X11_takesNumber (p1 : Int) (M : Mem) : Option (Int × Mem) :=
  if (M 80 38) = 2 then
    gd ((0 : Int) ≤ p1 ∧ (p1 : Int) < 32) <|
    lt (mup M 98 p1.toNat (M 80 37)) fun M_2 =>
    obn (f_X11_next M_2) fun M_3 =>
    some (1, M_3)
  else
    bnd (f_X11_wrong 1 M) fun r M_4 =>
    gd (isZ r) <|
    some (r, M_4)
def rm_X11_takesNumber : Room := { frames := 2, cells := 0, slots := 0, locals := 42 }
def f_X11_isBody_j323 (v1 : Int) (s0 : Int) (s1 : Int) (M : Mem) : Option (Int × Mem) :=
  gd ((0 : Int) ≤ s1 ∧ (s1 : Int) < 32) <|
  lt (mup M 98 s1.toNat s0) fun M_2 =>
  gd ((0 : Int) ≤ v1 ∧ (v1 : Int) < 32) <|
  if (M_2 98 v1.toNat) = (-1) then
    bnd (f_X11_wrong 1 M_2) fun r M_4 =>
    gd (isZ r) <|
    some (r, M_4)
  else
    obn (f_X11_next M_2) fun M_3 =>
    some (1, M_3)
def f_X11_isBody (p1 : Int) (p2 : Int) (M : Mem) : Option (Int × Mem) :=
  if p2 < 0 ∨ 7 < p2 then
    bnd (f_X11_isWord 10 M) fun r M_2 =>
    if r = 0 then
      bnd (f_X11_isWord 25 M_2) fun r_2 M_3 =>
      if r_2 = 0 then
        bnd (f_X11_isWord 26 M_3) fun r_3 M_4 =>
        if r_3 = 0 then
          f_X11_isBody_j323 p1 (-1) p1 M_4
        else
          f_X11_isBody_j323 p1 0 p1 M_4
      else
        f_X11_isBody_j323 p1 2 p1 M_3
    else
      f_X11_isBody_j323 p1 1 p1 M_2
  else if p2 = 0 then
    gd ((0 : Int) ≤ (wrap (2 * p1)) ∧ ((wrap (2 * p1)) : Int) < 64) <|
    lt (mup M 100 (wrap (2 * p1)).toNat 0) fun M_5 =>
    obn (f_X11_isSign 58 M_5) fun r_4 =>
    if r_4 = 0 then
      bnd (f_X11_takesTerms (wrap (2 * p1)) M_5) fun r_7 M_8 =>
      if r_7 = 0 then
        some (0, M_8)
      else
        bnd (f_X11_takesSign 58 M_8) fun r_8 M_9 =>
        if r_8 = 0 then
          some (0, M_9)
        else
          bnd (f_X11_takesNumber p1 M_9) fun r_9 M_10 =>
          if r_9 = 0 then
            some (0, M_10)
          else
            some (1, M_10)
    else
      bnd (f_X11_takesSign 58 M_5) fun r_5 M_6 =>
      if r_5 = 0 then
        some (0, M_6)
      else
        bnd (f_X11_takesNumber p1 M_6) fun r_6 M_7 =>
        if r_6 = 0 then
          some (0, M_7)
        else
          some (1, M_7)
  else if p2 = 1 then
    bnd (f_X11_factHere M) fun r_10 M_11 =>
    gd ((0 : Int) ≤ p1 ∧ (p1 : Int) < 32) <|
    lt (mup M_11 99 p1.toNat r_10) fun M_12 =>
    gd ((0 : Int) ≤ p1 ∧ (p1 : Int) < 32) <|
    if (M_12 99 p1.toNat) = (-1) then
      bnd (f_X11_wrong 1 M_12) fun r_13 M_16 =>
      gd (isZ r_13) <|
      some (r_13, M_16)
    else
      obn (f_X11_next M_12) fun M_13 =>
      bnd (f_X11_takesSign 58 M_13) fun r_11 M_14 =>
      if r_11 = 0 then
        some (0, M_14)
      else
        bnd (f_X11_takesNumber p1 M_14) fun r_12 M_15 =>
        if r_12 = 0 then
          some (0, M_15)
        else
          some (1, M_15)
  else if p2 = 2 then
    bnd (f_X11_takesSign 58 M) fun r_14 M_17 =>
    if r_14 = 0 then
      some (0, M_17)
    else
      bnd (f_X11_takesNumber p1 M_17) fun r_15 M_18 =>
      if r_15 = 0 then
        some (0, M_18)
      else
        some (1, M_18)
  else if p2 = 3 then
    bnd (f_X11_takesTerms (wrap (2 * p1)) M) fun r_16 M_19 =>
    if r_16 = 0 then
      some (0, M_19)
    else
      bnd (f_X11_takesSign 58 M_19) fun r_17 M_20 =>
      if r_17 = 0 then
        some (0, M_20)
      else
        bnd (f_X11_takesNumber p1 M_20) fun r_18 M_21 =>
        if r_18 = 0 then
          some (0, M_21)
        else
          some (1, M_21)
  else if p2 = 4 then
    bnd (f_X11_takesSign 58 M) fun r_19 M_22 =>
    if r_19 = 0 then
      some (0, M_22)
    else
      bnd (f_X11_takesNumber p1 M_22) fun r_20 M_23 =>
      if r_20 = 0 then
        some (0, M_23)
      else
        some (1, M_23)
  else if p2 = 5 then
    bnd (f_X11_takesTerms (wrap (2 * p1)) M) fun r_21 M_24 =>
    if r_21 = 0 then
      some (0, M_24)
    else
      bnd (f_X11_isWord 24 M_24) fun r_22 M_25 =>
      if r_22 = 0 then
        bnd (f_X11_wrong 1 M_25) fun r_24 M_28 =>
        gd (isZ r_24) <|
        some (r_24, M_28)
      else
        obn (f_X11_next M_25) fun M_26 =>
        bnd (f_X11_takesTerms (wrap ((wrap (2 * p1)) + 1)) M_26) fun r_23 M_27 =>
        gd (isZ r_23) <|
        some (r_23, M_27)
  else if p2 = 6 then
    bnd (f_X11_takesNumber p1 M) fun r_25 M_29 =>
    if r_25 = 0 then
      some (0, M_29)
    else
      bnd (f_X11_takesTerms (wrap (2 * p1)) M_29) fun r_26 M_30 =>
      if r_26 = 0 then
        some (0, M_30)
      else
        some (1, M_30)
  else if p2 = 7 then
    bnd (f_X11_takesNumber p1 M) fun r_27 M_31 =>
    if r_27 = 0 then
      some (0, M_31)
    else
      bnd (f_X11_takesTerms (wrap (2 * p1)) M_31) fun r_28 M_32 =>
      if r_28 = 0 then
        some (0, M_32)
      else
        some (1, M_32)
  else none
def rm_X11_isBody : Room := { frames := 10, cells := 0, slots := 0, locals := 288 }
def f_X11_statement (M : Mem) : Option (Int × Mem) :=
  bnd (f_X11_sortHere M) fun r M_2 =>
  if r = (-1) then
    bnd (f_X11_wrong 1 M_2) fun r_5 M_13 =>
    gd (isZ r_5) <|
    some (r_5, M_13)
  else
    if (M_2 80 22) = 16 then
      bnd (f_X11_wrong 3 M_2) fun r_4 M_12 =>
      gd (isZ r_4) <|
      some (r_4, M_12)
    else
      lt (wrap (16 + (M_2 80 22))) fun v2 =>
      gd ((0 : Int) ≤ v2 ∧ (v2 : Int) < 32) <|
      lt (mup M_2 97 v2.toNat r) fun M_3 =>
      gd ((0 : Int) ≤ v2 ∧ (v2 : Int) < 32) <|
      lt (mup M_3 98 v2.toNat 0) fun M_4 =>
      gd ((0 : Int) ≤ v2 ∧ (v2 : Int) < 32) <|
      lt (mup M_4 99 v2.toNat (-1)) fun M_5 =>
      gd ((0 : Int) ≤ (wrap (2 * v2)) ∧ ((wrap (2 * v2)) : Int) < 64) <|
      lt (mup M_5 100 (wrap (2 * v2)).toNat (-1)) fun M_6 =>
      gd ((0 : Int) ≤ (wrap ((wrap (2 * v2)) + 1)) ∧ ((wrap ((wrap (2 * v2)) + 1)) : Int) < 64) <|
      lt (mup M_6 100 (wrap ((wrap (2 * v2)) + 1)).toNat (-1)) fun M_7 =>
      obn (f_X11_next M_7) fun M_8 =>
      bnd (f_X11_isBody v2 r M_8) fun r_2 M_9 =>
      if r_2 = 0 then
        some (0, M_9)
      else
        bnd (f_X11_takesSign 59 M_9) fun r_3 M_10 =>
        if r_3 = 0 then
          some (0, M_10)
        else
          lt (mup M_10 80 22 (wrap ((M_10 80 22) + 1))) fun M_11 =>
          some (1, M_11)
def rm_X11_statement : Room := { frames := 11, cells := 0, slots := 0, locals := 310 }
def f_X11_rule_s31 (v1 : Int) (M : Mem) : Option ((Int × Mem) ⊕ (Int × Mem)) :=
  if v1 = 0 then
    some (.inr (v1, M))
  else
    if (M 80 38) = 0 then
      some (.inr (v1, M))
    else
      bnd (f_X11_statement M) fun r M_2 =>
      some (.inl (r, M_2))
def f_X11_rule_l31 (v1 : Int) (M : Mem) : Option (Int × Mem) := whl (fun s => f_X11_rule_s31 s.1 s.2) FU (v1, M)
def f_X11_rule_s84 (v2 : Int) (M : Mem) : Option ((Int × Mem) ⊕ (Int × Mem)) :=
  if 16 ≤ v2 then
    some (.inr (v2, M))
  else
    gd ((0 : Int) ≤ (wrap (16 + v2)) ∧ ((wrap (16 + v2)) : Int) < 32) <|
    gd ((0 : Int) ≤ v2 ∧ (v2 : Int) < 32) <|
    lt (mup M 97 v2.toNat (M 97 (wrap (16 + v2)).toNat)) fun M_2 =>
    gd ((0 : Int) ≤ (wrap (16 + v2)) ∧ ((wrap (16 + v2)) : Int) < 32) <|
    gd ((0 : Int) ≤ v2 ∧ (v2 : Int) < 32) <|
    lt (mup M_2 98 v2.toNat (M_2 98 (wrap (16 + v2)).toNat)) fun M_3 =>
    gd ((0 : Int) ≤ (wrap (16 + v2)) ∧ ((wrap (16 + v2)) : Int) < 32) <|
    gd ((0 : Int) ≤ v2 ∧ (v2 : Int) < 32) <|
    lt (mup M_3 99 v2.toNat (M_3 99 (wrap (16 + v2)).toNat)) fun M_4 =>
    lt (wrap (v2 + 1)) fun v2_2 =>
    some (.inl (v2_2, M_4))
def f_X11_rule_l84 (v2 : Int) (M : Mem) : Option (Int × Mem) := whl (fun s => f_X11_rule_s84 s.1 s.2) FU (v2, M)
def f_X11_rule_s143 (v2 : Int) (M : Mem) : Option ((Int × Mem) ⊕ (Int × Mem)) :=
  if 32 ≤ v2 then
    some (.inr (v2, M))
  else
    gd ((0 : Int) ≤ (wrap (32 + v2)) ∧ ((wrap (32 + v2)) : Int) < 64) <|
    gd ((0 : Int) ≤ v2 ∧ (v2 : Int) < 64) <|
    lt (mup M 100 v2.toNat (M 100 (wrap (32 + v2)).toNat)) fun M_2 =>
    lt (wrap (v2 + 1)) fun v2_2 =>
    some (.inl (v2_2, M_2))
def f_X11_rule_l143 (v2 : Int) (M : Mem) : Option (Int × Mem) := whl (fun s => f_X11_rule_s143 s.1 s.2) FU (v2, M)
def f_X11_rule_s172 (v2 : Int) (M : Mem) : Option ((Int × Mem) ⊕ (Int × Mem)) :=
  if 128 ≤ v2 then
    some (.inr (v2, M))
  else
    gd ((0 : Int) ≤ (wrap (128 + v2)) ∧ ((wrap (128 + v2)) : Int) < 256) <|
    gd ((0 : Int) ≤ v2 ∧ (v2 : Int) < 256) <|
    gd (isZ (M 101 (wrap (128 + v2)).toNat)) <|
    lt (mup M 101 v2.toNat (M 101 (wrap (128 + v2)).toNat)) fun M_2 =>
    gd ((0 : Int) ≤ (wrap (128 + v2)) ∧ ((wrap (128 + v2)) : Int) < 256) <|
    gd ((0 : Int) ≤ v2 ∧ (v2 : Int) < 256) <|
    lt (mup M_2 102 v2.toNat (M_2 102 (wrap (128 + v2)).toNat)) fun M_3 =>
    gd ((0 : Int) ≤ (wrap (128 + v2)) ∧ ((wrap (128 + v2)) : Int) < 256) <|
    gd ((0 : Int) ≤ v2 ∧ (v2 : Int) < 256) <|
    lt (mup M_3 103 v2.toNat (M_3 103 (wrap (128 + v2)).toNat)) fun M_4 =>
    gd ((0 : Int) ≤ (wrap (128 + v2)) ∧ ((wrap (128 + v2)) : Int) < 256) <|
    gd ((0 : Int) ≤ v2 ∧ (v2 : Int) < 256) <|
    lt (mup M_4 104 v2.toNat (M_4 104 (wrap (128 + v2)).toNat)) fun M_5 =>
    lt (wrap (v2 + 1)) fun v2_2 =>
    some (.inl (v2_2, M_5))
def f_X11_rule_l172 (v2 : Int) (M : Mem) : Option (Int × Mem) := whl (fun s => f_X11_rule_s172 s.1 s.2) FU (v2, M)
def f_X11_rule_j249 (M : Mem) : Option (Int × Mem) :=
  some ((M 80 21), M)
def f_X11_rule_j170 (M : Mem) : Option (Int × Mem) :=
  obn (f_X11_rule_l172 0 M) fun s => f_X11_rule_j249 s.2
def f_X11_rule_j141 (M : Mem) : Option (Int × Mem) :=
  obn (f_X11_rule_l143 0 M) fun s => f_X11_rule_j170 s.2
def f_X11_rule_j50 (M : Mem) : Option (Int × Mem) :=
  lt (mup M 80 32 0) fun M_2 =>
  if (M_2 80 33) ≤ 0 then
    lt (mup M_2 80 21 (M_2 80 22)) fun M_3 =>
    lt (mup M_3 80 43 0) fun M_4 =>
    obn (f_X11_rule_l84 0 M_4) fun s => f_X11_rule_j141 s.2
  else
    some ((wrap ((-1) - (M_2 80 33))), M_2)
def f_X11_rule (M : Mem) : Option (Int × Mem) :=
  lt (mup M 80 0 0) fun M_2 =>
  lt (mup M_2 80 33 0) fun M_3 =>
  lt (mup M_3 80 34 (-1)) fun M_4 =>
  lt (mup M_4 80 22 0) fun M_5 =>
  lt (mup M_5 80 36 0) fun M_6 =>
  obn (f_X11_next M_6) fun M_7 =>
  obn (f_X11_rule_l31 1 M_7) fun s => f_X11_rule_j50 s.2
def rm_X11_rule : Room := { frames := 12, cells := 0, slots := 0, locals := 332 }
def f_X11_place (M : Mem) : Option (Int × Mem) :=
  lt (mup M 80 0 0) fun M_2 =>
  some ((M_2 80 34), M_2)
def rm_X11_place : Room := { frames := 0, cells := 0, slots := 0, locals := 0 }
def f_X11_raw_s6 (v1 : Int) (v2 : Int) (v3 : Int) (v4 : Int) (M : Mem) (v5 : Int) (v6 : Int) : Option ((Int × Int) ⊕ (Int × Int)) :=
  if (M 80 15) ≤ v6 then
    some (.inr (v5, v6))
  else
    gd ((0 : Int) ≤ v6 ∧ (v6 : Int) < 300) <|
    if (M 92 v6.toNat) = v1 then
      gd ((0 : Int) ≤ v6 ∧ (v6 : Int) < 300) <|
      if (M 93 v6.toNat) = v2 then
        gd ((0 : Int) ≤ v6 ∧ (v6 : Int) < 300) <|
        if (M 94 v6.toNat) = v3 then
          gd ((0 : Int) ≤ v6 ∧ (v6 : Int) < 300) <|
          if v4 < (M 96 v6.toNat) then
            lt (wrap (v6 + 1)) fun v6_5 =>
            some (.inl (v5, v6_5))
          else
            gd ((0 : Int) ≤ v6 ∧ (v6 : Int) < 300) <|
            lt (M 95 v6.toNat) fun v5_2 =>
            lt (wrap (v6 + 1)) fun v6_6 =>
            some (.inl (v5_2, v6_6))
        else
          lt (wrap (v6 + 1)) fun v6_4 =>
          some (.inl (v5, v6_4))
      else
        lt (wrap (v6 + 1)) fun v6_3 =>
        some (.inl (v5, v6_3))
    else
      lt (wrap (v6 + 1)) fun v6_2 =>
      some (.inl (v5, v6_2))
def f_X11_raw_l6 (v1 : Int) (v2 : Int) (v3 : Int) (v4 : Int) (M : Mem) (v5 : Int) (v6 : Int) : Option (Int × Int) := whl (fun s => f_X11_raw_s6 v1 v2 v3 v4 M s.1 s.2) FU (v5, v6)
def f_X11_raw_j75 (v5 : Int) (M : Mem) : Option (Int) :=
  some v5
def f_X11_raw (p1 : Int) (p2 : Int) (p3 : Int) (p4 : Int) (M : Mem) : Option (Int) :=
  obn (f_X11_raw_l6 p1 p2 p3 p4 M (-1) 0) fun s => f_X11_raw_j75 s.1 M
def rm_X11_raw : Room := { frames := 0, cells := 0, slots := 0, locals := 0 }
def f_X11_scaledOf_j72k28 (v1 : Int) (v2 : Int) (v3 : Int) (v4 : Int) (v5 : Int) (v6 : Int) (v7 : Int) (v8 : Int) (v9 : Int) (s0 : Int) (s1 : Int) (M : Mem) : Option ((Int × Int × Int) ⊕ (Int × Int × Int)) :=
  lt (wrap (s1 + s0)) fun v7_2 =>
  if v9 = (-1) then
    lt (wrap (v6 + 0)) fun v6_2 =>
    lt (wrap (v8 + 1)) fun v8_2 =>
    some (.inl (v6_2, v7_2, v8_2))
  else
    if v5 ≤ v9 then
      lt (wrap (v6 + 0)) fun v6_3 =>
      lt (wrap (v8 + 1)) fun v8_3 =>
      some (.inl (v6_3, v7_2, v8_3))
    else
      lt (wrap (v6 + 1)) fun v6_4 =>
      lt (wrap (v8 + 1)) fun v8_4 =>
      some (.inl (v6_4, v7_2, v8_4))
def f_X11_scaledOf_j57k28 (v1 : Int) (v2 : Int) (v3 : Int) (v4 : Int) (v5 : Int) (v6 : Int) (v7 : Int) (v8 : Int) (s0 : Int) (M : Mem) : Option ((Int × Int × Int) ⊕ (Int × Int × Int)) :=
  if s0 = (-1) then
    f_X11_scaledOf_j72k28 v1 v2 v3 v4 v5 v6 v7 v8 s0 0 v7 M
  else
    f_X11_scaledOf_j72k28 v1 v2 v3 v4 v5 v6 v7 v8 s0 1 v7 M
def f_X11_scaledOf_s28 (v1 : Int) (v2 : Int) (v3 : Int) (v4 : Int) (v5 : Int) (M : Mem) (v6 : Int) (v7 : Int) (v8 : Int) : Option ((Int × Int × Int) ⊕ (Int × Int × Int)) :=
  if (M 80 1) ≤ v8 then
    some (.inr (v6, v7, v8))
  else
    if v8 = v2 then
      f_X11_scaledOf_j57k28 v1 v2 v3 v4 v5 v6 v7 v8 (-1) M
    else
      obn (f_X11_raw v1 v8 v3 v4 M) fun r =>
      f_X11_scaledOf_j57k28 v1 v2 v3 v4 v5 v6 v7 v8 r M
def f_X11_scaledOf_l28 (v1 : Int) (v2 : Int) (v3 : Int) (v4 : Int) (v5 : Int) (M : Mem) (v6 : Int) (v7 : Int) (v8 : Int) : Option (Int × Int × Int) := whl (fun s => f_X11_scaledOf_s28 v1 v2 v3 v4 v5 M s.1 s.2.1 s.2.2) FU (v6, v7, v8)
def f_X11_scaledOf_j104 (v6 : Int) (v7 : Int) (M : Mem) : Option (Int) :=
  if v7 = 0 then
    some 5
  else
    gd (¬ v7 = 0) <|
    some (jdiv (wrap (10 * v6)) v7)
def f_X11_scaledOf (p1 : Int) (p2 : Int) (p3 : Int) (p4 : Int) (M : Mem) : Option (Int) :=
  obn (f_X11_raw p1 p2 p3 p4 M) fun r =>
  if r = (-1) then
    some (-1)
  else
    obn (f_X11_scaledOf_l28 p1 p2 p3 p4 r M 0 0 0) fun s => f_X11_scaledOf_j104 s.1 s.2.1 M
def rm_X11_scaledOf : Room := { frames := 1, cells := 0, slots := 0, locals := 26 }
def f_X11_together_j40k9 (v1 : Int) (v2 : Int) (v3 : Int) (v4 : Int) (v5 : Int) (v6 : Int) (v7 : Int) (s0 : Int) (s1 : Int) (M : Mem) : Option ((Int × Int × Int) ⊕ (Int × Int × Int)) :=
  lt (wrap (s1 + s0)) fun v4_2 =>
  if v7 = (-1) then
    lt (wrap (v5 + 0)) fun v5_3 =>
    lt (wrap (v6 + 1)) fun v6_3 =>
    some (.inl (v4_2, v5_3, v6_3))
  else
    lt (wrap (v5 + 1)) fun v5_2 =>
    lt (wrap (v6 + 1)) fun v6_2 =>
    some (.inl (v4_2, v5_2, v6_2))
def f_X11_together_s9 (v1 : Int) (v2 : Int) (v3 : Int) (M : Mem) (v4 : Int) (v5 : Int) (v6 : Int) : Option ((Int × Int × Int) ⊕ (Int × Int × Int)) :=
  if 4 ≤ v6 then
    some (.inr (v4, v5, v6))
  else
    obn (f_X11_scaledOf v6 v1 v2 v3 M) fun r =>
    if r = (-1) then
      f_X11_together_j40k9 v1 v2 v3 v4 v5 v6 r 0 v4 M
    else
      f_X11_together_j40k9 v1 v2 v3 v4 v5 v6 r r v4 M
def f_X11_together_l9 (v1 : Int) (v2 : Int) (v3 : Int) (M : Mem) (v4 : Int) (v5 : Int) (v6 : Int) : Option (Int × Int × Int) := whl (fun s => f_X11_together_s9 v1 v2 v3 M s.1 s.2.1 s.2.2) FU (v4, v5, v6)
def f_X11_together_j65 (v4 : Int) (v5 : Int) (M : Mem) : Option (Int) :=
  if v5 = 0 then
    some (-1)
  else
    gd (¬ v5 = 0) <|
    some (jdiv v4 v5)
def f_X11_together (p1 : Int) (p2 : Int) (p3 : Int) (M : Mem) : Option (Int) :=
  obn (f_X11_together_l9 p1 p2 p3 M 0 0 0) fun s => f_X11_together_j65 s.1 s.2.1 M
def rm_X11_together : Room := { frames := 2, cells := 0, slots := 0, locals := 55 }
def f_X11_orFive (p0 : Int) (M : Mem) : Option (Int) :=
  if p0 = (-1) then
    some 5
  else
    some p0
def rm_X11_orFive : Room := { frames := 0, cells := 0, slots := 0, locals := 0 }
def f_X11_wishesOf_s4 (v1 : Int) (M : Mem) (v2 : Int) (v3 : Int) : Option ((Int × Int) ⊕ (Int × Int)) :=
  if 3 ≤ v3 then
    some (.inr (v2, v3))
  else
    gd ((0 : Int) ≤ (wrap ((wrap (3 * v1)) + v3)) ∧ ((wrap ((wrap (3 * v1)) + v3)) : Int) < 42) <|
    if (M 86 (wrap ((wrap (3 * v1)) + v3)).toNat) = (-1) then
      lt (wrap (v2 + 0)) fun v2_3 =>
      lt (wrap (v3 + 1)) fun v3_3 =>
      some (.inl (v2_3, v3_3))
    else
      lt (wrap (v2 + 1)) fun v2_2 =>
      lt (wrap (v3 + 1)) fun v3_2 =>
      some (.inl (v2_2, v3_2))
def f_X11_wishesOf_l4 (v1 : Int) (M : Mem) (v2 : Int) (v3 : Int) : Option (Int × Int) := whl (fun s => f_X11_wishesOf_s4 v1 M s.1 s.2) FU (v2, v3)
def f_X11_wishesOf_j37 (v2 : Int) (M : Mem) : Option (Int) :=
  some v2
def f_X11_wishesOf (p1 : Int) (M : Mem) : Option (Int) :=
  obn (f_X11_wishesOf_l4 p1 M 0 0) fun s => f_X11_wishesOf_j37 s.1 M
def rm_X11_wishesOf : Room := { frames := 0, cells := 0, slots := 0, locals := 0 }
def f_X11_namedBy_s4 (v1 : Int) (M : Mem) (v2 : Int) (v3 : Int) : Option ((Int × Int) ⊕ (Int × Int)) :=
  if (wrap (3 * (M 80 1))) ≤ v3 then
    some (.inr (v2, v3))
  else
    gd ((0 : Int) ≤ v3 ∧ (v3 : Int) < 42) <|
    if (M 86 v3.toNat) = v1 then
      lt (wrap (v2 + 1)) fun v2_3 =>
      lt (wrap (v3 + 1)) fun v3_3 =>
      some (.inl (v2_3, v3_3))
    else
      lt (wrap (v2 + 0)) fun v2_2 =>
      lt (wrap (v3 + 1)) fun v3_2 =>
      some (.inl (v2_2, v3_2))
def f_X11_namedBy_l4 (v1 : Int) (M : Mem) (v2 : Int) (v3 : Int) : Option (Int × Int) := whl (fun s => f_X11_namedBy_s4 v1 M s.1 s.2) FU (v2, v3)
def f_X11_namedBy_j38 (v2 : Int) (M : Mem) : Option (Int) :=
  some v2
def f_X11_namedBy (p1 : Int) (M : Mem) : Option (Int) :=
  obn (f_X11_namedBy_l4 p1 M 0 0) fun s => f_X11_namedBy_j38 s.1 M
def rm_X11_namedBy : Room := { frames := 0, cells := 0, slots := 0, locals := 0 }
def f_X11_allHold_j172k2 (v1 : Int) (v2 : Int) (v3 : Int) (v4 : Int) (s0 : Int) (M : Mem) : Option ((Int) ⊕ ((Int) ⊕ (Int))) :=
  gd ((0 : Int) ≤ v4 ∧ (v4 : Int) < 256) <|
  if s0 = (M 101 v4.toNat) then
    some (.inr (.inr 0))
  else
    lt (wrap (v3 + 1)) fun v3_2 =>
    some (.inl v3_2)
def f_X11_allHold_j52k2 (v1 : Int) (v2 : Int) (v3 : Int) (v4 : Int) (s0 : Int) (M : Mem) : Option ((Int) ⊕ ((Int) ⊕ (Int))) :=
  gd ((0 : Int) ≤ v4 ∧ (v4 : Int) < 256) <|
  if (M 102 v4.toNat) = 7 then
    gd ((0 : Int) ≤ v2 ∧ (v2 : Int) < 14) <|
    gd ((0 : Int) ≤ v4 ∧ (v4 : Int) < 256) <|
    if (band (bshr (M 83 v2.toNat) (M 104 v4.toNat)) 1) = 1 then
      f_X11_allHold_j172k2 v1 v2 v3 v4 1 M
    else
      f_X11_allHold_j172k2 v1 v2 v3 v4 0 M
  else
    gd ((0 : Int) ≤ v4 ∧ (v4 : Int) < 256) <|
    if (M 103 v4.toNat) = 0 then
      gd ((0 : Int) ≤ v4 ∧ (v4 : Int) < 256) <|
      if (M 104 v4.toNat) ≤ s0 then
        f_X11_allHold_j172k2 v1 v2 v3 v4 0 M
      else
        f_X11_allHold_j172k2 v1 v2 v3 v4 1 M
    else
      gd ((0 : Int) ≤ v4 ∧ (v4 : Int) < 256) <|
      if (M 103 v4.toNat) = 1 then
        gd ((0 : Int) ≤ v4 ∧ (v4 : Int) < 256) <|
        if s0 = (M 104 v4.toNat) then
          f_X11_allHold_j172k2 v1 v2 v3 v4 1 M
        else
          f_X11_allHold_j172k2 v1 v2 v3 v4 0 M
      else
        gd ((0 : Int) ≤ v4 ∧ (v4 : Int) < 256) <|
        if s0 ≤ (M 104 v4.toNat) then
          f_X11_allHold_j172k2 v1 v2 v3 v4 0 M
        else
          f_X11_allHold_j172k2 v1 v2 v3 v4 1 M
def f_X11_allHold_s2 (v1 : Int) (v2 : Int) (M : Mem) (v3 : Int) : Option ((Int) ⊕ ((Int) ⊕ (Int))) :=
  gd ((0 : Int) ≤ v1 ∧ (v1 : Int) < 64) <|
  if (M 100 v1.toNat) ≤ v3 then
    some (.inr (.inl v3))
  else
    lt (wrap ((wrap (4 * v1)) + v3)) fun v4 =>
    gd ((0 : Int) ≤ v4 ∧ (v4 : Int) < 256) <|
    if (M 102 v4.toNat) = 7 then
      f_X11_allHold_j52k2 v1 v2 v3 v4 0 M
    else
      gd ((0 : Int) ≤ v4 ∧ (v4 : Int) < 256) <|
      gd ((0 : Int) ≤ (wrap ((wrap (7 * v2)) + (M 102 v4.toNat))) ∧ ((wrap ((wrap (7 * v2)) + (M 102 v4.toNat))) : Int) < 98) <|
      f_X11_allHold_j52k2 v1 v2 v3 v4 (M 106 (wrap ((wrap (7 * v2)) + (M 102 v4.toNat))).toNat) M
def f_X11_allHold_l2 (v1 : Int) (v2 : Int) (M : Mem) (v3 : Int) : Option ((Int) ⊕ (Int)) := whl (fun s => f_X11_allHold_s2 v1 v2 M s) FU v3
def f_X11_allHold_j194 (M : Mem) : Option (Int) :=
  some 1
def f_X11_allHold (p1 : Int) (p2 : Int) (M : Mem) : Option (Int) :=
  lpr (f_X11_allHold_l2 p1 p2 M 0) (fun s => f_X11_allHold_j194 M) (fun q => some q)
def rm_X11_allHold : Room := { frames := 0, cells := 0, slots := 0, locals := 0 }
def f_X11_learns_s2 (v1 : Int) (v2 : Int) (M : Mem) : Option ((Int × Mem) ⊕ (Int × Mem)) :=
  if (M 80 1) ≤ v2 then
    some (.inr (v2, M))
  else
    gd ((0 : Int) ≤ v2 ∧ (v2 : Int) < 14) <|
    gd ((0 : Int) ≤ (wrap (7 * v2)) ∧ ((wrap (7 * v2)) : Int) < 98) <|
    lt (mup M 106 (wrap (7 * v2)).toNat (M 81 v2.toNat)) fun M_2 =>
    gd ((0 : Int) ≤ v2 ∧ (v2 : Int) < 14) <|
    gd ((0 : Int) ≤ (wrap ((wrap (7 * v2)) + 1)) ∧ ((wrap ((wrap (7 * v2)) + 1)) : Int) < 98) <|
    lt (mup M_2 106 (wrap ((wrap (7 * v2)) + 1)).toNat (M_2 82 v2.toNat)) fun M_3 =>
    obn (f_X11_together v2 0 v1 M_3) fun r =>
    obn (f_X11_orFive r M_3) fun r_2 =>
    gd ((0 : Int) ≤ (wrap ((wrap (7 * v2)) + 2)) ∧ ((wrap ((wrap (7 * v2)) + 2)) : Int) < 98) <|
    lt (mup M_3 106 (wrap ((wrap (7 * v2)) + 2)).toNat r_2) fun M_4 =>
    obn (f_X11_together v2 1 v1 M_4) fun r_3 =>
    obn (f_X11_orFive r_3 M_4) fun r_4 =>
    gd ((0 : Int) ≤ (wrap ((wrap (7 * v2)) + 3)) ∧ ((wrap ((wrap (7 * v2)) + 3)) : Int) < 98) <|
    lt (mup M_4 106 (wrap ((wrap (7 * v2)) + 3)).toNat r_4) fun M_5 =>
    gd ((0 : Int) ≤ v2 ∧ (v2 : Int) < 14) <|
    gd ((0 : Int) ≤ (wrap ((wrap (7 * v2)) + 4)) ∧ ((wrap ((wrap (7 * v2)) + 4)) : Int) < 98) <|
    lt (mup M_5 106 (wrap ((wrap (7 * v2)) + 4)).toNat (M_5 85 v2.toNat)) fun M_6 =>
    obn (f_X11_wishesOf v2 M_6) fun r_5 =>
    gd ((0 : Int) ≤ (wrap ((wrap (7 * v2)) + 5)) ∧ ((wrap ((wrap (7 * v2)) + 5)) : Int) < 98) <|
    lt (mup M_6 106 (wrap ((wrap (7 * v2)) + 5)).toNat r_5) fun M_7 =>
    obn (f_X11_namedBy v2 M_7) fun r_6 =>
    gd ((0 : Int) ≤ (wrap ((wrap (7 * v2)) + 6)) ∧ ((wrap ((wrap (7 * v2)) + 6)) : Int) < 98) <|
    lt (mup M_7 106 (wrap ((wrap (7 * v2)) + 6)).toNat r_6) fun M_8 =>
    lt (wrap (v2 + 1)) fun v2_2 =>
    some (.inl (v2_2, M_8))
def f_X11_learns_l2 (v1 : Int) (v2 : Int) (M : Mem) : Option (Int × Mem) := whl (fun s => f_X11_learns_s2 v1 s.1 s.2) FU (v2, M)
def f_X11_learns_s154 (v2 : Int) (v3 : Int) (M : Mem) : Option ((Int × Mem) ⊕ (Int × Mem)) :=
  if (M 80 1) ≤ v3 then
    some (.inr (v3, M))
  else
    gd ((0 : Int) ≤ v2 ∧ (v2 : Int) < 64) <|
    if (M 100 v2.toNat) = (-1) then
      gd ((0 : Int) ≤ (wrap ((wrap (14 * v2)) + v3)) ∧ ((wrap ((wrap (14 * v2)) + v3)) : Int) < 448) <|
      lt (mup M 107 (wrap ((wrap (14 * v2)) + v3)).toNat 0) fun M_2 =>
      lt (wrap (v3 + 1)) fun v3_2 =>
      some (.inl (v3_2, M_2))
    else
      obn (f_X11_allHold v2 v3 M) fun r =>
      if r = 0 then
        gd ((0 : Int) ≤ (wrap ((wrap (14 * v2)) + v3)) ∧ ((wrap ((wrap (14 * v2)) + v3)) : Int) < 448) <|
        lt (mup M 107 (wrap ((wrap (14 * v2)) + v3)).toNat 0) fun M_3 =>
        lt (wrap (v3 + 1)) fun v3_3 =>
        some (.inl (v3_3, M_3))
      else
        gd ((0 : Int) ≤ (wrap ((wrap (14 * v2)) + v3)) ∧ ((wrap ((wrap (14 * v2)) + v3)) : Int) < 448) <|
        lt (mup M 107 (wrap ((wrap (14 * v2)) + v3)).toNat 1) fun M_4 =>
        lt (wrap (v3 + 1)) fun v3_4 =>
        some (.inl (v3_4, M_4))
def f_X11_learns_l154 (v2 : Int) (v3 : Int) (M : Mem) : Option (Int × Mem) := whl (fun s => f_X11_learns_s154 v2 s.1 s.2) FU (v3, M)
def f_X11_learns_j203k142 (v2 : Int) (M : Mem) : Option ((Int × Mem) ⊕ (Int × Mem)) :=
  lt (wrap (v2 + 1)) fun v2_2 =>
  some (.inl (v2_2, M))
def f_X11_learns_s142 (v2 : Int) (M : Mem) : Option ((Int × Mem) ⊕ (Int × Mem)) :=
  if (wrap (2 * (M 80 21))) ≤ v2 then
    some (.inr (v2, M))
  else
    obn (f_X11_learns_l154 v2 0 M) fun s => f_X11_learns_j203k142 v2 s.2
def f_X11_learns_l142 (v2 : Int) (M : Mem) : Option (Int × Mem) := whl (fun s => f_X11_learns_s142 s.1 s.2) FU (v2, M)
def f_X11_learns_j209 (M : Mem) : Option (Mem) :=
  some M
def f_X11_learns_j140 (M : Mem) : Option (Mem) :=
  obn (f_X11_learns_l142 0 M) fun s => f_X11_learns_j209 s.2
def f_X11_learns (p1 : Int) (M : Mem) : Option (Mem) :=
  obn (f_X11_learns_l2 p1 0 M) fun s => f_X11_learns_j140 s.2
def rm_X11_learns : Room := { frames := 3, cells := 0, slots := 0, locals := 82 }
def f_X11_holds (p1 : Int) (p2 : Int) (p3 : Int) (p4 : Int) (M : Mem) : Option (Int × Mem) :=
  lt (mup M 80 0 0) fun M_2 =>
  obn (f_X11_within p1 0 (wrap ((M_2 80 21) - 1)) M_2) fun r =>
  if r = 0 then
    some ((-1), M_2)
  else
    obn (f_X11_within p2 0 1 M_2) fun r_2 =>
    if r_2 = 0 then
      some ((-1), M_2)
    else
      obn (f_X11_isChild p3 M_2) fun r_3 =>
      if r_3 = 0 then
        some ((-1), M_2)
      else
        obn (f_X11_within p4 0 (M_2 80 14) M_2) fun r_4 =>
        if r_4 = 0 then
          some ((-1), M_2)
        else
          gd ((0 : Int) ≤ (wrap ((wrap (2 * p1)) + p2)) ∧ ((wrap ((wrap (2 * p1)) + p2)) : Int) < 64) <|
          if (M_2 100 (wrap ((wrap (2 * p1)) + p2)).toNat) = (-1) then
            some ((-1), M_2)
          else
            obn (f_X11_learns p4 M_2) fun M_3 =>
            gd ((0 : Int) ≤ (wrap ((wrap (14 * (wrap ((wrap (2 * p1)) + p2)))) + p3)) ∧ ((wrap ((wrap (14 * (wrap ((wrap (2 * p1)) + p2)))) + p3)) : Int) < 448) <|
            if (M_3 107 (wrap ((wrap (14 * (wrap ((wrap (2 * p1)) + p2)))) + p3)).toNat) = 0 then
              some (0, M_3)
            else
              some (1, M_3)
def rm_X11_holds : Room := { frames := 4, cells := 0, slots := 0, locals := 105 }
def f_X11_day_s32 (v1 : Int) (v2 : Int) (M : Mem) : Option ((Int × Mem) ⊕ (Int × Mem)) :=
  if (M 80 1) ≤ v2 then
    some (.inr (v2, M))
  else
    if v1 ≤ 0 then
      some (.inr (v2, M))
    else
      gd ((0 : Int) ≤ v2 ∧ (v2 : Int) < 14) <|
      gd ((0 : Int) ≤ v2 ∧ (v2 : Int) < 14) <|
      if (M 110 v2.toNat) = (M 119 v2.toNat) then
        lt (wrap (v2 + 1)) fun v2_2 =>
        some (.inl (v2_2, M))
      else
        if (M 80 56) = 400 then
          lt (wrap (v2 + 1)) fun v2_4 =>
          some (.inl (v2_4, M))
        else
          gd ((0 : Int) ≤ (M 80 56) ∧ ((M 80 56) : Int) < 400) <|
          lt (mup M 116 (M 80 56).toNat v2) fun M_2 =>
          gd ((0 : Int) ≤ (M_2 80 56) ∧ ((M_2 80 56) : Int) < 400) <|
          lt (mup M_2 117 (M_2 80 56).toNat (M_2 80 14)) fun M_3 =>
          gd ((0 : Int) ≤ v2 ∧ (v2 : Int) < 14) <|
          gd ((0 : Int) ≤ (M_3 80 56) ∧ ((M_3 80 56) : Int) < 400) <|
          lt (mup M_3 118 (M_3 80 56).toNat (M_3 110 v2.toNat)) fun M_4 =>
          gd ((0 : Int) ≤ v2 ∧ (v2 : Int) < 14) <|
          gd ((0 : Int) ≤ v2 ∧ (v2 : Int) < 14) <|
          lt (mup M_4 119 v2.toNat (M_4 110 v2.toNat)) fun M_5 =>
          lt (mup M_5 80 56 (wrap ((M_5 80 56) + 1))) fun M_6 =>
          lt (wrap (v2 + 1)) fun v2_3 =>
          some (.inl (v2_3, M_6))
def f_X11_day_l32 (v1 : Int) (v2 : Int) (M : Mem) : Option (Int × Mem) := whl (fun s => f_X11_day_s32 v1 s.1 s.2) FU (v2, M)
def f_X11_day_j138 (v1 : Int) (M : Mem) : Option (Int × Mem) :=
  lt (mup M 80 14 (wrap ((M 80 14) + v1))) fun M_2 =>
  some ((M_2 80 14), M_2)
def f_X11_day (p1 : Int) (M : Mem) : Option (Int × Mem) :=
  lt (mup M 80 0 0) fun M_2 =>
  obn (f_X11_within p1 0 1000 M_2) fun r =>
  if r = 0 then
    some ((-1), M_2)
  else
    if (wrap ((M_2 80 14) + p1)) ≤ 100000 then
      obn (f_X11_day_l32 p1 0 M_2) fun s => f_X11_day_j138 p1 s.2
    else
      some ((-1), M_2)
def rm_X11_day : Room := { frames := 1, cells := 0, slots := 0, locals := 22 }
def f_X11_cameBy_s4 (v1 : Int) (M : Mem) (v2 : Int) (v3 : Int) : Option ((Int × Int) ⊕ (Int × Int)) :=
  if (M 80 1) ≤ v3 then
    some (.inr (v2, v3))
  else
    gd ((0 : Int) ≤ v3 ∧ (v3 : Int) < 14) <|
    if v1 < (M 84 v3.toNat) then
      lt (wrap (v2 + 0)) fun v2_2 =>
      lt (wrap (v3 + 1)) fun v3_2 =>
      some (.inl (v2_2, v3_2))
    else
      lt (wrap (v2 + 1)) fun v2_3 =>
      lt (wrap (v3 + 1)) fun v3_3 =>
      some (.inl (v2_3, v3_3))
def f_X11_cameBy_l4 (v1 : Int) (M : Mem) (v2 : Int) (v3 : Int) : Option (Int × Int) := whl (fun s => f_X11_cameBy_s4 v1 M s.1 s.2) FU (v2, v3)
def f_X11_cameBy_j36 (v2 : Int) (M : Mem) : Option (Int) :=
  some v2
def f_X11_cameBy (p1 : Int) (M : Mem) : Option (Int) :=
  obn (f_X11_cameBy_l4 p1 M 0 0) fun s => f_X11_cameBy_j36 s.1 M
def rm_X11_cameBy : Room := { frames := 0, cells := 0, slots := 0, locals := 0 }
def f_X11_inClass_s4 (v1 : Int) (M : Mem) (v2 : Int) (v3 : Int) : Option ((Int × Int) ⊕ (Int × Int)) :=
  if (M 80 1) ≤ v3 then
    some (.inr (v2, v3))
  else
    gd ((0 : Int) ≤ v3 ∧ (v3 : Int) < 14) <|
    if (M 108 v3.toNat) = v1 then
      lt (wrap (v2 + 1)) fun v2_3 =>
      lt (wrap (v3 + 1)) fun v3_3 =>
      some (.inl (v2_3, v3_3))
    else
      lt (wrap (v2 + 0)) fun v2_2 =>
      lt (wrap (v3 + 1)) fun v3_2 =>
      some (.inl (v2_2, v3_2))
def f_X11_inClass_l4 (v1 : Int) (M : Mem) (v2 : Int) (v3 : Int) : Option (Int × Int) := whl (fun s => f_X11_inClass_s4 v1 M s.1 s.2) FU (v2, v3)
def f_X11_inClass_j36 (v2 : Int) (M : Mem) : Option (Int) :=
  some v2
def f_X11_inClass (p1 : Int) (M : Mem) : Option (Int) :=
  obn (f_X11_inClass_l4 p1 M 0 0) fun s => f_X11_inClass_j36 s.1 M
def rm_X11_inClass : Room := { frames := 0, cells := 0, slots := 0, locals := 0 }
def f_X11_holdIn_s5 (v1 : Int) (v2 : Int) (M : Mem) (v3 : Int) (v4 : Int) : Option ((Int × Int) ⊕ (Int × Int)) :=
  if (M 80 1) ≤ v4 then
    some (.inr (v3, v4))
  else
    gd ((0 : Int) ≤ v4 ∧ (v4 : Int) < 14) <|
    if (M 108 v4.toNat) = v2 then
      gd ((0 : Int) ≤ (wrap ((wrap (14 * v1)) + v4)) ∧ ((wrap ((wrap (14 * v1)) + v4)) : Int) < 448) <|
      if (M 107 (wrap ((wrap (14 * v1)) + v4)).toNat) = 0 then
        lt (wrap (v3 + 0)) fun v3_3 =>
        lt (wrap (v4 + 1)) fun v4_3 =>
        some (.inl (v3_3, v4_3))
      else
        lt (wrap (v3 + 1)) fun v3_4 =>
        lt (wrap (v4 + 1)) fun v4_4 =>
        some (.inl (v3_4, v4_4))
    else
      lt (wrap (v3 + 0)) fun v3_2 =>
      lt (wrap (v4 + 1)) fun v4_2 =>
      some (.inl (v3_2, v4_2))
def f_X11_holdIn_l5 (v1 : Int) (v2 : Int) (M : Mem) (v3 : Int) (v4 : Int) : Option (Int × Int) := whl (fun s => f_X11_holdIn_s5 v1 v2 M s.1 s.2) FU (v3, v4)
def f_X11_holdIn_j54 (v3 : Int) (M : Mem) : Option (Int) :=
  some v3
def f_X11_holdIn (p1 : Int) (p2 : Int) (M : Mem) : Option (Int) :=
  obn (f_X11_holdIn_l5 p1 p2 M 0 0) fun s => f_X11_holdIn_j54 s.1 M
def rm_X11_holdIn : Room := { frames := 0, cells := 0, slots := 0, locals := 0 }
def f_X11_isMet_s95 (v1 : Int) (v2 : Int) (M : Mem) (v3 : Int) : Option ((Int) ⊕ ((Int) ⊕ (Int))) :=
  if (M 80 1) ≤ v3 then
    some (.inr (.inl v3))
  else
    if v3 = v2 then
      lt (wrap (v3 + 1)) fun v3_2 =>
      some (.inl v3_2)
    else
      gd ((0 : Int) ≤ v3 ∧ (v3 : Int) < 14) <|
      gd ((0 : Int) ≤ v2 ∧ (v2 : Int) < 14) <|
      if (M 108 v3.toNat) = (M 108 v2.toNat) then
        gd ((0 : Int) ≤ (wrap ((wrap (14 * (wrap ((wrap (2 * v1)) + 1)))) + v3)) ∧ ((wrap ((wrap (14 * (wrap ((wrap (2 * v1)) + 1)))) + v3)) : Int) < 448) <|
        if (M 107 (wrap ((wrap (14 * (wrap ((wrap (2 * v1)) + 1)))) + v3)).toNat) = 0 then
          lt (wrap (v3 + 1)) fun v3_4 =>
          some (.inl v3_4)
        else
          some (.inr (.inr 0))
      else
        lt (wrap (v3 + 1)) fun v3_3 =>
        some (.inl v3_3)
def f_X11_isMet_l95 (v1 : Int) (v2 : Int) (M : Mem) (v3 : Int) : Option ((Int) ⊕ (Int)) := whl (fun s => f_X11_isMet_s95 v1 v2 M s) FU v3
def f_X11_isMet_j149k48 (v1 : Int) (v2 : Int) (M : Mem) : Option ((Int) ⊕ ((Int) ⊕ (Int))) :=
  lt (wrap (v2 + 1)) fun v2_2 =>
  some (.inl v2_2)
def f_X11_isMet_s48 (v1 : Int) (M : Mem) (v2 : Int) : Option ((Int) ⊕ ((Int) ⊕ (Int))) :=
  if (M 80 1) ≤ v2 then
    some (.inr (.inl v2))
  else
    gd ((0 : Int) ≤ v1 ∧ (v1 : Int) < 32) <|
    if (M 97 v1.toNat) = 5 then
      gd ((0 : Int) ≤ v2 ∧ (v2 : Int) < 14) <|
      if (M 108 v2.toNat) = (-1) then
        lt (wrap (v2 + 1)) fun v2_2 =>
        some (.inl v2_2)
      else
        gd ((0 : Int) ≤ (wrap ((wrap (28 * v1)) + v2)) ∧ ((wrap ((wrap (28 * v1)) + v2)) : Int) < 448) <|
        if (M 107 (wrap ((wrap (28 * v1)) + v2)).toNat) = 0 then
          lt (wrap (v2 + 1)) fun v2_3 =>
          some (.inl v2_3)
        else
          lpr (f_X11_isMet_l95 v1 v2 M 0) (fun s => f_X11_isMet_j149k48 v1 v2 M) (fun q => some (.inr (.inr q)))
    else
      some (.inr (.inl v2))
def f_X11_isMet_l48 (v1 : Int) (M : Mem) (v2 : Int) : Option ((Int) ⊕ (Int)) := whl (fun s => f_X11_isMet_s48 v1 M s) FU v2
def f_X11_isMet_j155 (M : Mem) : Option (Int) :=
  some 1
def f_X11_isMet_s13 (v1 : Int) (M : Mem) (v2 : Int) : Option ((Int) ⊕ ((Int) ⊕ (Int))) :=
  if (M 80 12) ≤ v2 then
    some (.inr (.inl v2))
  else
    obn (f_X11_holdIn (wrap (2 * v1)) v2 M) fun r =>
    gd ((0 : Int) ≤ v1 ∧ (v1 : Int) < 32) <|
    if r ≤ (M 98 v1.toNat) then
      lt (wrap (v2 + 1)) fun v2_2 =>
      some (.inl v2_2)
    else
      some (.inr (.inr 0))
def f_X11_isMet_l13 (v1 : Int) (M : Mem) (v2 : Int) : Option ((Int) ⊕ (Int)) := whl (fun s => f_X11_isMet_s13 v1 M s) FU v2
def f_X11_isMet_j46 (v1 : Int) (M : Mem) : Option (Int) :=
  lpr (f_X11_isMet_l48 v1 M 0) (fun s => f_X11_isMet_j155 M) (fun q => some q)
def f_X11_isMet (p1 : Int) (M : Mem) : Option (Int) :=
  gd ((0 : Int) ≤ p1 ∧ (p1 : Int) < 32) <|
  if (M 97 p1.toNat) = 6 then
    lpr (f_X11_isMet_l13 p1 M 0) (fun s => f_X11_isMet_j46 p1 M) (fun q => some q)
  else
    lpr (f_X11_isMet_l48 p1 M 0) (fun s => f_X11_isMet_j155 M) (fun q => some q)
def rm_X11_isMet : Room := { frames := 1, cells := 0, slots := 0, locals := 24 }
def f_X11_isSound_s4 (M : Mem) (v1 : Int) (v2 : Int) : Option ((Int × Int) ⊕ (Int × Int)) :=
  if (M 80 21) ≤ v2 then
    some (.inr (v1, v2))
  else
    gd ((0 : Int) ≤ v2 ∧ (v2 : Int) < 32) <|
    if (M 97 v2.toNat) = 8 then
      gd ((0 : Int) ≤ v2 ∧ (v2 : Int) < 32) <|
      lt (M 98 v2.toNat) fun v1_2 =>
      lt (wrap (v2 + 1)) fun v2_3 =>
      some (.inl (v1_2, v2_3))
    else
      lt (wrap (v2 + 1)) fun v2_2 =>
      some (.inl (v1, v2_2))
def f_X11_isSound_l4 (M : Mem) (v1 : Int) (v2 : Int) : Option (Int × Int) := whl (fun s => f_X11_isSound_s4 M s.1 s.2) FU (v1, v2)
def f_X11_isSound_s42 (v1 : Int) (M : Mem) (v2 : Int) : Option ((Int) ⊕ ((Int) ⊕ (Int))) :=
  if (M 80 12) ≤ v2 then
    some (.inr (.inl v2))
  else
    obn (f_X11_inClass v2 M) fun r =>
    gd ((0 : Int) ≤ v2 ∧ (v2 : Int) < 3) <|
    if r ≤ (M 91 v2.toNat) then
      lt (wrap (v2 + 1)) fun v2_2 =>
      some (.inl v2_2)
    else
      some (.inr (.inr 0))
def f_X11_isSound_l42 (v1 : Int) (M : Mem) (v2 : Int) : Option ((Int) ⊕ (Int)) := whl (fun s => f_X11_isSound_s42 v1 M s) FU v2
def f_X11_isSound_j155k117 (v1 : Int) (v2 : Int) (v3 : Int) (s0 : Int) (M : Mem) : Option ((Int) ⊕ ((Int) ⊕ (Int))) :=
  if s0 = 0 then
    gd ((0 : Int) ≤ (wrap ((wrap (14 * v2)) + v3)) ∧ ((wrap ((wrap (14 * v2)) + v3)) : Int) < 196) <|
    if (M 89 (wrap ((wrap (14 * v2)) + v3)).toNat) = 0 then
      lt (wrap (v3 + 1)) fun v3_2 =>
      some (.inl v3_2)
    else
      if v1 = 1 then
        if s0 = 0 then
          if v1 = 2 then
            if s0 = 0 then
              some (.inr (.inr 0))
            else
              lt (wrap (v3 + 1)) fun v3_6 =>
              some (.inl v3_6)
          else
            lt (wrap (v3 + 1)) fun v3_5 =>
            some (.inl v3_5)
        else
          some (.inr (.inr 0))
      else
        if v1 = 2 then
          if s0 = 0 then
            some (.inr (.inr 0))
          else
            lt (wrap (v3 + 1)) fun v3_4 =>
            some (.inl v3_4)
        else
          lt (wrap (v3 + 1)) fun v3_3 =>
          some (.inl v3_3)
  else
    gd ((0 : Int) ≤ (wrap ((wrap (14 * v2)) + v3)) ∧ ((wrap ((wrap (14 * v2)) + v3)) : Int) < 196) <|
    if (M 88 (wrap ((wrap (14 * v2)) + v3)).toNat) = 0 then
      gd ((0 : Int) ≤ (wrap ((wrap (14 * v2)) + v3)) ∧ ((wrap ((wrap (14 * v2)) + v3)) : Int) < 196) <|
      if (M 89 (wrap ((wrap (14 * v2)) + v3)).toNat) = 0 then
        lt (wrap (v3 + 1)) fun v3_7 =>
        some (.inl v3_7)
      else
        if v1 = 1 then
          if s0 = 0 then
            if v1 = 2 then
              if s0 = 0 then
                some (.inr (.inr 0))
              else
                lt (wrap (v3 + 1)) fun v3_11 =>
                some (.inl v3_11)
            else
              lt (wrap (v3 + 1)) fun v3_10 =>
              some (.inl v3_10)
          else
            some (.inr (.inr 0))
        else
          if v1 = 2 then
            if s0 = 0 then
              some (.inr (.inr 0))
            else
              lt (wrap (v3 + 1)) fun v3_9 =>
              some (.inl v3_9)
          else
            lt (wrap (v3 + 1)) fun v3_8 =>
            some (.inl v3_8)
    else
      some (.inr (.inr 0))
def f_X11_isSound_s117 (v1 : Int) (v2 : Int) (M : Mem) (v3 : Int) : Option ((Int) ⊕ ((Int) ⊕ (Int))) :=
  if v2 ≤ v3 then
    some (.inr (.inl v3))
  else
    gd ((0 : Int) ≤ v3 ∧ (v3 : Int) < 14) <|
    if (M 108 v3.toNat) = (-1) then
      lt (wrap (v3 + 1)) fun v3_2 =>
      some (.inl v3_2)
    else
      gd ((0 : Int) ≤ v2 ∧ (v2 : Int) < 14) <|
      gd ((0 : Int) ≤ v3 ∧ (v3 : Int) < 14) <|
      if (M 108 v2.toNat) = (M 108 v3.toNat) then
        f_X11_isSound_j155k117 v1 v2 v3 1 M
      else
        f_X11_isSound_j155k117 v1 v2 v3 0 M
def f_X11_isSound_l117 (v1 : Int) (v2 : Int) (M : Mem) (v3 : Int) : Option ((Int) ⊕ (Int)) := whl (fun s => f_X11_isSound_s117 v1 v2 M s) FU v3
def f_X11_isSound_j218k74 (v1 : Int) (v2 : Int) (M : Mem) : Option ((Int) ⊕ ((Int) ⊕ (Int))) :=
  lt (wrap (v2 + 1)) fun v2_2 =>
  some (.inl v2_2)
def f_X11_isSound_s74 (v1 : Int) (M : Mem) (v2 : Int) : Option ((Int) ⊕ ((Int) ⊕ (Int))) :=
  if (M 80 1) ≤ v2 then
    some (.inr (.inl v2))
  else
    gd ((0 : Int) ≤ v2 ∧ (v2 : Int) < 14) <|
    if (M 108 v2.toNat) = (-1) then
      lt (wrap (v2 + 1)) fun v2_2 =>
      some (.inl v2_2)
    else
      gd ((0 : Int) ≤ v2 ∧ (v2 : Int) < 14) <|
      gd ((0 : Int) ≤ (wrap ((wrap (3 * v2)) + (M 108 v2.toNat))) ∧ ((wrap ((wrap (3 * v2)) + (M 108 v2.toNat))) : Int) < 42) <|
      if (M 90 (wrap ((wrap (3 * v2)) + (M 108 v2.toNat))).toNat) = 0 then
        lpr (f_X11_isSound_l117 v1 v2 M 0) (fun s => f_X11_isSound_j218k74 v1 v2 M) (fun q => some (.inr (.inr q)))
      else
        some (.inr (.inr 0))
def f_X11_isSound_l74 (v1 : Int) (M : Mem) (v2 : Int) : Option ((Int) ⊕ (Int)) := whl (fun s => f_X11_isSound_s74 v1 M s) FU v2
def f_X11_isSound_s226 (M : Mem) (v2 : Int) : Option ((Int) ⊕ ((Int) ⊕ (Int))) :=
  if (M 80 21) ≤ v2 then
    some (.inr (.inl v2))
  else
    obn (f_X11_isMet v2 M) fun r =>
    if r = 0 then
      some (.inr (.inr 0))
    else
      lt (wrap (v2 + 1)) fun v2_2 =>
      some (.inl v2_2)
def f_X11_isSound_l226 (M : Mem) (v2 : Int) : Option ((Int) ⊕ (Int)) := whl (fun s => f_X11_isSound_s226 M s) FU v2
def f_X11_isSound_j250 (M : Mem) : Option (Int) :=
  some 1
def f_X11_isSound_j224 (M : Mem) : Option (Int) :=
  lpr (f_X11_isSound_l226 M 0) (fun s => f_X11_isSound_j250 M) (fun q => some q)
def f_X11_isSound_j72 (v1 : Int) (M : Mem) : Option (Int) :=
  lpr (f_X11_isSound_l74 v1 M 0) (fun s => f_X11_isSound_j224 M) (fun q => some q)
def f_X11_isSound_j40 (v1 : Int) (M : Mem) : Option (Int) :=
  lpr (f_X11_isSound_l42 v1 M 0) (fun s => f_X11_isSound_j72 v1 M) (fun q => some q)
def f_X11_isSound (M : Mem) : Option (Int) :=
  obn (f_X11_isSound_l4 M 0 0) fun s => f_X11_isSound_j40 s.1 M
def rm_X11_isSound : Room := { frames := 2, cells := 0, slots := 0, locals := 47 }
def f_X11_lack_s14 (v2 : Int) (M : Mem) (v1 : Int) (v3 : Int) : Option ((Int × Int) ⊕ (Int × Int)) :=
  if (M 80 12) ≤ v3 then
    some (.inr (v1, v3))
  else
    gd ((0 : Int) ≤ v2 ∧ (v2 : Int) < 32) <|
    if (M 97 v2.toNat) = 7 then
      gd ((0 : Int) ≤ v2 ∧ (v2 : Int) < 32) <|
      obn (f_X11_holdIn (wrap (2 * v2)) v3 M) fun r =>
      lt (wrap ((M 98 v2.toNat) - r)) fun v4 =>
      if v4 ≤ 0 then
        lt (wrap (v1 + 0)) fun v1_2 =>
        lt (wrap (v3 + 1)) fun v3_2 =>
        some (.inl (v1_2, v3_2))
      else
        lt (wrap (v1 + v4)) fun v1_3 =>
        lt (wrap (v3 + 1)) fun v3_3 =>
        some (.inl (v1_3, v3_3))
    else
      some (.inr (v1, v3))
def f_X11_lack_l14 (v2 : Int) (M : Mem) (v1 : Int) (v3 : Int) : Option (Int × Int) := whl (fun s => f_X11_lack_s14 v2 M s.1 s.2) FU (v1, v3)
def f_X11_lack_j70k4 (v1 : Int) (v2 : Int) (M : Mem) : Option ((Int × Int) ⊕ (Int × Int)) :=
  lt (wrap (v2 + 1)) fun v2_2 =>
  some (.inl (v1, v2_2))
def f_X11_lack_s4 (M : Mem) (v1 : Int) (v2 : Int) : Option ((Int × Int) ⊕ (Int × Int)) :=
  if (M 80 21) ≤ v2 then
    some (.inr (v1, v2))
  else
    obn (f_X11_lack_l14 v2 M v1 0) fun s => f_X11_lack_j70k4 s.1 v2 M
def f_X11_lack_l4 (M : Mem) (v1 : Int) (v2 : Int) : Option (Int × Int) := whl (fun s => f_X11_lack_s4 M s.1 s.2) FU (v1, v2)
def f_X11_lack_j76 (v1 : Int) (M : Mem) : Option (Int) :=
  some v1
def f_X11_lack (M : Mem) : Option (Int) :=
  obn (f_X11_lack_l4 M 0 0) fun s => f_X11_lack_j76 s.1 M
def rm_X11_lack : Room := { frames := 1, cells := 0, slots := 0, locals := 24 }
def f_X11_servedIn_s2 (v1 : Int) (M : Mem) (v2 : Int) : Option ((Int) ⊕ ((Int) ⊕ (Int))) :=
  if 3 ≤ v2 then
    some (.inr (.inl v2))
  else
    gd ((0 : Int) ≤ (wrap ((wrap (3 * v1)) + v2)) ∧ ((wrap ((wrap (3 * v1)) + v2)) : Int) < 42) <|
    lt (M 86 (wrap ((wrap (3 * v1)) + v2)).toNat) fun v3 =>
    if v3 = (-1) then
      lt (wrap (v2 + 1)) fun v2_2 =>
      some (.inl v2_2)
    else
      gd ((0 : Int) ≤ v3 ∧ (v3 : Int) < 14) <|
      gd ((0 : Int) ≤ v1 ∧ (v1 : Int) < 14) <|
      if (M 108 v3.toNat) = (M 108 v1.toNat) then
        some (.inr (.inr v2))
      else
        lt (wrap (v2 + 1)) fun v2_3 =>
        some (.inl v2_3)
def f_X11_servedIn_l2 (v1 : Int) (M : Mem) (v2 : Int) : Option ((Int) ⊕ (Int)) := whl (fun s => f_X11_servedIn_s2 v1 M s) FU v2
def f_X11_servedIn_j46 (M : Mem) : Option (Int) :=
  some 3
def f_X11_servedIn (p1 : Int) (M : Mem) : Option (Int) :=
  lpr (f_X11_servedIn_l2 p1 M 0) (fun s => f_X11_servedIn_j46 M) (fun q => some q)
def rm_X11_servedIn : Room := { frames := 0, cells := 0, slots := 0, locals := 0 }
def f_X11_harmOf_s87 (v1 : Int) (v2 : Int) (v3 : Int) (v5 : Int) (M : Mem) (v6 : Int) (v7 : Int) : Option ((Int × Int) ⊕ (Int × Int)) :=
  if (M 80 1) ≤ v7 then
    some (.inr (v6, v7))
  else
    gd ((0 : Int) ≤ v1 ∧ (v1 : Int) < 32) <|
    if (M 97 v1.toNat) = 1 then
      gd ((0 : Int) ≤ v7 ∧ (v7 : Int) < 14) <|
      if (M 108 v7.toNat) = v5 then
        gd ((0 : Int) ≤ v1 ∧ (v1 : Int) < 32) <|
        gd ((0 : Int) ≤ (wrap ((wrap (7 * v7)) + (M 99 v1.toNat))) ∧ ((wrap ((wrap (7 * v7)) + (M 99 v1.toNat))) : Int) < 98) <|
        lt (wrap (v6 + (M 106 (wrap ((wrap (7 * v7)) + (M 99 v1.toNat))).toNat))) fun v6_3 =>
        lt (wrap (v7 + 1)) fun v7_3 =>
        some (.inl (v6_3, v7_3))
      else
        lt (wrap (v6 + 0)) fun v6_2 =>
        lt (wrap (v7 + 1)) fun v7_2 =>
        some (.inl (v6_2, v7_2))
    else
      some (.inr (v6, v7))
def f_X11_harmOf_l87 (v1 : Int) (v2 : Int) (v3 : Int) (v5 : Int) (M : Mem) (v6 : Int) (v7 : Int) : Option (Int × Int) := whl (fun s => f_X11_harmOf_s87 v1 v2 v3 v5 M s.1 s.2) FU (v6, v7)
def f_X11_harmOf_j162k51 (v1 : Int) (v2 : Int) (v3 : Int) (v5 : Int) (v6 : Int) (s0 : Int) (M : Mem) : Option ((Int × Int × Int) ⊕ (Int × Int × Int)) :=
  if v6 ≤ v3 then
    lt (wrap (v5 + 1)) fun v5_2 =>
    some (.inl (s0, v3, v5_2))
  else
    lt (wrap (v5 + 1)) fun v5_3 =>
    some (.inl (s0, v6, v5_3))
def f_X11_harmOf_j150k51 (v1 : Int) (v2 : Int) (v3 : Int) (v5 : Int) (v6 : Int) (M : Mem) : Option ((Int × Int × Int) ⊕ (Int × Int × Int)) :=
  if v2 ≤ v6 then
    f_X11_harmOf_j162k51 v1 v2 v3 v5 v6 v2 M
  else
    f_X11_harmOf_j162k51 v1 v2 v3 v5 v6 v6 M
def f_X11_harmOf_j82k51 (v1 : Int) (v2 : Int) (v3 : Int) (v5 : Int) (s0 : Int) (M : Mem) : Option ((Int × Int × Int) ⊕ (Int × Int × Int)) :=
  obn (f_X11_harmOf_l87 v1 v2 v3 v5 M s0 0) fun s => f_X11_harmOf_j150k51 v1 v2 v3 v5 s.1 M
def f_X11_harmOf_s51 (v1 : Int) (M : Mem) (v2 : Int) (v3 : Int) (v5 : Int) : Option ((Int × Int × Int) ⊕ (Int × Int × Int)) :=
  if (M 80 12) ≤ v5 then
    some (.inr (v2, v3, v5))
  else
    gd ((0 : Int) ≤ v1 ∧ (v1 : Int) < 32) <|
    if (M 97 v1.toNat) = 0 then
      obn (f_X11_holdIn (wrap (2 * v1)) v5 M) fun r =>
      f_X11_harmOf_j82k51 v1 v2 v3 v5 r M
    else
      f_X11_harmOf_j82k51 v1 v2 v3 v5 0 M
def f_X11_harmOf_l51 (v1 : Int) (M : Mem) (v2 : Int) (v3 : Int) (v5 : Int) : Option (Int × Int × Int) := whl (fun s => f_X11_harmOf_s51 v1 M s.1 s.2.1 s.2.2) FU (v2, v3, v5)
def f_X11_harmOf_j182 (v1 : Int) (v2 : Int) (v3 : Int) (M : Mem) : Option (Int) :=
  gd ((0 : Int) ≤ v1 ∧ (v1 : Int) < 32) <|
  some (wrap ((M 98 v1.toNat) * (wrap (v3 - v2))))
def f_X11_harmOf_s196 (v1 : Int) (M : Mem) (v4 : Int) (v5 : Int) : Option ((Int × Int) ⊕ (Int × Int)) :=
  if (M 80 1) ≤ v5 then
    some (.inr (v4, v5))
  else
    gd ((0 : Int) ≤ v5 ∧ (v5 : Int) < 14) <|
    if (M 108 v5.toNat) = (-1) then
      lt (wrap (v4 + 0)) fun v4_2 =>
      lt (wrap (v5 + 1)) fun v5_2 =>
      some (.inl (v4_2, v5_2))
    else
      obn (f_X11_servedIn v5 M) fun r =>
      if r = 3 then
        gd ((0 : Int) ≤ v5 ∧ (v5 : Int) < 14) <|
        lt (wrap (v4 + (wrap (1 + (M 85 v5.toNat))))) fun v4_4 =>
        lt (wrap (v5 + 1)) fun v5_4 =>
        some (.inl (v4_4, v5_4))
      else
        lt (wrap (v4 + 0)) fun v4_3 =>
        lt (wrap (v5 + 1)) fun v5_3 =>
        some (.inl (v4_3, v5_3))
def f_X11_harmOf_l196 (v1 : Int) (M : Mem) (v4 : Int) (v5 : Int) : Option (Int × Int) := whl (fun s => f_X11_harmOf_s196 v1 M s.1 s.2) FU (v4, v5)
def f_X11_harmOf_j250 (v1 : Int) (v4 : Int) (M : Mem) : Option (Int) :=
  gd ((0 : Int) ≤ v1 ∧ (v1 : Int) < 32) <|
  some (wrap ((M 98 v1.toNat) * v4))
def f_X11_harmOf_s263 (v1 : Int) (M : Mem) (v4 : Int) (v5 : Int) : Option ((Int × Int) ⊕ (Int × Int)) :=
  if (M 80 1) ≤ v5 then
    some (.inr (v4, v5))
  else
    gd ((0 : Int) ≤ v5 ∧ (v5 : Int) < 14) <|
    if (M 108 v5.toNat) = (-1) then
      lt (wrap (v4 + 0)) fun v4_2 =>
      lt (wrap (v5 + 1)) fun v5_2 =>
      some (.inl (v4_2, v5_2))
    else
      gd ((0 : Int) ≤ (wrap ((wrap (28 * v1)) + v5)) ∧ ((wrap ((wrap (28 * v1)) + v5)) : Int) < 448) <|
      if (M 107 (wrap ((wrap (28 * v1)) + v5)).toNat) = 0 then
        lt (wrap (v4 + 0)) fun v4_3 =>
        lt (wrap (v5 + 1)) fun v5_3 =>
        some (.inl (v4_3, v5_3))
      else
        gd ((0 : Int) ≤ v5 ∧ (v5 : Int) < 14) <|
        obn (f_X11_holdIn (wrap (2 * v1)) (M 108 v5.toNat) M) fun r =>
        if r = 1 then
          lt (wrap (v4 + 1)) fun v4_5 =>
          lt (wrap (v5 + 1)) fun v5_5 =>
          some (.inl (v4_5, v5_5))
        else
          lt (wrap (v4 + 0)) fun v4_4 =>
          lt (wrap (v5 + 1)) fun v5_4 =>
          some (.inl (v4_4, v5_4))
def f_X11_harmOf_l263 (v1 : Int) (M : Mem) (v4 : Int) (v5 : Int) : Option (Int × Int) := whl (fun s => f_X11_harmOf_s263 v1 M s.1 s.2) FU (v4, v5)
def f_X11_harmOf_j332 (v1 : Int) (v4 : Int) (M : Mem) : Option (Int) :=
  gd ((0 : Int) ≤ v1 ∧ (v1 : Int) < 32) <|
  some (wrap ((M 98 v1.toNat) * v4))
def f_X11_harmOf_s357 (v1 : Int) (v5 : Int) (M : Mem) (v4 : Int) (v6 : Int) : Option ((Int × Int) ⊕ (Int × Int)) :=
  if v5 ≤ v6 then
    some (.inr (v4, v6))
  else
    gd ((0 : Int) ≤ v5 ∧ (v5 : Int) < 14) <|
    if (M 108 v5.toNat) = (-1) then
      lt (wrap (v4 + 0)) fun v4_2 =>
      lt (wrap (v6 + 1)) fun v6_2 =>
      some (.inl (v4_2, v6_2))
    else
      gd ((0 : Int) ≤ v5 ∧ (v5 : Int) < 14) <|
      gd ((0 : Int) ≤ v6 ∧ (v6 : Int) < 14) <|
      if (M 108 v5.toNat) = (M 108 v6.toNat) then
        gd ((0 : Int) ≤ (wrap ((wrap (14 * v5)) + v6)) ∧ ((wrap ((wrap (14 * v5)) + v6)) : Int) < 196) <|
        lt (wrap (v4 + (M 87 (wrap ((wrap (14 * v5)) + v6)).toNat))) fun v4_4 =>
        lt (wrap (v6 + 1)) fun v6_4 =>
        some (.inl (v4_4, v6_4))
      else
        lt (wrap (v4 + 0)) fun v4_3 =>
        lt (wrap (v6 + 1)) fun v6_3 =>
        some (.inl (v4_3, v6_3))
def f_X11_harmOf_l357 (v1 : Int) (v5 : Int) (M : Mem) (v4 : Int) (v6 : Int) : Option (Int × Int) := whl (fun s => f_X11_harmOf_s357 v1 v5 M s.1 s.2) FU (v4, v6)
def f_X11_harmOf_j420k345 (v1 : Int) (v4 : Int) (v5 : Int) (M : Mem) : Option ((Int × Int) ⊕ (Int × Int)) :=
  lt (wrap (v5 + 1)) fun v5_2 =>
  some (.inl (v4, v5_2))
def f_X11_harmOf_s345 (v1 : Int) (M : Mem) (v4 : Int) (v5 : Int) : Option ((Int × Int) ⊕ (Int × Int)) :=
  if (M 80 1) ≤ v5 then
    some (.inr (v4, v5))
  else
    obn (f_X11_harmOf_l357 v1 v5 M v4 0) fun s => f_X11_harmOf_j420k345 v1 s.1 v5 M
def f_X11_harmOf_l345 (v1 : Int) (M : Mem) (v4 : Int) (v5 : Int) : Option (Int × Int) := whl (fun s => f_X11_harmOf_s345 v1 M s.1 s.2) FU (v4, v5)
def f_X11_harmOf_j426 (v1 : Int) (v4 : Int) (M : Mem) : Option (Int) :=
  gd ((0 : Int) ≤ v1 ∧ (v1 : Int) < 32) <|
  some (wrap ((M 98 v1.toNat) * v4))
def f_X11_harmOf (p1 : Int) (M : Mem) : Option (Int) :=
  gd ((0 : Int) ≤ p1 ∧ (p1 : Int) < 32) <|
  if (M 97 p1.toNat) < 0 ∨ 4 < (M 97 p1.toNat) then
    some 0
  else if (M 97 p1.toNat) = 0 then
    obn (f_X11_harmOf_l51 p1 M 1000000000 0 0) fun s => f_X11_harmOf_j182 p1 s.1 s.2.1 M
  else if (M 97 p1.toNat) = 1 then
    obn (f_X11_harmOf_l51 p1 M 1000000000 0 0) fun s => f_X11_harmOf_j182 p1 s.1 s.2.1 M
  else if (M 97 p1.toNat) = 2 then
    obn (f_X11_harmOf_l196 p1 M 0 0) fun s => f_X11_harmOf_j250 p1 s.1 M
  else if (M 97 p1.toNat) = 3 then
    obn (f_X11_harmOf_l263 p1 M 0 0) fun s => f_X11_harmOf_j332 p1 s.1 M
  else if (M 97 p1.toNat) = 4 then
    obn (f_X11_harmOf_l345 p1 M 0 0) fun s => f_X11_harmOf_j426 p1 s.1 M
  else none
def rm_X11_harmOf : Room := { frames := 1, cells := 0, slots := 0, locals := 24 }
def f_X11_allHarm_s4 (M : Mem) (v1 : Int) (v2 : Int) : Option ((Int × Int) ⊕ (Int × Int)) :=
  if (M 80 21) ≤ v2 then
    some (.inr (v1, v2))
  else
    obn (f_X11_harmOf v2 M) fun r =>
    lt (wrap (v1 + r)) fun v1_2 =>
    lt (wrap (v2 + 1)) fun v2_2 =>
    some (.inl (v1_2, v2_2))
def f_X11_allHarm_l4 (M : Mem) (v1 : Int) (v2 : Int) : Option (Int × Int) := whl (fun s => f_X11_allHarm_s4 M s.1 s.2) FU (v1, v2)
def f_X11_allHarm_j26 (v1 : Int) (M : Mem) : Option (Int) :=
  some v1
def f_X11_allHarm (M : Mem) : Option (Int) :=
  obn (f_X11_allHarm_l4 M 0 0) fun s => f_X11_allHarm_j26 s.1 M
def rm_X11_allHarm : Room := { frames := 2, cells := 0, slots := 0, locals := 51 }
def f_X11_counts_s7 (v1 : Int) (M : Mem) : Option ((Int × Mem) ⊕ ((Int × Mem) ⊕ (Int × Mem))) :=
  if v1 < 0 then
    some (.inr (.inl (v1, M)))
  else
    gd ((0 : Int) ≤ v1 ∧ (v1 : Int) < 14) <|
    if (M 108 v1.toNat) = (-1) then
      lt (wrap (v1 + (-1))) fun v1_3 =>
      some (.inl (v1_3, M))
    else
      gd ((0 : Int) ≤ v1 ∧ (v1 : Int) < 14) <|
      gd ((0 : Int) ≤ v1 ∧ (v1 : Int) < 14) <|
      lt (mup M 108 v1.toNat (wrap ((M 108 v1.toNat) + 1))) fun M_2 =>
      gd ((0 : Int) ≤ v1 ∧ (v1 : Int) < 14) <|
      if (M_2 80 12) ≤ (M_2 108 v1.toNat) then
        gd ((0 : Int) ≤ v1 ∧ (v1 : Int) < 14) <|
        lt (mup M_2 108 v1.toNat 0) fun M_3 =>
        lt (wrap (v1 + (-1))) fun v1_2 =>
        some (.inl (v1_2, M_3))
      else
        some (.inr (.inr (1, M_2)))
def f_X11_counts_l7 (v1 : Int) (M : Mem) : Option ((Int × Mem) ⊕ (Int × Mem)) := whl (fun s => f_X11_counts_s7 s.1 s.2) FU (v1, M)
def f_X11_counts_j62 (M : Mem) : Option (Int × Mem) :=
  some (0, M)
def f_X11_counts (M : Mem) : Option (Int × Mem) :=
  lt (wrap ((M 80 1) - 1)) fun v1 =>
  lpr (f_X11_counts_l7 v1 M) (fun s => f_X11_counts_j62 s.2) (fun q => some q)
def rm_X11_counts : Room := { frames := 0, cells := 0, slots := 0, locals := 0 }
def f_X11_bests_s77 (v1 : Int) (v2 : Int) (M : Mem) : Option ((Int × Mem) ⊕ (Int × Mem)) :=
  if (M 80 1) ≤ v2 then
    some (.inr (v2, M))
  else
    gd ((0 : Int) ≤ v2 ∧ (v2 : Int) < 14) <|
    if v1 < (M 84 v2.toNat) then
      gd ((0 : Int) ≤ v2 ∧ (v2 : Int) < 14) <|
      lt (mup M 108 v2.toNat (-1)) fun M_2 =>
      lt (wrap (v2 + 1)) fun v2_2 =>
      some (.inl (v2_2, M_2))
    else
      gd ((0 : Int) ≤ v2 ∧ (v2 : Int) < 14) <|
      lt (mup M 108 v2.toNat 0) fun M_3 =>
      lt (wrap (v2 + 1)) fun v2_3 =>
      some (.inl (v2_3, M_3))
def f_X11_bests_l77 (v1 : Int) (v2 : Int) (M : Mem) : Option (Int × Mem) := whl (fun s => f_X11_bests_s77 v1 s.1 s.2) FU (v2, M)
def f_X11_bests_s159 (v1 : Int) (v3 : Int) (M : Mem) : Option ((Int × Mem) ⊕ (Int × Mem)) :=
  if (M 80 1) ≤ v3 then
    some (.inr (v3, M))
  else
    gd ((0 : Int) ≤ v3 ∧ (v3 : Int) < 14) <|
    gd ((0 : Int) ≤ v3 ∧ (v3 : Int) < 14) <|
    lt (mup M 109 v3.toNat (M 108 v3.toNat)) fun M_2 =>
    lt (wrap (v3 + 1)) fun v3_2 =>
    some (.inl (v3_2, M_2))
def f_X11_bests_l159 (v1 : Int) (v3 : Int) (M : Mem) : Option (Int × Mem) := whl (fun s => f_X11_bests_s159 v1 s.1 s.2) FU (v3, M)
def f_X11_bests_j185k119 (v1 : Int) (M : Mem) : Option ((Mem) ⊕ (Mem)) :=
  bnd (f_X11_counts M) fun r M_2 =>
  if r = 0 then
    some (.inr M_2)
  else
    some (.inl M_2)
def f_X11_bests_s119 (v1 : Int) (M : Mem) : Option ((Mem) ⊕ (Mem)) :=
  obn (f_X11_isSound M) fun r =>
  if r = 0 then
    bnd (f_X11_counts M) fun r_2 M_2 =>
    if r_2 = 0 then
      some (.inr M_2)
    else
      some (.inl M_2)
  else
    obn (f_X11_lack M) fun r_3 =>
    if r_3 ≤ 0 then
      obn (f_X11_allHarm M) fun r_4 =>
      if r_4 < (M 80 45) then
        lt (mup M 80 45 r_4) fun M_3 =>
        obn (f_X11_bests_l159 v1 0 M_3) fun s => f_X11_bests_j185k119 v1 s.2
      else
        bnd (f_X11_counts M) fun r_5 M_4 =>
        if r_5 = 0 then
          some (.inr M_4)
        else
          some (.inl M_4)
    else
      bnd (f_X11_counts M) fun r_6 M_5 =>
      if r_6 = 0 then
        some (.inr M_5)
      else
        some (.inl M_5)
def f_X11_bests_l119 (v1 : Int) (M : Mem) : Option (Mem) := whl (fun s => f_X11_bests_s119 v1 s) FU M
def f_X11_bests_j192 (v1 : Int) (M : Mem) : Option (Int × Mem) :=
  lt (mup M 80 43 1) fun M_2 =>
  lt (mup M_2 80 44 v1) fun M_3 =>
  if (M_3 80 45) = 1000000000 then
    some ((-2), M_3)
  else
    some ((M_3 80 45), M_3)
def f_X11_bests_j112 (v1 : Int) (M : Mem) : Option (Int × Mem) :=
  lt (mup M 80 45 1000000000) fun M_2 =>
  obn (f_X11_bests_l119 v1 M_2) fun s => f_X11_bests_j192 v1 s
def f_X11_bests (p1 : Int) (M : Mem) : Option (Int × Mem) :=
  obn (f_X11_within p1 0 (M 80 14) M) fun r =>
  if r = 0 then
    some ((-1), M)
  else
    obn (f_X11_cameBy p1 M) fun r_2 =>
    if r_2 = 0 then
      some ((-1), M)
    else
      obn (f_X11_cameBy p1 M) fun r_3 =>
      if r_3 ≤ 9 then
        if (M 80 43) = 0 then
          obn (f_X11_learns p1 M) fun M_2 =>
          obn (f_X11_bests_l77 p1 0 M_2) fun s => f_X11_bests_j112 p1 s.2
        else
          if p1 = (M 80 44) then
            if (M 80 45) = 1000000000 then
              some ((-2), M)
            else
              some ((M 80 45), M)
          else
            obn (f_X11_learns p1 M) fun M_3 =>
            obn (f_X11_bests_l77 p1 0 M_3) fun s => f_X11_bests_j112 p1 s.2
      else
        some ((-3), M)
def rm_X11_bests : Room := { frames := 4, cells := 0, slots := 0, locals := 105 }
def f_X11_plan (p1 : Int) (M : Mem) : Option (Int × Mem) :=
  lt (mup M 80 0 0) fun M_2 =>
  bnd (f_X11_bests p1 M_2) fun r M_3 =>
  some (r, M_3)
def rm_X11_plan : Room := { frames := 5, cells := 0, slots := 0, locals := 128 }
def f_X11_planned (p1 : Int) (p2 : Int) (M : Mem) : Option (Int × Mem) :=
  lt (mup M 80 0 0) fun M_2 =>
  bnd (f_X11_bests p1 M_2) fun r M_3 =>
  if r < 0 then
    some ((-1), M_3)
  else
    obn (f_X11_isChild p2 M_3) fun r_2 =>
    if r_2 = 0 then
      some ((-1), M_3)
    else
      gd ((0 : Int) ≤ p2 ∧ (p2 : Int) < 14) <|
      some ((M_3 109 p2.toNat), M_3)
def rm_X11_planned : Room := { frames := 5, cells := 0, slots := 0, locals := 128 }
def f_X11_keep_s22 (v1 : Int) (v2 : Int) (M : Mem) : Option ((Int × Mem) ⊕ (Int × Mem)) :=
  if (M 80 1) ≤ v2 then
    some (.inr (v2, M))
  else
    gd ((0 : Int) ≤ v2 ∧ (v2 : Int) < 14) <|
    gd ((0 : Int) ≤ v2 ∧ (v2 : Int) < 14) <|
    lt (mup M 110 v2.toNat (M 109 v2.toNat)) fun M_2 =>
    lt (wrap (v2 + 1)) fun v2_2 =>
    some (.inl (v2_2, M_2))
def f_X11_keep_l22 (v1 : Int) (v2 : Int) (M : Mem) : Option (Int × Mem) := whl (fun s => f_X11_keep_s22 v1 s.1 s.2) FU (v2, M)
def f_X11_keep_j48 (v1 : Int) (M : Mem) : Option (Int × Mem) :=
  some (v1, M)
def f_X11_keep (M : Mem) : Option (Int × Mem) :=
  lt (mup M 80 0 0) fun M_2 =>
  bnd (f_X11_bests (M_2 80 14) M_2) fun r M_3 =>
  if 0 ≤ r then
    obn (f_X11_keep_l22 r 0 M_3) fun s => f_X11_keep_j48 r s.2
  else
    some (r, M_3)
def rm_X11_keep : Room := { frames := 5, cells := 0, slots := 0, locals := 128 }
def f_X11_softest_s10 (v1 : Int) (v2 : Int) (v3 : Int) (v4 : Int) (v5 : Int) (M : Mem) : Option ((Int × Int × Int × Mem) ⊕ (Int × Int × Int × Mem)) :=
  if (M 80 12) ≤ v5 then
    some (.inr (v3, v4, v5, M))
  else
    gd ((0 : Int) ≤ v1 ∧ (v1 : Int) < 14) <|
    lt (mup M 108 v1.toNat v5) fun M_2 =>
    obn (f_X11_isSound M_2) fun r =>
    if r = 0 then
      lt (wrap (v5 + 1)) fun v5_2 =>
      some (.inl (v3, v4, v5_2, M_2))
    else
      if v2 = 0 then
        obn (f_X11_allHarm M_2) fun r_2 =>
        if r_2 < v4 then
          lt (wrap (v5 + 1)) fun v5_3 =>
          some (.inl (v5, r_2, v5_3, M_2))
        else
          lt (wrap (v5 + 1)) fun v5_4 =>
          some (.inl (v3, v4, v5_4, M_2))
      else
        obn (f_X11_lack M_2) fun r_3 =>
        if r_3 ≤ 0 then
          obn (f_X11_allHarm M_2) fun r_4 =>
          if r_4 < v4 then
            lt (wrap (v5 + 1)) fun v5_5 =>
            some (.inl (v5, r_4, v5_5, M_2))
          else
            lt (wrap (v5 + 1)) fun v5_6 =>
            some (.inl (v3, v4, v5_6, M_2))
        else
          lt (wrap (v5 + 1)) fun v5_7 =>
          some (.inl (v3, v4, v5_7, M_2))
def f_X11_softest_l10 (v1 : Int) (v2 : Int) (v3 : Int) (v4 : Int) (v5 : Int) (M : Mem) : Option (Int × Int × Int × Mem) := whl (fun s => f_X11_softest_s10 v1 v2 s.1 s.2.1 s.2.2.1 s.2.2.2) FU (v3, v4, v5, M)
def f_X11_softest_j77 (v1 : Int) (v3 : Int) (M : Mem) : Option (Int × Mem) :=
  gd ((0 : Int) ≤ v1 ∧ (v1 : Int) < 14) <|
  lt (mup M 108 v1.toNat v3) fun M_2 =>
  some (v3, M_2)
def f_X11_softest (p1 : Int) (p2 : Int) (M : Mem) : Option (Int × Mem) :=
  obn (f_X11_softest_l10 p1 p2 (-1) 1000000000 0 M) fun s => f_X11_softest_j77 p1 s.1 s.2.2.2
def rm_X11_softest : Room := { frames := 3, cells := 0, slots := 0, locals := 73 }
def f_X11_isBetter (p1 : Int) (p2 : Int) (M : Mem) : Option (Int) :=
  obn (f_X11_isSound M) fun r =>
  if r = 0 then
    some 0
  else
    obn (f_X11_lack M) fun r_2 =>
    if r_2 < p1 then
      some 1
    else
      if r_2 = p1 then
        obn (f_X11_allHarm M) fun r_3 =>
        if p2 ≤ r_3 then
          some 0
        else
          some 1
      else
        some 0
def rm_X11_isBetter : Room := { frames := 3, cells := 0, slots := 0, locals := 73 }
def f_X11_swaps (p1 : Int) (p2 : Int) (M : Mem) : Option (Mem) :=
  gd ((0 : Int) ≤ p1 ∧ (p1 : Int) < 14) <|
  lt (M 108 p1.toNat) fun v3 =>
  gd ((0 : Int) ≤ p2 ∧ (p2 : Int) < 14) <|
  gd ((0 : Int) ≤ p1 ∧ (p1 : Int) < 14) <|
  lt (mup M 108 p1.toNat (M 108 p2.toNat)) fun M_2 =>
  gd ((0 : Int) ≤ p2 ∧ (p2 : Int) < 14) <|
  lt (mup M_2 108 p2.toNat v3) fun M_3 =>
  some M_3
def rm_X11_swaps : Room := { frames := 0, cells := 0, slots := 0, locals := 0 }
def f_X11_betters_s31 (v1 : Int) (v2 : Int) (v3 : Int) (v4 : Int) (v5 : Int) (M : Mem) : Option ((Int × Mem) ⊕ ((Int × Mem) ⊕ (Int × Mem))) :=
  if (M 80 12) ≤ v5 then
    some (.inr (.inl (v5, M)))
  else
    if v5 = v4 then
      lt (wrap (v5 + 1)) fun v5_3 =>
      some (.inl (v5_3, M))
    else
      gd ((0 : Int) ≤ v3 ∧ (v3 : Int) < 14) <|
      lt (mup M 108 v3.toNat v5) fun M_2 =>
      obn (f_X11_isBetter v1 v2 M_2) fun r =>
      if r = 0 then
        lt (wrap (v5 + 1)) fun v5_2 =>
        some (.inl (v5_2, M_2))
      else
        some (.inr (.inr (1, M_2)))
def f_X11_betters_l31 (v1 : Int) (v2 : Int) (v3 : Int) (v4 : Int) (v5 : Int) (M : Mem) : Option ((Int × Mem) ⊕ (Int × Mem)) := whl (fun s => f_X11_betters_s31 v1 v2 v3 v4 s.1 s.2) FU (v5, M)
def f_X11_betters_j75k12 (v1 : Int) (v2 : Int) (v3 : Int) (v4 : Int) (M : Mem) : Option ((Int × Mem) ⊕ ((Int × Mem) ⊕ (Int × Mem))) :=
  gd ((0 : Int) ≤ v3 ∧ (v3 : Int) < 14) <|
  lt (mup M 108 v3.toNat v4) fun M_2 =>
  lt (wrap (v3 + 1)) fun v3_2 =>
  some (.inl (v3_2, M_2))
def f_X11_betters_s12 (v1 : Int) (v2 : Int) (v3 : Int) (M : Mem) : Option ((Int × Mem) ⊕ ((Int × Mem) ⊕ (Int × Mem))) :=
  if (M 80 1) ≤ v3 then
    some (.inr (.inl (v3, M)))
  else
    gd ((0 : Int) ≤ v3 ∧ (v3 : Int) < 14) <|
    lt (M 108 v3.toNat) fun v4 =>
    lpr (f_X11_betters_l31 v1 v2 v3 v4 0 M) (fun s => f_X11_betters_j75k12 v1 v2 v3 v4 s.2) (fun q => some (.inr (.inr q)))
def f_X11_betters_l12 (v1 : Int) (v2 : Int) (v3 : Int) (M : Mem) : Option ((Int × Mem) ⊕ (Int × Mem)) := whl (fun s => f_X11_betters_s12 v1 v2 s.1 s.2) FU (v3, M)
def f_X11_betters_s104 (v1 : Int) (v2 : Int) (v3 : Int) (v4 : Int) (M : Mem) : Option ((Int × Mem) ⊕ ((Int × Mem) ⊕ (Int × Mem))) :=
  if (M 80 1) ≤ v4 then
    some (.inr (.inl (v4, M)))
  else
    gd ((0 : Int) ≤ v3 ∧ (v3 : Int) < 14) <|
    gd ((0 : Int) ≤ v4 ∧ (v4 : Int) < 14) <|
    if (M 108 v3.toNat) = (M 108 v4.toNat) then
      lt (wrap (v4 + 1)) fun v4_3 =>
      some (.inl (v4_3, M))
    else
      obn (f_X11_swaps v3 v4 M) fun M_2 =>
      obn (f_X11_isBetter v1 v2 M_2) fun r =>
      if r = 0 then
        obn (f_X11_swaps v3 v4 M_2) fun M_3 =>
        lt (wrap (v4 + 1)) fun v4_2 =>
        some (.inl (v4_2, M_3))
      else
        some (.inr (.inr (1, M_2)))
def f_X11_betters_l104 (v1 : Int) (v2 : Int) (v3 : Int) (v4 : Int) (M : Mem) : Option ((Int × Mem) ⊕ (Int × Mem)) := whl (fun s => f_X11_betters_s104 v1 v2 v3 s.1 s.2) FU (v4, M)
def f_X11_betters_j163k91 (v1 : Int) (v2 : Int) (v3 : Int) (M : Mem) : Option ((Int × Mem) ⊕ ((Int × Mem) ⊕ (Int × Mem))) :=
  lt (wrap (v3 + 1)) fun v3_2 =>
  some (.inl (v3_2, M))
def f_X11_betters_s91 (v1 : Int) (v2 : Int) (v3 : Int) (M : Mem) : Option ((Int × Mem) ⊕ ((Int × Mem) ⊕ (Int × Mem))) :=
  if (M 80 1) ≤ v3 then
    some (.inr (.inl (v3, M)))
  else
    lt (wrap (v3 + 1)) fun v4 =>
    lpr (f_X11_betters_l104 v1 v2 v3 v4 M) (fun s => f_X11_betters_j163k91 v1 v2 v3 s.2) (fun q => some (.inr (.inr q)))
def f_X11_betters_l91 (v1 : Int) (v2 : Int) (v3 : Int) (M : Mem) : Option ((Int × Mem) ⊕ (Int × Mem)) := whl (fun s => f_X11_betters_s91 v1 v2 s.1 s.2) FU (v3, M)
def f_X11_betters_j169 (M : Mem) : Option (Int × Mem) :=
  some (0, M)
def f_X11_betters_j89 (v1 : Int) (v2 : Int) (M : Mem) : Option (Int × Mem) :=
  lpr (f_X11_betters_l91 v1 v2 0 M) (fun s => f_X11_betters_j169 s.2) (fun q => some q)
def f_X11_betters (M : Mem) : Option (Int × Mem) :=
  obn (f_X11_lack M) fun r =>
  obn (f_X11_allHarm M) fun r_2 =>
  lpr (f_X11_betters_l12 r r_2 0 M) (fun s => f_X11_betters_j89 r r_2 s.2) (fun q => some q)
def rm_X11_betters : Room := { frames := 4, cells := 0, slots := 0, locals := 96 }
def f_X11_make_s24 (v1 : Int) (M : Mem) : Option ((Int × Mem) ⊕ (Int × Mem)) :=
  if (M 80 1) ≤ v1 then
    some (.inr (v1, M))
  else
    gd ((0 : Int) ≤ v1 ∧ (v1 : Int) < 14) <|
    lt (mup M 108 v1.toNat (-1)) fun M_2 =>
    lt (wrap (v1 + 1)) fun v1_2 =>
    some (.inl (v1_2, M_2))
def f_X11_make_l24 (v1 : Int) (M : Mem) : Option (Int × Mem) := whl (fun s => f_X11_make_s24 s.1 s.2) FU (v1, M)
def f_X11_make_s47 (v1 : Int) (M : Mem) : Option ((Int × Mem) ⊕ ((Int × Mem) ⊕ (Int × Mem))) :=
  if (M 80 1) ≤ v1 then
    some (.inr (.inl (v1, M)))
  else
    bnd (f_X11_softest v1 0 M) fun r M_2 =>
    if r = (-1) then
      some (.inr (.inr ((-2), M_2)))
    else
      lt (wrap (v1 + 1)) fun v1_2 =>
      some (.inl (v1_2, M_2))
def f_X11_make_l47 (v1 : Int) (M : Mem) : Option ((Int × Mem) ⊕ (Int × Mem)) := whl (fun s => f_X11_make_s47 s.1 s.2) FU (v1, M)
def f_X11_make_s79 (M : Mem) : Option ((Mem) ⊕ (Mem)) :=
  bnd (f_X11_betters M) fun r M_2 =>
  if r = 0 then
    some (.inr M_2)
  else
    lt (mup M_2 80 48 (wrap ((M_2 80 48) + 1))) fun M_3 =>
    some (.inl M_3)
def f_X11_make_l79 (M : Mem) : Option (Mem) := whl (fun s => f_X11_make_s79 s) FU M
def f_X11_make_s101 (v1 : Int) (M : Mem) : Option ((Int × Mem) ⊕ (Int × Mem)) :=
  if (M 80 1) ≤ v1 then
    some (.inr (v1, M))
  else
    gd ((0 : Int) ≤ v1 ∧ (v1 : Int) < 14) <|
    gd ((0 : Int) ≤ v1 ∧ (v1 : Int) < 14) <|
    lt (mup M 110 v1.toNat (M 108 v1.toNat)) fun M_2 =>
    lt (wrap (v1 + 1)) fun v1_2 =>
    some (.inl (v1_2, M_2))
def f_X11_make_l101 (v1 : Int) (M : Mem) : Option (Int × Mem) := whl (fun s => f_X11_make_s101 s.1 s.2) FU (v1, M)
def f_X11_make_j127 (M : Mem) : Option (Int × Mem) :=
  obn (f_X11_lack M) fun r =>
  if r ≤ 0 then
    obn (f_X11_allHarm M) fun r_2 =>
    some (r_2, M)
  else
    some ((-4), M)
def f_X11_make_j99 (M : Mem) : Option (Int × Mem) :=
  obn (f_X11_make_l101 0 M) fun s => f_X11_make_j127 s.2
def f_X11_make_j74 (M : Mem) : Option (Int × Mem) :=
  lt (mup M 80 48 0) fun M_2 =>
  obn (f_X11_make_l79 M_2) fun s => f_X11_make_j99 s
def f_X11_make_j45 (M : Mem) : Option (Int × Mem) :=
  lpr (f_X11_make_l47 0 M) (fun s => f_X11_make_j74 s.2) (fun q => some q)
def f_X11_make (M : Mem) : Option (Int × Mem) :=
  lt (mup M 80 0 0) fun M_2 =>
  if (M_2 80 1) = 0 then
    some ((-1), M_2)
  else
    obn (f_X11_learns (M_2 80 14) M_2) fun M_3 =>
    obn (f_X11_make_l24 0 M_3) fun s => f_X11_make_j45 s.2
def rm_X11_make : Room := { frames := 5, cells := 0, slots := 0, locals := 121 }
def f_X11_steps (M : Mem) : Option (Int × Mem) :=
  lt (mup M 80 0 0) fun M_2 =>
  some ((M_2 80 48), M_2)
def rm_X11_steps : Room := { frames := 0, cells := 0, slots := 0, locals := 0 }
def f_X11_looks_s10 (v1 : Int) (M : Mem) : Option ((Int × Mem) ⊕ (Int × Mem)) :=
  if (M 80 1) ≤ v1 then
    some (.inr (v1, M))
  else
    gd ((0 : Int) ≤ v1 ∧ (v1 : Int) < 14) <|
    gd ((0 : Int) ≤ v1 ∧ (v1 : Int) < 14) <|
    lt (mup M 108 v1.toNat (M 110 v1.toNat)) fun M_2 =>
    lt (wrap (v1 + 1)) fun v1_2 =>
    some (.inl (v1_2, M_2))
def f_X11_looks_l10 (v1 : Int) (M : Mem) : Option (Int × Mem) := whl (fun s => f_X11_looks_s10 s.1 s.2) FU (v1, M)
def f_X11_looks_j36 (M : Mem) : Option (Mem) :=
  some M
def f_X11_looks (M : Mem) : Option (Mem) :=
  obn (f_X11_learns (M 80 14) M) fun M_2 =>
  obn (f_X11_looks_l10 0 M_2) fun s => f_X11_looks_j36 s.2
def rm_X11_looks : Room := { frames := 4, cells := 0, slots := 0, locals := 105 }
def f_X11_late (p1 : Int) (M : Mem) : Option (Int × Mem) :=
  lt (mup M 80 0 0) fun M_2 =>
  obn (f_X11_isChild p1 M_2) fun r =>
  if r = 0 then
    some ((-1), M_2)
  else
    gd ((0 : Int) ≤ p1 ∧ (p1 : Int) < 14) <|
    if (M_2 110 p1.toNat) = (-1) then
      obn (f_X11_looks M_2) fun M_3 =>
      bnd (f_X11_softest p1 1 M_3) fun r_2 M_4 =>
      if r_2 = (-1) then
        some ((-2), M_4)
      else
        gd ((0 : Int) ≤ p1 ∧ (p1 : Int) < 14) <|
        lt (mup M_4 110 p1.toNat r_2) fun M_5 =>
        some (r_2, M_5)
    else
      some ((-1), M_2)
def rm_X11_late : Room := { frames := 5, cells := 0, slots := 0, locals := 126 }
def f_X11_listed_s4 (M : Mem) (v1 : Int) (v2 : Int) : Option ((Int × Int) ⊕ (Int × Int)) :=
  if (M 80 1) ≤ v2 then
    some (.inr (v1, v2))
  else
    gd ((0 : Int) ≤ v2 ∧ (v2 : Int) < 14) <|
    if (M 110 v2.toNat) = (-1) then
      lt (wrap (v1 + 0)) fun v1_3 =>
      lt (wrap (v2 + 1)) fun v2_3 =>
      some (.inl (v1_3, v2_3))
    else
      lt (wrap (v1 + 1)) fun v1_2 =>
      lt (wrap (v2 + 1)) fun v2_2 =>
      some (.inl (v1_2, v2_2))
def f_X11_listed_l4 (M : Mem) (v1 : Int) (v2 : Int) : Option (Int × Int) := whl (fun s => f_X11_listed_s4 M s.1 s.2) FU (v1, v2)
def f_X11_listed_j36 (v1 : Int) (M : Mem) : Option (Int) :=
  some v1
def f_X11_listed (M : Mem) : Option (Int) :=
  obn (f_X11_listed_l4 M 0 0) fun s => f_X11_listed_j36 s.1 M
def rm_X11_listed : Room := { frames := 0, cells := 0, slots := 0, locals := 0 }
def f_X11_change_s37 (v1 : Int) (M : Mem) : Option ((Int × Mem) ⊕ (Int × Mem)) :=
  if (M 80 1) ≤ v1 then
    some (.inr (v1, M))
  else
    gd ((0 : Int) ≤ v1 ∧ (v1 : Int) < 14) <|
    if (M 110 v1.toNat) = (-1) then
      gd ((0 : Int) ≤ v1 ∧ (v1 : Int) < 14) <|
      lt (mup M 108 v1.toNat (-1)) fun M_3 =>
      lt (wrap (v1 + 1)) fun v1_3 =>
      some (.inl (v1_3, M_3))
    else
      gd ((0 : Int) ≤ v1 ∧ (v1 : Int) < 14) <|
      lt (mup M 108 v1.toNat 0) fun M_2 =>
      lt (wrap (v1 + 1)) fun v1_2 =>
      some (.inl (v1_2, M_2))
def f_X11_change_l37 (v1 : Int) (M : Mem) : Option (Int × Mem) := whl (fun s => f_X11_change_s37 s.1 s.2) FU (v1, M)
def f_X11_change_s90 (M : Mem) (v1 : Int) (v2 : Int) : Option ((Int × Int) ⊕ (Int × Int)) :=
  if (M 80 1) ≤ v2 then
    some (.inr (v1, v2))
  else
    gd ((0 : Int) ≤ v2 ∧ (v2 : Int) < 14) <|
    gd ((0 : Int) ≤ v2 ∧ (v2 : Int) < 14) <|
    if (M 108 v2.toNat) = (M 110 v2.toNat) then
      lt (wrap (v1 + 0)) fun v1_2 =>
      lt (wrap (v2 + 1)) fun v2_2 =>
      some (.inl (v1_2, v2_2))
    else
      lt (wrap (v1 + 1)) fun v1_3 =>
      lt (wrap (v2 + 1)) fun v2_3 =>
      some (.inl (v1_3, v2_3))
def f_X11_change_l90 (M : Mem) (v1 : Int) (v2 : Int) : Option (Int × Int) := whl (fun s => f_X11_change_s90 M s.1 s.2) FU (v1, v2)
def f_X11_change_s188 (v3 : Int) (M : Mem) : Option ((Int × Mem) ⊕ (Int × Mem)) :=
  if (M 80 1) ≤ v3 then
    some (.inr (v3, M))
  else
    gd ((0 : Int) ≤ v3 ∧ (v3 : Int) < 14) <|
    gd ((0 : Int) ≤ v3 ∧ (v3 : Int) < 14) <|
    lt (mup M 109 v3.toNat (M 108 v3.toNat)) fun M_2 =>
    lt (wrap (v3 + 1)) fun v3_2 =>
    some (.inl (v3_2, M_2))
def f_X11_change_l188 (v3 : Int) (M : Mem) : Option (Int × Mem) := whl (fun s => f_X11_change_s188 s.1 s.2) FU (v3, M)
def f_X11_change_j214k86 (M : Mem) : Option ((Mem) ⊕ (Mem)) :=
  bnd (f_X11_counts M) fun r M_2 =>
  if r = 0 then
    some (.inr M_2)
  else
    some (.inl M_2)
def f_X11_change_j127k86 (v1 : Int) (M : Mem) : Option ((Mem) ⊕ (Mem)) :=
  if (M 80 46) < v1 then
    bnd (f_X11_counts M) fun r M_2 =>
    if r = 0 then
      some (.inr M_2)
    else
      some (.inl M_2)
  else
    obn (f_X11_isSound M) fun r_2 =>
    if r_2 = 0 then
      bnd (f_X11_counts M) fun r_3 M_3 =>
      if r_3 = 0 then
        some (.inr M_3)
      else
        some (.inl M_3)
    else
      obn (f_X11_lack M) fun r_4 =>
      if r_4 ≤ 0 then
        obn (f_X11_allHarm M) fun r_5 =>
        if v1 = (M 80 46) then
          if r_5 < (M 80 45) then
            lt (mup M 80 46 v1) fun M_6 =>
            lt (mup M_6 80 45 r_5) fun M_7 =>
            obn (f_X11_change_l188 0 M_7) fun s => f_X11_change_j214k86 s.2
          else
            bnd (f_X11_counts M) fun r_6 M_8 =>
            if r_6 = 0 then
              some (.inr M_8)
            else
              some (.inl M_8)
        else
          lt (mup M 80 46 v1) fun M_4 =>
          lt (mup M_4 80 45 r_5) fun M_5 =>
          obn (f_X11_change_l188 0 M_5) fun s => f_X11_change_j214k86 s.2
      else
        bnd (f_X11_counts M) fun r_7 M_9 =>
        if r_7 = 0 then
          some (.inr M_9)
        else
          some (.inl M_9)
def f_X11_change_s86 (M : Mem) : Option ((Mem) ⊕ (Mem)) :=
  obn (f_X11_change_l90 M 0 0) fun s => f_X11_change_j127k86 s.1 M
def f_X11_change_l86 (M : Mem) : Option (Mem) := whl (fun s => f_X11_change_s86 s) FU M
def f_X11_change_s236 (v1 : Int) (M : Mem) : Option ((Int × Mem) ⊕ (Int × Mem)) :=
  if (M 80 1) ≤ v1 then
    some (.inr (v1, M))
  else
    gd ((0 : Int) ≤ v1 ∧ (v1 : Int) < 14) <|
    gd ((0 : Int) ≤ v1 ∧ (v1 : Int) < 14) <|
    lt (mup M 110 v1.toNat (M 109 v1.toNat)) fun M_2 =>
    lt (wrap (v1 + 1)) fun v1_2 =>
    some (.inl (v1_2, M_2))
def f_X11_change_l236 (v1 : Int) (M : Mem) : Option (Int × Mem) := whl (fun s => f_X11_change_s236 s.1 s.2) FU (v1, M)
def f_X11_change_j262 (M : Mem) : Option (Int × Mem) :=
  some ((M 80 46), M)
def f_X11_change_j221 (M : Mem) : Option (Int × Mem) :=
  if (M 80 46) = 1000000000 then
    some ((-2), M)
  else
    obn (f_X11_change_l236 0 M) fun s => f_X11_change_j262 s.2
def f_X11_change_j72 (M : Mem) : Option (Int × Mem) :=
  lt (mup M 80 45 1000000000) fun M_2 =>
  lt (mup M_2 80 46 1000000000) fun M_3 =>
  obn (f_X11_change_l86 M_3) fun s => f_X11_change_j221 s
def f_X11_change (M : Mem) : Option (Int × Mem) :=
  lt (mup M 80 0 0) fun M_2 =>
  obn (f_X11_listed M_2) fun r =>
  if r = 0 then
    some ((-1), M_2)
  else
    obn (f_X11_listed M_2) fun r_2 =>
    if r_2 ≤ 9 then
      obn (f_X11_looks M_2) fun M_3 =>
      lt (mup M_3 80 43 0) fun M_4 =>
      obn (f_X11_change_l37 0 M_4) fun s => f_X11_change_j72 s.2
    else
      some ((-3), M_2)
def rm_X11_change : Room := { frames := 5, cells := 0, slots := 0, locals := 126 }
def f_X11_classOf (p1 : Int) (M : Mem) : Option (Int × Mem) :=
  lt (mup M 80 0 0) fun M_2 =>
  obn (f_X11_isChild p1 M_2) fun r =>
  if r = 0 then
    some ((-1), M_2)
  else
    gd ((0 : Int) ≤ p1 ∧ (p1 : Int) < 14) <|
    some ((M_2 110 p1.toNat), M_2)
def rm_X11_classOf : Room := { frames := 2, cells := 0, slots := 0, locals := 43 }
def f_X11_was_s47 (v1 : Int) (v2 : Int) (M : Mem) (v3 : Int) (v4 : Int) : Option ((Int × Int) ⊕ (Int × Int)) :=
  if (M 80 56) ≤ v4 then
    some (.inr (v3, v4))
  else
    gd ((0 : Int) ≤ v4 ∧ (v4 : Int) < 400) <|
    if (M 116 v4.toNat) = v1 then
      gd ((0 : Int) ≤ v4 ∧ (v4 : Int) < 400) <|
      if v2 < (M 117 v4.toNat) then
        lt (wrap (v4 + 1)) fun v4_3 =>
        some (.inl (v3, v4_3))
      else
        gd ((0 : Int) ≤ v4 ∧ (v4 : Int) < 400) <|
        lt (M 118 v4.toNat) fun v3_2 =>
        lt (wrap (v4 + 1)) fun v4_4 =>
        some (.inl (v3_2, v4_4))
    else
      lt (wrap (v4 + 1)) fun v4_2 =>
      some (.inl (v3, v4_2))
def f_X11_was_l47 (v1 : Int) (v2 : Int) (M : Mem) (v3 : Int) (v4 : Int) : Option (Int × Int) := whl (fun s => f_X11_was_s47 v1 v2 M s.1 s.2) FU (v3, v4)
def f_X11_was_j92 (v3 : Int) (M : Mem) : Option (Int × Mem) :=
  some (v3, M)
def f_X11_was (p1 : Int) (p2 : Int) (M : Mem) : Option (Int × Mem) :=
  lt (mup M 80 0 0) fun M_2 =>
  obn (f_X11_isChild p1 M_2) fun r =>
  if r = 0 then
    some ((-1), M_2)
  else
    obn (f_X11_within p2 0 (M_2 80 14) M_2) fun r_2 =>
    if r_2 = 0 then
      some ((-1), M_2)
    else
      if p2 = (M_2 80 14) then
        gd ((0 : Int) ≤ p1 ∧ (p1 : Int) < 14) <|
        some ((M_2 110 p1.toNat), M_2)
      else
        obn (f_X11_was_l47 p1 p2 M_2 (-1) 0) fun s => f_X11_was_j92 s.1 M_2
def rm_X11_was : Room := { frames := 2, cells := 0, slots := 0, locals := 43 }
def f_X11_served (p1 : Int) (M : Mem) : Option (Int × Mem) :=
  lt (mup M 80 0 0) fun M_2 =>
  obn (f_X11_isChild p1 M_2) fun r =>
  if r = 0 then
    some ((-1), M_2)
  else
    gd ((0 : Int) ≤ p1 ∧ (p1 : Int) < 14) <|
    if (M_2 110 p1.toNat) = (-1) then
      some ((-1), M_2)
    else
      obn (f_X11_looks M_2) fun M_3 =>
      obn (f_X11_servedIn p1 M_3) fun r_2 =>
      some (r_2, M_3)
def rm_X11_served : Room := { frames := 5, cells := 0, slots := 0, locals := 126 }
def f_X11_harm (p1 : Int) (M : Mem) : Option (Int × Mem) :=
  lt (mup M 80 0 0) fun M_2 =>
  obn (f_X11_listed M_2) fun r =>
  if r = 0 then
    some ((-1), M_2)
  else
    obn (f_X11_within p1 (-1) (wrap ((M_2 80 21) - 1)) M_2) fun r_2 =>
    if r_2 = 0 then
      some ((-1), M_2)
    else
      obn (f_X11_looks M_2) fun M_3 =>
      if p1 = (-1) then
        obn (f_X11_allHarm M_3) fun r_4 =>
        some (r_4, M_3)
      else
        obn (f_X11_harmOf p1 M_3) fun r_3 =>
        some (r_3, M_3)
def rm_X11_harm : Room := { frames := 5, cells := 0, slots := 0, locals := 126 }
def f_X11_allowed (p1 : Int) (M : Mem) : Option (Int × Mem) :=
  lt (mup M 80 0 0) fun M_2 =>
  obn (f_X11_listed M_2) fun r =>
  if r = 0 then
    some ((-1), M_2)
  else
    obn (f_X11_within p1 0 1 M_2) fun r_2 =>
    if r_2 = 0 then
      some ((-1), M_2)
    else
      obn (f_X11_looks M_2) fun M_3 =>
      if p1 = 1 then
        obn (f_X11_lack M_3) fun r_5 =>
        some (r_5, M_3)
      else
        obn (f_X11_isSound M_3) fun r_3 =>
        if r_3 = 0 then
          some (0, M_3)
        else
          obn (f_X11_lack M_3) fun r_4 =>
          if r_4 = 0 then
            some (1, M_3)
          else
            some (0, M_3)
def rm_X11_allowed : Room := { frames := 5, cells := 0, slots := 0, locals := 126 }
def f_X11_isGain (p1 : Int) (p2 : Int) (M : Mem) : Option (Int × Mem) :=
  gd ((0 : Int) ≤ p1 ∧ (p1 : Int) < 14) <|
  if (M 108 p1.toNat) = (-1) then
    some (0, M)
  else
    gd ((0 : Int) ≤ p2 ∧ (p2 : Int) < 14) <|
    if (M 108 p2.toNat) = (-1) then
      some (0, M)
    else
      gd ((0 : Int) ≤ p1 ∧ (p1 : Int) < 14) <|
      gd ((0 : Int) ≤ p2 ∧ (p2 : Int) < 14) <|
      if (M 108 p1.toNat) = (M 108 p2.toNat) then
        some (0, M)
      else
        obn (f_X11_servedIn p1 M) fun r =>
        obn (f_X11_servedIn p2 M) fun r_2 =>
        obn (f_X11_swaps p1 p2 M) fun M_2 =>
        obn (f_X11_servedIn p1 M_2) fun r_3 =>
        if r ≤ r_3 then
          obn (f_X11_swaps p1 p2 M_2) fun M_3 =>
          some (0, M_3)
        else
          obn (f_X11_servedIn p2 M_2) fun r_4 =>
          if r_2 ≤ r_4 then
            obn (f_X11_swaps p1 p2 M_2) fun M_4 =>
            some (0, M_4)
          else
            obn (f_X11_isSound M_2) fun r_5 =>
            if r_5 = 0 then
              obn (f_X11_swaps p1 p2 M_2) fun M_5 =>
              some (0, M_5)
            else
              obn (f_X11_lack M_2) fun r_6 =>
              if r_6 = 0 then
                obn (f_X11_swaps p1 p2 M_2) fun M_7 =>
                some (1, M_7)
              else
                obn (f_X11_swaps p1 p2 M_2) fun M_6 =>
                some (0, M_6)
def rm_X11_isGain : Room := { frames := 3, cells := 0, slots := 0, locals := 71 }
def f_X11_swaps__s25 (v2 : Int) (v1 : Int) (v3 : Int) (M : Mem) : Option ((Int × Int × Mem) ⊕ (Int × Int × Mem)) :=
  if (M 80 1) ≤ v3 then
    some (.inr (v1, v3, M))
  else
    bnd (f_X11_isGain v2 v3 M) fun r M_2 =>
    if r = 0 then
      lt (wrap (v1 + 0)) fun v1_2 =>
      lt (wrap (v3 + 1)) fun v3_2 =>
      some (.inl (v1_2, v3_2, M_2))
    else
      lt (wrap (v1 + 1)) fun v1_3 =>
      lt (wrap (v3 + 1)) fun v3_3 =>
      some (.inl (v1_3, v3_3, M_2))
def f_X11_swaps__l25 (v2 : Int) (v1 : Int) (v3 : Int) (M : Mem) : Option (Int × Int × Mem) := whl (fun s => f_X11_swaps__s25 v2 s.1 s.2.1 s.2.2) FU (v1, v3, M)
def f_X11_swaps__j56k13 (v1 : Int) (v2 : Int) (M : Mem) : Option ((Int × Int × Mem) ⊕ (Int × Int × Mem)) :=
  lt (wrap (v2 + 1)) fun v2_2 =>
  some (.inl (v1, v2_2, M))
def f_X11_swaps__s13 (v1 : Int) (v2 : Int) (M : Mem) : Option ((Int × Int × Mem) ⊕ (Int × Int × Mem)) :=
  if (M 80 1) ≤ v2 then
    some (.inr (v1, v2, M))
  else
    lt (wrap (v2 + 1)) fun v3 =>
    obn (f_X11_swaps__l25 v2 v1 v3 M) fun s => f_X11_swaps__j56k13 s.1 v2 s.2.2
def f_X11_swaps__l13 (v1 : Int) (v2 : Int) (M : Mem) : Option (Int × Int × Mem) := whl (fun s => f_X11_swaps__s13 s.1 s.2.1 s.2.2) FU (v1, v2, M)
def f_X11_swaps__j62 (v1 : Int) (M : Mem) : Option (Int × Mem) :=
  some (v1, M)
def f_X11_swaps_ (M : Mem) : Option (Int × Mem) :=
  lt (mup M 80 0 0) fun M_2 =>
  obn (f_X11_looks M_2) fun M_3 =>
  obn (f_X11_swaps__l13 0 0 M_3) fun s => f_X11_swaps__j62 s.1 s.2.2
def rm_X11_swaps_ : Room := { frames := 5, cells := 0, slots := 0, locals := 126 }
def f_X11_swap_s40 (v2 : Int) (v4 : Int) (v3 : Int) (v5 : Int) (M : Mem) : Option ((Int × Int × Mem) ⊕ ((Int × Int × Mem) ⊕ (Int × Mem))) :=
  if (M 80 1) ≤ v5 then
    some (.inr (.inl (v3, v5, M)))
  else
    bnd (f_X11_isGain v4 v5 M) fun r M_2 =>
    if r = 0 then
      lt (wrap (v5 + 1)) fun v5_3 =>
      some (.inl (v3, v5_3, M_2))
    else
      if v3 = 0 then
        if v2 = 0 then
          some (.inr (.inr (v4, M_2)))
        else
          some (.inr (.inr (v5, M_2)))
      else
        lt (wrap (v3 + (-1))) fun v3_2 =>
        lt (wrap (v5 + 1)) fun v5_2 =>
        some (.inl (v3_2, v5_2, M_2))
def f_X11_swap_l40 (v2 : Int) (v4 : Int) (v3 : Int) (v5 : Int) (M : Mem) : Option ((Int × Int × Mem) ⊕ (Int × Mem)) := whl (fun s => f_X11_swap_s40 v2 v4 s.1 s.2.1 s.2.2) FU (v3, v5, M)
def f_X11_swap_j88k25 (v2 : Int) (v3 : Int) (v4 : Int) (M : Mem) : Option ((Int × Int × Mem) ⊕ ((Int × Int × Mem) ⊕ (Int × Mem))) :=
  lt (wrap (v4 + 1)) fun v4_2 =>
  some (.inl (v3, v4_2, M))
def f_X11_swap_s25 (v2 : Int) (v3 : Int) (v4 : Int) (M : Mem) : Option ((Int × Int × Mem) ⊕ ((Int × Int × Mem) ⊕ (Int × Mem))) :=
  if (M 80 1) ≤ v4 then
    some (.inr (.inl (v3, v4, M)))
  else
    lt (wrap (v4 + 1)) fun v5 =>
    lpr (f_X11_swap_l40 v2 v4 v3 v5 M) (fun s => f_X11_swap_j88k25 v2 s.1 v4 s.2.2) (fun q => some (.inr (.inr q)))
def f_X11_swap_l25 (v2 : Int) (v3 : Int) (v4 : Int) (M : Mem) : Option ((Int × Int × Mem) ⊕ (Int × Mem)) := whl (fun s => f_X11_swap_s25 v2 s.1 s.2.1 s.2.2) FU (v3, v4, M)
def f_X11_swap_j94 (M : Mem) : Option (Int × Mem) :=
  some ((-1), M)
def f_X11_swap (p1 : Int) (p2 : Int) (M : Mem) : Option (Int × Mem) :=
  lt (mup M 80 0 0) fun M_2 =>
  obn (f_X11_within p2 0 1 M_2) fun r =>
  if r = 0 then
    some ((-1), M_2)
  else
    obn (f_X11_looks M_2) fun M_3 =>
    lpr (f_X11_swap_l25 p2 p1 0 M_3) (fun s => f_X11_swap_j94 s.2.2) (fun q => some q)
def rm_X11_swap : Room := { frames := 5, cells := 0, slots := 0, locals := 126 }
def f_X11_thrown (M : Mem) : Option (Int) :=
  some (M 80 0)
def rm_X11_thrown : Room := { frames := 0, cells := 0, slots := 0, locals := 0 }
def f_X11_lonely_s9 (M : Mem) (v2 : Int) (v3 : Int) : Option ((Int × Int) ⊕ ((Int × Int) ⊕ (Int × Mem))) :=
  if (M 80 1) ≤ v3 then
    some (.inr (.inl (v2, v3)))
  else
    obn (f_X11_namedBy v3 M) fun r =>
    if r ≤ 0 then
      if v2 = 0 then
        some (.inr (.inr (v3, M)))
      else
        lt (wrap (v2 + (-1))) fun v2_2 =>
        lt (wrap (v3 + 1)) fun v3_2 =>
        some (.inl (v2_2, v3_2))
    else
      lt (wrap (v3 + 1)) fun v3_3 =>
      some (.inl (v2, v3_3))
def f_X11_lonely_l9 (M : Mem) (v2 : Int) (v3 : Int) : Option ((Int × Int) ⊕ (Int × Mem)) := whl (fun s => f_X11_lonely_s9 M s.1 s.2) FU (v2, v3)
def f_X11_lonely_j43 (M : Mem) : Option (Int × Mem) :=
  some ((-1), M)
def f_X11_lonely (p1 : Int) (M : Mem) : Option (Int × Mem) :=
  lt (mup M 80 0 0) fun M_2 =>
  lpr (f_X11_lonely_l9 M_2 p1 0) (fun s => f_X11_lonely_j43 M_2) (fun q => some q)
def rm_X11_lonely : Room := { frames := 1, cells := 0, slots := 0, locals := 23 }
def f_X11_leads_s2 (v1 : Int) (v2 : Int) (M : Mem) : Option ((Int × Mem) ⊕ (Int × Mem)) :=
  if (M 80 1) ≤ v2 then
    some (.inr (v2, M))
  else
    if v2 = v1 then
      gd ((0 : Int) ≤ v2 ∧ (v2 : Int) < 14) <|
      lt (mup M 111 v2.toNat 1) fun M_3 =>
      lt (wrap (v2 + 1)) fun v2_3 =>
      some (.inl (v2_3, M_3))
    else
      gd ((0 : Int) ≤ v2 ∧ (v2 : Int) < 14) <|
      lt (mup M 111 v2.toNat 0) fun M_2 =>
      lt (wrap (v2 + 1)) fun v2_2 =>
      some (.inl (v2_2, M_2))
def f_X11_leads_l2 (v1 : Int) (v2 : Int) (M : Mem) : Option (Int × Mem) := whl (fun s => f_X11_leads_s2 v1 s.1 s.2) FU (v2, M)
def f_X11_leads_s44 (v2 : Int) (v3 : Int) (M : Mem) : Option ((Int × Mem) ⊕ (Int × Mem)) :=
  if (wrap (3 * (M 80 1))) ≤ v3 then
    some (.inr (v3, M))
  else
    gd ((0 : Int) ≤ (jdiv v3 3) ∧ ((jdiv v3 3) : Int) < 14) <|
    if (M 111 (jdiv v3 3).toNat) = 0 then
      lt (wrap (v3 + 1)) fun v3_2 =>
      some (.inl (v3_2, M))
    else
      gd ((0 : Int) ≤ v3 ∧ (v3 : Int) < 42) <|
      if (M 86 v3.toNat) = (-1) then
        lt (wrap (v3 + 1)) fun v3_3 =>
        some (.inl (v3_3, M))
      else
        gd ((0 : Int) ≤ v3 ∧ (v3 : Int) < 42) <|
        gd ((0 : Int) ≤ (M 86 v3.toNat) ∧ ((M 86 v3.toNat) : Int) < 14) <|
        lt (mup M 111 (M 86 v3.toNat).toNat 1) fun M_2 =>
        lt (wrap (v3 + 1)) fun v3_4 =>
        some (.inl (v3_4, M_2))
def f_X11_leads_l44 (v2 : Int) (v3 : Int) (M : Mem) : Option (Int × Mem) := whl (fun s => f_X11_leads_s44 v2 s.1 s.2) FU (v3, M)
def f_X11_leads_j93k34 (v2 : Int) (M : Mem) : Option ((Int × Mem) ⊕ (Int × Mem)) :=
  lt (wrap (v2 + 1)) fun v2_2 =>
  some (.inl (v2_2, M))
def f_X11_leads_s34 (v2 : Int) (M : Mem) : Option ((Int × Mem) ⊕ (Int × Mem)) :=
  if (M 80 1) ≤ v2 then
    some (.inr (v2, M))
  else
    obn (f_X11_leads_l44 v2 0 M) fun s => f_X11_leads_j93k34 v2 s.2
def f_X11_leads_l34 (v2 : Int) (M : Mem) : Option (Int × Mem) := whl (fun s => f_X11_leads_s34 s.1 s.2) FU (v2, M)
def f_X11_leads_j99 (M : Mem) : Option (Mem) :=
  some M
def f_X11_leads_j32 (M : Mem) : Option (Mem) :=
  obn (f_X11_leads_l34 0 M) fun s => f_X11_leads_j99 s.2
def f_X11_leads (p1 : Int) (M : Mem) : Option (Mem) :=
  obn (f_X11_leads_l2 p1 0 M) fun s => f_X11_leads_j32 s.2
def rm_X11_leads : Room := { frames := 0, cells := 0, slots := 0, locals := 0 }
def f_X11_ring_s17 (v1 : Int) (v2 : Int) (M : Mem) : Option ((Int × Mem) ⊕ ((Int × Mem) ⊕ (Int × Mem))) :=
  if v1 ≤ v2 then
    some (.inr (.inl (v2, M)))
  else
    obn (f_X11_leads v2 M) fun M_2 =>
    gd ((0 : Int) ≤ v1 ∧ (v1 : Int) < 14) <|
    lt (M_2 111 v1.toNat) fun v3 =>
    obn (f_X11_leads v1 M_2) fun M_3 =>
    if v3 = 0 then
      lt (wrap (v2 + 1)) fun v2_2 =>
      some (.inl (v2_2, M_3))
    else
      gd ((0 : Int) ≤ v2 ∧ (v2 : Int) < 14) <|
      if (M_3 111 v2.toNat) = 0 then
        lt (wrap (v2 + 1)) fun v2_3 =>
        some (.inl (v2_3, M_3))
      else
        some (.inr (.inr (v2, M_3)))
def f_X11_ring_l17 (v1 : Int) (v2 : Int) (M : Mem) : Option ((Int × Mem) ⊕ (Int × Mem)) := whl (fun s => f_X11_ring_s17 v1 s.1 s.2) FU (v2, M)
def f_X11_ring_j60 (v1 : Int) (M : Mem) : Option (Int × Mem) :=
  some (v1, M)
def f_X11_ring (p1 : Int) (M : Mem) : Option (Int × Mem) :=
  lt (mup M 80 0 0) fun M_2 =>
  obn (f_X11_isChild p1 M_2) fun r =>
  if r = 0 then
    some ((-1), M_2)
  else
    lpr (f_X11_ring_l17 p1 0 M_2) (fun s => f_X11_ring_j60 p1 s.2) (fun q => some q)
def rm_X11_ring : Room := { frames := 2, cells := 0, slots := 0, locals := 43 }
def f_X11_helper (p1 : Int) (M : Mem) : Option (Int × Mem) :=
  lt (mup M 80 0 0) fun M_2 =>
  obn (f_X11_within p1 1 60 M_2) fun r =>
  if r = 0 then
    some ((-1), M_2)
  else
    if (M_2 80 50) = 6 then
      some ((-1), M_2)
    else
      gd ((0 : Int) ≤ (M_2 80 50) ∧ ((M_2 80 50) : Int) < 6) <|
      lt (mup M_2 112 (M_2 80 50).toNat p1) fun M_3 =>
      lt (mup M_3 80 50 (wrap ((M_3 80 50) + 1))) fun M_4 =>
      some ((wrap ((M_4 80 50) - 1)), M_4)
def rm_X11_helper : Room := { frames := 1, cells := 0, slots := 0, locals := 22 }
def f_X11_lacking_s18 (v1 : Int) (v2 : Int) (v3 : Int) (M : Mem) (v4 : Int) (v5 : Int) : Option ((Int × Int) ⊕ (Int × Int)) :=
  if (M 80 1) ≤ v5 then
    some (.inr (v4, v5))
  else
    gd ((0 : Int) ≤ v5 ∧ (v5 : Int) < 14) <|
    if (M 110 v5.toNat) = v3 then
      gd ((0 : Int) ≤ (wrap ((wrap (7 * v5)) + 3)) ∧ ((wrap ((wrap (7 * v5)) + 3)) : Int) < 98) <|
      lt (wrap (v4 + (M 106 (wrap ((wrap (7 * v5)) + 3)).toNat))) fun v4_3 =>
      lt (wrap (v5 + 1)) fun v5_3 =>
      some (.inl (v4_3, v5_3))
    else
      lt (wrap (v4 + 0)) fun v4_2 =>
      lt (wrap (v5 + 1)) fun v5_2 =>
      some (.inl (v4_2, v5_2))
def f_X11_lacking_l18 (v1 : Int) (v2 : Int) (v3 : Int) (M : Mem) (v4 : Int) (v5 : Int) : Option (Int × Int) := whl (fun s => f_X11_lacking_s18 v1 v2 v3 M s.1 s.2) FU (v4, v5)
def f_X11_lacking_j105k76 (v1 : Int) (v2 : Int) (v3 : Int) (v4 : Int) (v5 : Int) (v6 : Int) (s0 : Int) (s1 : Int) (M : Mem) : Option ((Int × Int × Int) ⊕ (Int × Int × Int)) :=
  lt (wrap (s1 - s0)) fun v4_2 =>
  gd (¬ (M 80 12) = 0) <|
  lt (jdiv v5 (M 80 12)) fun v5_2 =>
  lt (wrap (v6 + (-1))) fun v6_2 =>
  some (.inl (v4_2, v5_2, v6_2))
def f_X11_lacking_s76 (v1 : Int) (v2 : Int) (v3 : Int) (M : Mem) (v4 : Int) (v5 : Int) (v6 : Int) : Option ((Int × Int × Int) ⊕ (Int × Int × Int)) :=
  if v6 < 0 then
    some (.inr (v4, v5, v6))
  else
    gd (¬ (M 80 12) = 0) <|
    if (jrem v5 (M 80 12)) = v3 then
      gd ((0 : Int) ≤ v6 ∧ (v6 : Int) < 6) <|
      f_X11_lacking_j105k76 v1 v2 v3 v4 v5 v6 (M 112 v6.toNat) v4 M
    else
      f_X11_lacking_j105k76 v1 v2 v3 v4 v5 v6 0 v4 M
def f_X11_lacking_l76 (v1 : Int) (v2 : Int) (v3 : Int) (M : Mem) (v4 : Int) (v5 : Int) (v6 : Int) : Option (Int × Int × Int) := whl (fun s => f_X11_lacking_s76 v1 v2 v3 M s.1 s.2.1 s.2.2) FU (v4, v5, v6)
def f_X11_lacking_j123k4 (v1 : Int) (v2 : Int) (v3 : Int) (v4 : Int) (M : Mem) : Option ((Int × Int) ⊕ (Int × Int)) :=
  if v4 ≤ 0 then
    lt (wrap (v2 + 0)) fun v2_2 =>
    lt (wrap (v3 + 1)) fun v3_2 =>
    some (.inl (v2_2, v3_2))
  else
    lt (wrap (v2 + v4)) fun v2_3 =>
    lt (wrap (v3 + 1)) fun v3_3 =>
    some (.inl (v2_3, v3_3))
def f_X11_lacking_j65k4 (v1 : Int) (v2 : Int) (v3 : Int) (v4 : Int) (M : Mem) : Option ((Int × Int) ⊕ (Int × Int)) :=
  lt (wrap ((M 80 50) - 1)) fun v6 =>
  obn (f_X11_lacking_l76 v1 v2 v3 M v4 v1 v6) fun s => f_X11_lacking_j123k4 v1 v2 v3 s.1 M
def f_X11_lacking_s4 (v1 : Int) (M : Mem) (v2 : Int) (v3 : Int) : Option ((Int × Int) ⊕ (Int × Int)) :=
  if (M 80 12) ≤ v3 then
    some (.inr (v2, v3))
  else
    obn (f_X11_lacking_l18 v1 v2 v3 M 0 0) fun s => f_X11_lacking_j65k4 v1 v2 v3 s.1 M
def f_X11_lacking_l4 (v1 : Int) (M : Mem) (v2 : Int) (v3 : Int) : Option (Int × Int) := whl (fun s => f_X11_lacking_s4 v1 M s.1 s.2) FU (v2, v3)
def f_X11_lacking_j143 (v2 : Int) (M : Mem) : Option (Int) :=
  some v2
def f_X11_lacking (p1 : Int) (M : Mem) : Option (Int) :=
  obn (f_X11_lacking_l4 p1 M 0 0) fun s => f_X11_lacking_j143 s.1 M
def rm_X11_lacking : Room := { frames := 0, cells := 0, slots := 0, locals := 0 }
def f_X11_help_s40 (v1 : Int) (M : Mem) (v2 : Int) (v3 : Int) : Option ((Int × Int) ⊕ (Int × Int)) :=
  if (M 80 50) ≤ v3 then
    some (.inr (v2, v3))
  else
    lt (wrap (v2 * (M 80 12))) fun v2_2 =>
    lt (wrap (v3 + 1)) fun v3_2 =>
    some (.inl (v2_2, v3_2))
def f_X11_help_l40 (v1 : Int) (M : Mem) (v2 : Int) (v3 : Int) : Option (Int × Int) := whl (fun s => f_X11_help_s40 v1 M s.1 s.2) FU (v2, v3)
def f_X11_help_s71 (v1 : Int) (v2 : Int) (M : Mem) (v3 : Int) (v4 : Int) (v5 : Int) : Option ((Int × Int × Int) ⊕ (Int × Int × Int)) :=
  if v2 ≤ v5 then
    some (.inr (v3, v4, v5))
  else
    obn (f_X11_lacking v5 M) fun r =>
    if r < v3 then
      lt (wrap (v5 + 1)) fun v5_2 =>
      some (.inl (r, v5, v5_2))
    else
      lt (wrap (v5 + 1)) fun v5_3 =>
      some (.inl (v3, v4, v5_3))
def f_X11_help_l71 (v1 : Int) (v2 : Int) (M : Mem) (v3 : Int) (v4 : Int) (v5 : Int) : Option (Int × Int × Int) := whl (fun s => f_X11_help_s71 v1 v2 M s.1 s.2.1 s.2.2) FU (v3, v4, v5)
def f_X11_help_s122 (v1 : Int) (v4 : Int) (v5 : Int) (M : Mem) : Option ((Int × Int × Mem) ⊕ (Int × Int × Mem)) :=
  if v5 < 0 then
    some (.inr (v4, v5, M))
  else
    gd (¬ (M 80 12) = 0) <|
    gd ((0 : Int) ≤ v5 ∧ (v5 : Int) < 6) <|
    lt (mup M 113 v5.toNat (jrem v4 (M 80 12))) fun M_2 =>
    gd (¬ (M_2 80 12) = 0) <|
    lt (jdiv v4 (M_2 80 12)) fun v4_2 =>
    lt (wrap (v5 + (-1))) fun v5_2 =>
    some (.inl (v4_2, v5_2, M_2))
def f_X11_help_l122 (v1 : Int) (v4 : Int) (v5 : Int) (M : Mem) : Option (Int × Int × Mem) := whl (fun s => f_X11_help_s122 v1 s.1 s.2.1 s.2.2) FU (v4, v5, M)
def f_X11_help_j156 (v1 : Int) (M : Mem) : Option (Int × Mem) :=
  gd ((0 : Int) ≤ v1 ∧ (v1 : Int) < 6) <|
  some ((M 113 v1.toNat), M)
def f_X11_help_j107 (v1 : Int) (v3 : Int) (v4 : Int) (M : Mem) : Option (Int × Mem) :=
  if v1 = (-1) then
    some (v3, M)
  else
    lt (wrap ((M 80 50) - 1)) fun v5 =>
    obn (f_X11_help_l122 v1 v4 v5 M) fun s => f_X11_help_j156 v1 s.2.2
def f_X11_help_j61 (v1 : Int) (v2 : Int) (M : Mem) : Option (Int × Mem) :=
  obn (f_X11_help_l71 v1 v2 M 1000000000 0 0) fun s => f_X11_help_j107 v1 s.1 s.2.1 M
def f_X11_help (p1 : Int) (M : Mem) : Option (Int × Mem) :=
  lt (mup M 80 0 0) fun M_2 =>
  obn (f_X11_listed M_2) fun r =>
  if r = 0 then
    some ((-1), M_2)
  else
    obn (f_X11_within p1 (-1) (wrap ((M_2 80 50) - 1)) M_2) fun r_2 =>
    if r_2 = 0 then
      some ((-1), M_2)
    else
      obn (f_X11_learns (M_2 80 14) M_2) fun M_3 =>
      obn (f_X11_help_l40 p1 M_3 1 0) fun s => f_X11_help_j61 p1 s.1 M_3
def rm_X11_help : Room := { frames := 4, cells := 0, slots := 0, locals := 105 }
def f_X11_word (p1 : Int) (p2 : Int) (p3 : Int) (M : Mem) : Option (Int × Mem) :=
  lt (mup M 80 0 0) fun M_2 =>
  obn (f_X11_isChild p1 M_2) fun r =>
  if r = 0 then
    some (0, M_2)
  else
    gd ((0 : Int) ≤ p1 ∧ (p1 : Int) < 14) <|
    if (M_2 110 p1.toNat) = (-1) then
      some (0, M_2)
    else
      obn (f_X11_within p2 0 10 M_2) fun r_2 =>
      if r_2 = 0 then
        some (0, M_2)
      else
        obn (f_X11_within p3 0 5 M_2) fun r_3 =>
        if r_3 = 0 then
          some (0, M_2)
        else
          gd ((0 : Int) ≤ p1 ∧ (p1 : Int) < 14) <|
          lt (mup M_2 114 p1.toNat p2) fun M_3 =>
          gd ((0 : Int) ≤ p1 ∧ (p1 : Int) < 14) <|
          lt (mup M_3 115 p1.toNat p3) fun M_4 =>
          some (1, M_4)
def rm_X11_word : Room := { frames := 2, cells := 0, slots := 0, locals := 43 }
def f_X11_isLow (p1 : Int) (M : Mem) : Option (Int) :=
  gd ((0 : Int) ≤ p1 ∧ (p1 : Int) < 14) <|
  if (M 114 p1.toNat) = (-1) then
    some 0
  else
    gd ((0 : Int) ≤ p1 ∧ (p1 : Int) < 14) <|
    gd ((0 : Int) ≤ p1 ∧ (p1 : Int) < 14) <|
    if 5 ≤ (wrap ((M 114 p1.toNat) + (M 115 p1.toNat))) then
      some 0
    else
      some 1
def rm_X11_isLow : Room := { frames := 0, cells := 0, slots := 0, locals := 0 }
def f_X11_close_j107k32 (v1 : Int) (v2 : Int) (v3 : Int) (s0 : Int) (M : Mem) : Option ((Int × Mem) ⊕ (Int × Mem)) :=
  if s0 = 0 then
    lt (wrap (v3 + 1)) fun v3_2 =>
    some (.inl (v3_2, M))
  else
    gd ((0 : Int) ≤ (wrap ((wrap (14 * v2)) + v3)) ∧ ((wrap ((wrap (14 * v2)) + v3)) : Int) < 196) <|
    gd ((0 : Int) ≤ (wrap ((wrap (14 * v2)) + v3)) ∧ ((wrap ((wrap (14 * v2)) + v3)) : Int) < 196) <|
    lt (mup M 87 (wrap ((wrap (14 * v2)) + v3)).toNat (wrap ((M 87 (wrap ((wrap (14 * v2)) + v3)).toNat) + 1))) fun M_2 =>
    lt (wrap (v3 + 1)) fun v3_3 =>
    some (.inl (v3_3, M_2))
def f_X11_close_s32 (v1 : Int) (v2 : Int) (v3 : Int) (M : Mem) : Option ((Int × Mem) ⊕ (Int × Mem)) :=
  if (M 80 1) ≤ v3 then
    some (.inr (v3, M))
  else
    if v2 = v3 then
      f_X11_close_j107k32 v1 v2 v3 0 M
    else
      gd ((0 : Int) ≤ v2 ∧ (v2 : Int) < 14) <|
      if (M 110 v2.toNat) = (-1) then
        f_X11_close_j107k32 v1 v2 v3 0 M
      else
        gd ((0 : Int) ≤ v2 ∧ (v2 : Int) < 14) <|
        gd ((0 : Int) ≤ v3 ∧ (v3 : Int) < 14) <|
        if (M 110 v2.toNat) = (M 110 v3.toNat) then
          obn (f_X11_isLow v2 M) fun r =>
          if r = 0 then
            f_X11_close_j107k32 v1 v2 v3 0 M
          else
            obn (f_X11_isLow v3 M) fun r_2 =>
            if r_2 = 0 then
              f_X11_close_j107k32 v1 v2 v3 0 M
            else
              gd ((0 : Int) ≤ (wrap ((wrap (14 * v2)) + v3)) ∧ ((wrap ((wrap (14 * v2)) + v3)) : Int) < 196) <|
              if 99 ≤ (M 87 (wrap ((wrap (14 * v2)) + v3)).toNat) then
                f_X11_close_j107k32 v1 v2 v3 0 M
              else
                f_X11_close_j107k32 v1 v2 v3 1 M
        else
          f_X11_close_j107k32 v1 v2 v3 0 M
def f_X11_close_l32 (v1 : Int) (v2 : Int) (v3 : Int) (M : Mem) : Option (Int × Mem) := whl (fun s => f_X11_close_s32 v1 v2 s.1 s.2) FU (v3, M)
def f_X11_close_j173k22 (v1 : Int) (v2 : Int) (v3 : Int) (s0 : Int) (s1 : Int) (M : Mem) : Option ((Int × Int × Mem) ⊕ (Int × Int × Mem)) :=
  lt (wrap (s1 + s0)) fun v1_2 =>
  if v3 = 0 then
    gd ((0 : Int) ≤ v2 ∧ (v2 : Int) < 14) <|
    lt (mup M 85 v2.toNat 0) fun M_4 =>
    lt (wrap (v2 + 1)) fun v2_4 =>
    some (.inl (v1_2, v2_4, M_4))
  else
    gd ((0 : Int) ≤ v2 ∧ (v2 : Int) < 14) <|
    if 99 ≤ (M 85 v2.toNat) then
      gd ((0 : Int) ≤ v2 ∧ (v2 : Int) < 14) <|
      lt (mup M 85 v2.toNat 99) fun M_2 =>
      lt (wrap (v2 + 1)) fun v2_2 =>
      some (.inl (v1_2, v2_2, M_2))
    else
      gd ((0 : Int) ≤ v2 ∧ (v2 : Int) < 14) <|
      gd ((0 : Int) ≤ v2 ∧ (v2 : Int) < 14) <|
      lt (mup M 85 v2.toNat (wrap ((M 85 v2.toNat) + 1))) fun M_3 =>
      lt (wrap (v2 + 1)) fun v2_3 =>
      some (.inl (v1_2, v2_3, M_3))
def f_X11_close_j162k22 (v1 : Int) (v2 : Int) (s0 : Int) (M : Mem) : Option ((Int × Int × Mem) ⊕ (Int × Int × Mem)) :=
  if s0 = 0 then
    f_X11_close_j173k22 v1 v2 s0 0 v1 M
  else
    f_X11_close_j173k22 v1 v2 s0 1 v1 M
def f_X11_close_j135k22 (v1 : Int) (v2 : Int) (M : Mem) : Option ((Int × Int × Mem) ⊕ (Int × Int × Mem)) :=
  gd ((0 : Int) ≤ v2 ∧ (v2 : Int) < 14) <|
  if (M 110 v2.toNat) = (-1) then
    lt (wrap (v2 + 1)) fun v2_2 =>
    some (.inl (v1, v2_2, M))
  else
    obn (f_X11_servedIn v2 M) fun r =>
    if r = 3 then
      f_X11_close_j162k22 v1 v2 1 M
    else
      f_X11_close_j162k22 v1 v2 0 M
def f_X11_close_s22 (v1 : Int) (v2 : Int) (M : Mem) : Option ((Int × Int × Mem) ⊕ (Int × Int × Mem)) :=
  if (M 80 1) ≤ v2 then
    some (.inr (v1, v2, M))
  else
    obn (f_X11_close_l32 v1 v2 0 M) fun s => f_X11_close_j135k22 v1 v2 s.2
def f_X11_close_l22 (v1 : Int) (v2 : Int) (M : Mem) : Option (Int × Int × Mem) := whl (fun s => f_X11_close_s22 s.1 s.2.1 s.2.2) FU (v1, v2, M)
def f_X11_close_s221 (v1 : Int) (v2 : Int) (M : Mem) : Option ((Int × Mem) ⊕ (Int × Mem)) :=
  if (M 80 1) ≤ v2 then
    some (.inr (v2, M))
  else
    gd ((0 : Int) ≤ v2 ∧ (v2 : Int) < 14) <|
    lt (mup M 110 v2.toNat (-1)) fun M_2 =>
    gd ((0 : Int) ≤ v2 ∧ (v2 : Int) < 14) <|
    lt (mup M_2 114 v2.toNat (-1)) fun M_3 =>
    gd ((0 : Int) ≤ v2 ∧ (v2 : Int) < 14) <|
    lt (mup M_3 115 v2.toNat (-1)) fun M_4 =>
    lt (wrap (v2 + 1)) fun v2_2 =>
    some (.inl (v2_2, M_4))
def f_X11_close_l221 (v1 : Int) (v2 : Int) (M : Mem) : Option (Int × Mem) := whl (fun s => f_X11_close_s221 v1 s.1 s.2) FU (v2, M)
def f_X11_close_j256 (v1 : Int) (M : Mem) : Option (Int × Mem) :=
  lt (mup M 80 55 (wrap ((M 80 55) + 1))) fun M_2 =>
  lt (mup M_2 80 43 0) fun M_3 =>
  some (v1, M_3)
def f_X11_close_j219 (v1 : Int) (M : Mem) : Option (Int × Mem) :=
  obn (f_X11_close_l221 v1 0 M) fun s => f_X11_close_j256 v1 s.2
def f_X11_close (M : Mem) : Option (Int × Mem) :=
  lt (mup M 80 0 0) fun M_2 =>
  obn (f_X11_listed M_2) fun r =>
  if r = 0 then
    some ((-1), M_2)
  else
    obn (f_X11_looks M_2) fun M_3 =>
    obn (f_X11_close_l22 0 0 M_3) fun s => f_X11_close_j219 s.1 s.2.2
def rm_X11_close : Room := { frames := 5, cells := 0, slots := 0, locals := 126 }
def f_X11_regret (p1 : Int) (p2 : Int) (M : Mem) : Option (Int × Mem) :=
  lt (mup M 80 0 0) fun M_2 =>
  obn (f_X11_areTwo p1 p2 M_2) fun r =>
  if r = 0 then
    some ((-1), M_2)
  else
    gd ((0 : Int) ≤ (wrap ((wrap (14 * p1)) + p2)) ∧ ((wrap ((wrap (14 * p1)) + p2)) : Int) < 196) <|
    some ((M_2 87 (wrap ((wrap (14 * p1)) + p2)).toNat), M_2)
def rm_X11_regret : Room := { frames := 3, cells := 0, slots := 0, locals := 65 }
def f_X11_scaled (p1 : Int) (p2 : Int) (p3 : Int) (p4 : Int) (M : Mem) : Option (Int × Mem) :=
  lt (mup M 80 0 0) fun M_2 =>
  obn (f_X11_within p1 (-1) 3 M_2) fun r =>
  if r = 0 then
    some ((-1), M_2)
  else
    obn (f_X11_isChild p2 M_2) fun r_2 =>
    if r_2 = 0 then
      some ((-1), M_2)
    else
      obn (f_X11_within p3 0 1 M_2) fun r_3 =>
      if r_3 = 0 then
        some ((-1), M_2)
      else
        obn (f_X11_within p4 0 (M_2 80 14) M_2) fun r_4 =>
        if r_4 = 0 then
          some ((-1), M_2)
        else
          if p1 = (-1) then
            obn (f_X11_together p2 p3 p4 M_2) fun r_6 =>
            some (r_6, M_2)
          else
            obn (f_X11_scaledOf p1 p2 p3 p4 M_2) fun r_5 =>
            some (r_5, M_2)
def rm_X11_scaled : Room := { frames := 3, cells := 0, slots := 0, locals := 82 }
def f_X11_many_s5 (p1 : Nat) (v2 : Int) (M : Mem) (v3 : Int) (v4 : Int) : Option ((Int × Int) ⊕ (Int × Int)) :=
  if (M 80 1) ≤ v4 then
    some (.inr (v3, v4))
  else
    gd ((0 : Int) ≤ (wrap ((wrap (14 * v2)) + v4)) ∧ ((wrap ((wrap (14 * v2)) + v4)) : Int) < (aln p1 : Int)) <|
    if (M p1 (wrap ((wrap (14 * v2)) + v4)).toNat) = 0 then
      lt (wrap (v3 + 0)) fun v3_2 =>
      lt (wrap (v4 + 1)) fun v4_2 =>
      some (.inl (v3_2, v4_2))
    else
      lt (wrap (v3 + 1)) fun v3_3 =>
      lt (wrap (v4 + 1)) fun v4_3 =>
      some (.inl (v3_3, v4_3))
def f_X11_many_l5 (p1 : Nat) (v2 : Int) (M : Mem) (v3 : Int) (v4 : Int) : Option (Int × Int) := whl (fun s => f_X11_many_s5 p1 v2 M s.1 s.2) FU (v3, v4)
def f_X11_many_j40 (p1 : Nat) (v3 : Int) (M : Mem) : Option (Int) :=
  some v3
def f_X11_many (p1 : Nat) (p2 : Int) (M : Mem) : Option (Int) :=
  obn (f_X11_many_l5 p1 p2 M 0 0) fun s => f_X11_many_j40 p1 s.1 M
def rm_X11_many : Room := { frames := 0, cells := 0, slots := 0, locals := 0 }
def f_X11_of_j34 (v1 : Int) (v2 : Int) (v3 : Int) (s0 : Int) (M : Mem) : Option (Int × Mem) :=
  lt (mup M 80 0 s0) fun M_2 =>
  if v3 = 0 then
    some (0, M_2)
  else
    if v2 < 0 ∨ 11 < v2 then
      gd ((0 : Int) ≤ v1 ∧ (v1 : Int) < 14) <|
      some ((M_2 115 v1.toNat), M_2)
    else if v2 = 0 then
      gd ((0 : Int) ≤ v1 ∧ (v1 : Int) < 14) <|
      some ((M_2 81 v1.toNat), M_2)
    else if v2 = 1 then
      gd ((0 : Int) ≤ v1 ∧ (v1 : Int) < 14) <|
      some ((M_2 82 v1.toNat), M_2)
    else if v2 = 2 then
      gd ((0 : Int) ≤ v1 ∧ (v1 : Int) < 14) <|
      some ((M_2 84 v1.toNat), M_2)
    else if v2 = 3 then
      gd ((0 : Int) ≤ v1 ∧ (v1 : Int) < 14) <|
      some ((M_2 85 v1.toNat), M_2)
    else if v2 = 4 then
      gd ((0 : Int) ≤ (wrap ((wrap ((wrap (3 * v1)) + v2)) - 4)) ∧ ((wrap ((wrap ((wrap (3 * v1)) + v2)) - 4)) : Int) < 42) <|
      some ((M_2 86 (wrap ((wrap ((wrap (3 * v1)) + v2)) - 4)).toNat), M_2)
    else if v2 = 5 then
      gd ((0 : Int) ≤ (wrap ((wrap ((wrap (3 * v1)) + v2)) - 4)) ∧ ((wrap ((wrap ((wrap (3 * v1)) + v2)) - 4)) : Int) < 42) <|
      some ((M_2 86 (wrap ((wrap ((wrap (3 * v1)) + v2)) - 4)).toNat), M_2)
    else if v2 = 6 then
      gd ((0 : Int) ≤ (wrap ((wrap ((wrap (3 * v1)) + v2)) - 4)) ∧ ((wrap ((wrap ((wrap (3 * v1)) + v2)) - 4)) : Int) < 42) <|
      some ((M_2 86 (wrap ((wrap ((wrap (3 * v1)) + v2)) - 4)).toNat), M_2)
    else if v2 = 7 then
      gd ((0 : Int) ≤ v1 ∧ (v1 : Int) < 14) <|
      some ((M_2 83 v1.toNat), M_2)
    else if v2 = 8 then
      obn (f_X11_many 89 v1 M_2) fun r =>
      some (r, M_2)
    else if v2 = 9 then
      obn (f_X11_many 88 v1 M_2) fun r_2 =>
      some (r_2, M_2)
    else if v2 = 10 then
      obn (f_X11_namedBy v1 M_2) fun r_3 =>
      some (r_3, M_2)
    else if v2 = 11 then
      gd ((0 : Int) ≤ v1 ∧ (v1 : Int) < 14) <|
      some ((M_2 114 v1.toNat), M_2)
    else none
def f_X11_of_j23 (v1 : Int) (v2 : Int) (s0 : Int) (M : Mem) : Option (Int × Mem) :=
  if s0 = 0 then
    f_X11_of_j34 v1 v2 s0 1 M
  else
    f_X11_of_j34 v1 v2 s0 0 M
def f_X11_of (p1 : Int) (p2 : Int) (M : Mem) : Option (Int × Mem) :=
  obn (f_X11_isChild p1 M) fun r =>
  if r = 0 then
    f_X11_of_j23 p1 p2 0 M
  else
    obn (f_X11_within p2 0 12 M) fun r_2 =>
    if r_2 = 0 then
      f_X11_of_j23 p1 p2 0 M
    else
      f_X11_of_j23 p1 p2 1 M
def rm_X11_of : Room := { frames := 2, cells := 0, slots := 0, locals := 43 }
def f_X11_count_s153 (v1 : Int) (M : Mem) (v2 : Int) (v3 : Int) : Option ((Int × Int) ⊕ (Int × Int)) :=
  if (M 80 1) ≤ v3 then
    some (.inr (v2, v3))
  else
    gd ((0 : Int) ≤ v3 ∧ (v3 : Int) < 14) <|
    if (M 110 v3.toNat) = (wrap (v1 - 10)) then
      lt (wrap (v2 + 1)) fun v2_3 =>
      lt (wrap (v3 + 1)) fun v3_3 =>
      some (.inl (v2_3, v3_3))
    else
      lt (wrap (v2 + 0)) fun v2_2 =>
      lt (wrap (v3 + 1)) fun v3_2 =>
      some (.inl (v2_2, v3_2))
def f_X11_count_l153 (v1 : Int) (M : Mem) (v2 : Int) (v3 : Int) : Option (Int × Int) := whl (fun s => f_X11_count_s153 v1 M s.1 s.2) FU (v2, v3)
def f_X11_count_j188 (v2 : Int) (M : Mem) : Option (Int × Mem) :=
  some (v2, M)
def f_X11_count (p1 : Int) (M : Mem) : Option (Int × Mem) :=
  lt (mup M 80 0 0) fun M_2 =>
  if p1 < 0 ∨ 9 < p1 then
    obn (f_X11_within p1 20 22 M_2) fun r =>
    if r = 0 then
      obn (f_X11_within p1 10 (wrap (9 + (M_2 80 12))) M_2) fun r_2 =>
      if r_2 = 0 then
        some ((-1), M_2)
      else
        obn (f_X11_count_l153 p1 M_2 0 0) fun s => f_X11_count_j188 s.1 M_2
    else
      gd ((0 : Int) ≤ (wrap (p1 - 20)) ∧ ((wrap (p1 - 20)) : Int) < 3) <|
      some ((M_2 91 (wrap (p1 - 20)).toNat), M_2)
  else if p1 = 0 then
    some ((M_2 80 1), M_2)
  else if p1 = 1 then
    some ((M_2 80 12), M_2)
  else if p1 = 2 then
    some ((M_2 80 14), M_2)
  else if p1 = 3 then
    some ((M_2 80 15), M_2)
  else if p1 = 4 then
    some ((M_2 80 32), M_2)
  else if p1 = 5 then
    obn (f_X11_listed M_2) fun r_3 =>
    some (r_3, M_2)
  else if p1 = 6 then
    some ((M_2 80 55), M_2)
  else if p1 = 7 then
    some ((M_2 80 21), M_2)
  else if p1 = 8 then
    some ((M_2 80 50), M_2)
  else if p1 = 9 then
    some ((M_2 80 56), M_2)
  else none
def rm_X11_count : Room := { frames := 1, cells := 0, slots := 0, locals := 22 }
end
