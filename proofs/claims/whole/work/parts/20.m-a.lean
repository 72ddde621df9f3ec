def f_J6_bitCount_0f7a4 (p0 : Int) (M : Mem) : Option (Int) :=
  lt (wrap (p0 - (band (bushr p0 1) 1431655765))) fun v0 =>
  lt (wrap ((band v0 858993459) + (band (bushr v0 2) 858993459))) fun v0_2 =>
  lt (band (wrap (v0_2 + (bushr v0_2 4))) 252645135) fun v0_3 =>
  lt (wrap (v0_3 + (bushr v0_3 8))) fun v0_4 =>
  lt (wrap (v0_4 + (bushr v0_4 16))) fun v0_5 =>
  some (band v0_5 63)
def rm_J6_bitCount_0f7a4 : Room := { frames := 0, cells := 0, slots := 0, locals := 0 }
def f_J7_fill_53178_s5 (p0 : Nat) (v1 : Int) (v3 : Int) (v2 : Int) (M : Mem) : Option ((Int × Mem) ⊕ (Int × Mem)) :=
  if v3 ≤ v2 then
    some (.inr (v2, M))
  else
    gd (0 ≤ v2 ∧ v2 < (aln p0 : Int)) <|
    lt (mup M p0 v2.toNat v1) fun M_2 =>
    lt (wrap (v2 + 1)) fun v2_2 =>
    some (.inl (v2_2, M_2))
def f_J7_fill_53178_l5 (p0 : Nat) (v1 : Int) (v3 : Int) (v2 : Int) (M : Mem) : Option (Int × Mem) := whl (fun s => f_J7_fill_53178_s5 p0 v1 v3 s.1 s.2) FU (v2, M)
def f_J7_fill_53178_j20 (p0 : Nat) (M : Mem) : Option (Mem) :=
  some M
def f_J7_fill_53178 (p0 : Nat) (p1 : Int) (M : Mem) : Option (Mem) :=
  lt ((aln p0 : Int)) fun v3 =>
  obn (f_J7_fill_53178_l5 p0 p1 v3 0 M) fun s => f_J7_fill_53178_j20 p0 s.2
def rm_J7_fill_53178 : Room := { frames := 0, cells := 0, slots := 0, locals := 0 }
def f_X1_has (p1 : Int) (M : Mem) : Option (Int) :=
  if p1 < 0 then
    some 0
  else
    if (M 3 0) ≤ p1 then
      some 0
    else
      some 1
def rm_X1_has : Room := { frames := 0, cells := 0, slots := 0, locals := 0 }
def f_X1_cameBy_s4 (v1 : Int) (M : Mem) (v2 : Int) (v3 : Int) : Option ((Int × Int) ⊕ (Int × Int)) :=
  if (M 3 0) ≤ v3 then
    some (.inr (v2, v3))
  else
    gd (0 ≤ v3 ∧ v3 < 14) <|
    if v1 < (M 7 v3.toNat) then
      lt (wrap (v3 + 1)) fun v3_2 =>
      some (.inl (v2, v3_2))
    else
      lt (wrap (v2 + 1)) fun v2_2 =>
      lt (wrap (v3 + 1)) fun v3_3 =>
      some (.inl (v2_2, v3_3))
def f_X1_cameBy_l4 (v1 : Int) (M : Mem) (v2 : Int) (v3 : Int) : Option (Int × Int) := whl (fun s => f_X1_cameBy_s4 v1 M s.1 s.2) FU (v2, v3)
def f_X1_cameBy_j31 (v2 : Int) (M : Mem) : Option (Int) :=
  some v2
def f_X1_cameBy (p1 : Int) (M : Mem) : Option (Int) :=
  obn (f_X1_cameBy_l4 p1 M 0 0) fun s => f_X1_cameBy_j31 s.1 M
def rm_X1_cameBy : Room := { frames := 0, cells := 0, slots := 0, locals := 0 }
def f_X1_toldWishes_s4 (v1 : Int) (M : Mem) (v2 : Int) (v3 : Int) : Option ((Int × Int) ⊕ (Int × Int)) :=
  if 3 ≤ v3 then
    some (.inr (v2, v3))
  else
    gd (0 ≤ (wrap ((wrap (v1 * 3)) + v3)) ∧ (wrap ((wrap (v1 * 3)) + v3)) < 42) <|
    if (M 9 (wrap ((wrap (v1 * 3)) + v3)).toNat) = (-1) then
      lt (wrap (v3 + 1)) fun v3_2 =>
      some (.inl (v2, v3_2))
    else
      lt (wrap (v2 + 1)) fun v2_2 =>
      lt (wrap (v3 + 1)) fun v3_3 =>
      some (.inl (v2_2, v3_3))
def f_X1_toldWishes_l4 (v1 : Int) (M : Mem) (v2 : Int) (v3 : Int) : Option (Int × Int) := whl (fun s => f_X1_toldWishes_s4 v1 M s.1 s.2) FU (v2, v3)
def f_X1_toldWishes_j32 (v2 : Int) (M : Mem) : Option (Int) :=
  some v2
def f_X1_toldWishes (p1 : Int) (M : Mem) : Option (Int) :=
  obn (f_X1_toldWishes_l4 p1 M 0 0) fun s => f_X1_toldWishes_j32 s.1 M
def rm_X1_toldWishes : Room := { frames := 0, cells := 0, slots := 0, locals := 0 }
def f_X1_naming_s4 (v1 : Int) (M : Mem) (v2 : Int) (v3 : Int) : Option ((Int × Int) ⊕ (Int × Int)) :=
  if (wrap ((M 3 0) * 3)) ≤ v3 then
    some (.inr (v2, v3))
  else
    gd (0 ≤ v3 ∧ v3 < 42) <|
    if (M 9 v3.toNat) = v1 then
      lt (wrap (v2 + 1)) fun v2_2 =>
      lt (wrap (v3 + 1)) fun v3_3 =>
      some (.inl (v2_2, v3_3))
    else
      lt (wrap (v3 + 1)) fun v3_2 =>
      some (.inl (v2, v3_2))
def f_X1_naming_l4 (v1 : Int) (M : Mem) (v2 : Int) (v3 : Int) : Option (Int × Int) := whl (fun s => f_X1_naming_s4 v1 M s.1 s.2) FU (v2, v3)
def f_X1_naming_j33 (v2 : Int) (M : Mem) : Option (Int) :=
  some v2
def f_X1_naming (p1 : Int) (M : Mem) : Option (Int) :=
  obn (f_X1_naming_l4 p1 M 0 0) fun s => f_X1_naming_j33 s.1 M
def rm_X1_naming : Room := { frames := 0, cells := 0, slots := 0, locals := 0 }
def f_X1_wishedOnes_s4 (v1 : Int) (M : Mem) (v2 : Int) (v3 : Int) : Option ((Int × Int) ⊕ (Int × Int)) :=
  if 3 ≤ v3 then
    some (.inr (v2, v3))
  else
    gd (0 ≤ (wrap ((wrap (v1 * 3)) + v3)) ∧ (wrap ((wrap (v1 * 3)) + v3)) < 42) <|
    lt (M 9 (wrap ((wrap (v1 * 3)) + v3)).toNat) fun v4 =>
    if v4 = (-1) then
      lt (wrap (v3 + 1)) fun v3_2 =>
      some (.inl (v2, v3_2))
    else
      lt (bor v2 (bshl 1 v4)) fun v2_2 =>
      lt (wrap (v3 + 1)) fun v3_3 =>
      some (.inl (v2_2, v3_3))
def f_X1_wishedOnes_l4 (v1 : Int) (M : Mem) (v2 : Int) (v3 : Int) : Option (Int × Int) := whl (fun s => f_X1_wishedOnes_s4 v1 M s.1 s.2) FU (v2, v3)
def f_X1_wishedOnes_j40 (v2 : Int) (M : Mem) : Option (Int) :=
  some v2
def f_X1_wishedOnes (p1 : Int) (M : Mem) : Option (Int) :=
  obn (f_X1_wishedOnes_l4 p1 M 0 0) fun s => f_X1_wishedOnes_j40 s.1 M
def rm_X1_wishedOnes : Room := { frames := 0, cells := 0, slots := 0, locals := 0 }
def f_X1_bestWish_s2 (v1 : Int) (v2 : Int) (M : Mem) (v3 : Int) : Option ((Int) ⊕ ((Int) ⊕ (Int))) :=
  if 3 ≤ v3 then
    some (.inr (.inl v3))
  else
    gd (0 ≤ (wrap ((wrap (v1 * 3)) + v3)) ∧ (wrap ((wrap (v1 * 3)) + v3)) < 42) <|
    lt (M 9 (wrap ((wrap (v1 * 3)) + v3)).toNat) fun v4 =>
    if v4 = (-1) then
      lt (wrap (v3 + 1)) fun v3_2 =>
      some (.inl v3_2)
    else
      if (band (bshr v2 v4) 1) = 0 then
        lt (wrap (v3 + 1)) fun v3_3 =>
        some (.inl v3_3)
      else
        some (.inr (.inr v3))
def f_X1_bestWish_l2 (v1 : Int) (v2 : Int) (M : Mem) (v3 : Int) : Option ((Int) ⊕ (Int)) := whl (fun s => f_X1_bestWish_s2 v1 v2 M s) FU v3
def f_X1_bestWish_j42 (M : Mem) : Option (Int) :=
  some 3
def f_X1_bestWish (p1 : Int) (p2 : Int) (M : Mem) : Option (Int) :=
  lpr (f_X1_bestWish_l2 p1 p2 M 0) (fun s => f_X1_bestWish_j42 M) (fun q => some q)
def rm_X1_bestWish : Room := { frames := 0, cells := 0, slots := 0, locals := 0 }
def f_X1_admit (p1 : Int) (p2 : Int) (p3 : Int) (p4 : Int) (M : Mem) : Option (Int × Mem) :=
  if (M 3 0) < 14 then
    gd (0 ≤ (M 3 0) ∧ (M 3 0) < 14) <|
    lt (mup M 4 (M 3 0).toNat p1) fun M_2 =>
    gd (0 ≤ (M_2 3 0) ∧ (M_2 3 0) < 14) <|
    lt (mup M_2 5 (M_2 3 0).toNat p2) fun M_3 =>
    gd (0 ≤ (M_3 3 0) ∧ (M_3 3 0) < 14) <|
    lt (mup M_3 6 (M_3 3 0).toNat p3) fun M_4 =>
    gd (0 ≤ (M_4 3 0) ∧ (M_4 3 0) < 14) <|
    lt (mup M_4 7 (M_4 3 0).toNat p4) fun M_5 =>
    lt (mup M_5 3 0 (wrap ((M_5 3 0) + 1))) fun M_6 =>
    some ((wrap ((M_6 3 0) - 1)), M_6)
  else
    some ((-1), M)
def rm_X1_admit : Room := { frames := 0, cells := 0, slots := 0, locals := 0 }
def f_X1_areTwo (p1 : Int) (p2 : Int) (M : Mem) : Option (Int) :=
  obn (f_X1_has p1 M) fun r =>
  if r = 0 then
    some 0
  else
    obn (f_X1_has p2 M) fun r_2 =>
    if r_2 = 0 then
      some 0
    else
      if p1 = p2 then
        some 0
      else
        some 1
def rm_X1_areTwo : Room := { frames := 1, cells := 0, slots := 0, locals := 21 }
def f_X1_reach_s20 (v3 : Int) (v4 : Int) (M : Mem) (v2 : Int) (v5 : Int) : Option ((Int × Int) ⊕ (Int × Int)) :=
  if (M 3 0) ≤ v5 then
    some (.inr (v2, v5))
  else
    if (band (bshr v2 v5) 1) = 0 then
      lt (wrap (v5 + 1)) fun v5_2 =>
      some (.inl (v2, v5_2))
    else
      obn (f_X1_wishedOnes v5 M) fun r =>
      lt (bor v2 r) fun v2_2 =>
      lt (wrap (v5 + 1)) fun v5_3 =>
      some (.inl (v2_2, v5_3))
def f_X1_reach_l20 (v3 : Int) (v4 : Int) (M : Mem) (v2 : Int) (v5 : Int) : Option (Int × Int) := whl (fun s => f_X1_reach_s20 v3 v4 M s.1 s.2) FU (v2, v5)
def f_X1_reach_j53k6 (v2 : Int) (v3 : Int) (v4 : Int) (M : Mem) : Option ((Int × Int) ⊕ ((Int × Int) ⊕ (Int))) :=
  if v2 = v4 then
    some (.inr (.inr v2))
  else
    lt (wrap (v3 + 1)) fun v3_2 =>
    some (.inl (v2, v3_2))
def f_X1_reach_s6 (M : Mem) (v2 : Int) (v3 : Int) : Option ((Int × Int) ⊕ ((Int × Int) ⊕ (Int))) :=
  if (M 3 0) ≤ v3 then
    some (.inr (.inl (v2, v3)))
  else
    obn (f_X1_reach_l20 v3 v2 M v2 0) fun s => f_X1_reach_j53k6 s.1 v3 v2 M
def f_X1_reach_l6 (M : Mem) (v2 : Int) (v3 : Int) : Option ((Int × Int) ⊕ (Int)) := whl (fun s => f_X1_reach_s6 M s.1 s.2) FU (v2, v3)
def f_X1_reach_j67 (v2 : Int) (M : Mem) : Option (Int) :=
  some v2
def f_X1_reach (p1 : Int) (M : Mem) : Option (Int) :=
  lt (bshl 1 p1) fun v2 =>
  lpr (f_X1_reach_l6 M v2 1) (fun s => f_X1_reach_j67 s.1 M) (fun q => some q)
def rm_X1_reach : Room := { frames := 1, cells := 0, slots := 0, locals := 24 }
def f_X1_wentBadly (p1 : Int) (M : Mem) : Option (Int) :=
  gd (0 ≤ p1 ∧ p1 < 14) <|
  if (M 14 p1.toNat) = (-1) then
    some 0
  else
    gd (0 ≤ p1 ∧ p1 < 14) <|
    gd (0 ≤ p1 ∧ p1 < 14) <|
    if 5 ≤ (wrap ((M 14 p1.toNat) + (M 15 p1.toNat))) then
      some 0
    else
      some 1
def rm_X1_wentBadly : Room := { frames := 0, cells := 0, slots := 0, locals := 0 }
def f_X1_addRegret (p1 : Int) (p2 : Int) (M : Mem) : Option (Mem) :=
  gd (0 ≤ (wrap ((wrap (p1 * 14)) + p2)) ∧ (wrap ((wrap (p1 * 14)) + p2)) < 196) <|
  lt ((if 99 < wrap ((M 13 (wrap ((wrap (p1 * 14)) + p2)).toNat) + 1) then 99 else wrap ((M 13 (wrap ((wrap (p1 * 14)) + p2)).toNat) + 1))) fun v3 =>
  gd (0 ≤ (wrap ((wrap (p1 * 14)) + p2)) ∧ (wrap ((wrap (p1 * 14)) + p2)) < 196) <|
  lt (mup M 13 (wrap ((wrap (p1 * 14)) + p2)).toNat v3) fun M_2 =>
  gd (0 ≤ (wrap ((wrap (p2 * 14)) + p1)) ∧ (wrap ((wrap (p2 * 14)) + p1)) < 196) <|
  lt (mup M_2 13 (wrap ((wrap (p2 * 14)) + p1)).toNat v3) fun M_3 =>
  some M_3
def rm_X1_addRegret : Room := { frames := 1, cells := 0, slots := 0, locals := 60 }
def f_X5_learn_s10 (v1 : Int) (v2 : Int) (M : Mem) : Option ((Int × Mem) ⊕ (Int × Mem)) :=
  if (M 17 0) ≤ v2 then
    some (.inr (v2, M))
  else
    gd (0 ≤ v2 ∧ v2 < 300) <|
    if v1 < (M 22 v2.toNat) then
      lt (wrap (v2 + 1)) fun v2_2 =>
      some (.inl (v2_2, M))
    else
      gd (0 ≤ v2 ∧ v2 < 300) <|
      gd (0 ≤ v2 ∧ v2 < 300) <|
      gd (0 ≤ v2 ∧ v2 < 300) <|
      gd (0 ≤ v2 ∧ v2 < 300) <|
      gd (0 ≤ (wrap ((wrap ((wrap ((wrap ((M 20 v2.toNat) * 4)) + (M 18 v2.toNat))) * 14)) + (M 19 v2.toNat))) ∧ (wrap ((wrap ((wrap ((wrap ((M 20 v2.toNat) * 4)) + (M 18 v2.toNat))) * 14)) + (M 19 v2.toNat))) < 112) <|
      lt (mup M 23 (wrap ((wrap ((wrap ((wrap ((M 20 v2.toNat) * 4)) + (M 18 v2.toNat))) * 14)) + (M 19 v2.toNat))).toNat (M 21 v2.toNat)) fun M_2 =>
      lt (wrap (v2 + 1)) fun v2_3 =>
      some (.inl (v2_3, M_2))
def f_X5_learn_l10 (v1 : Int) (v2 : Int) (M : Mem) : Option (Int × Mem) := whl (fun s => f_X5_learn_s10 v1 s.1 s.2) FU (v2, M)
def f_X5_learn_j70 (M : Mem) : Option (Mem) :=
  some M
def f_X5_learn (p1 : Int) (M : Mem) : Option (Mem) :=
  obn (f_J7_fill_53178 23 (-1) M) fun M_2 =>
  obn (f_X5_learn_l10 p1 0 M_2) fun s => f_X5_learn_j70 s.2
def rm_X5_learn : Room := { frames := 1, cells := 0, slots := 0, locals := 23 }
def f_X5_scale_s38 (v2 : Int) (v4 : Int) (v5 : Int) (M : Mem) (v6 : Int) (v7 : Int) (v8 : Int) : Option ((Int × Int × Int) ⊕ (Int × Int × Int)) :=
  if 14 ≤ v8 then
    some (.inr (v6, v7, v8))
  else
    if v8 = v2 then
      lt (wrap (v8 + 1)) fun v8_2 =>
      some (.inl (v6, v7, v8_2))
    else
      gd (0 ≤ (wrap (v4 + v8)) ∧ (wrap (v4 + v8)) < 112) <|
      if (M 23 (wrap (v4 + v8)).toNat) = (-1) then
        lt (wrap (v8 + 1)) fun v8_3 =>
        some (.inl (v6, v7, v8_3))
      else
        lt (wrap (v7 + 1)) fun v7_2 =>
        gd (0 ≤ (wrap (v4 + v8)) ∧ (wrap (v4 + v8)) < 112) <|
        if v5 ≤ (M 23 (wrap (v4 + v8)).toNat) then
          lt (wrap (v8 + 1)) fun v8_4 =>
          some (.inl (v6, v7_2, v8_4))
        else
          lt (wrap (v6 + 1)) fun v6_2 =>
          lt (wrap (v8 + 1)) fun v8_5 =>
          some (.inl (v6_2, v7_2, v8_5))
def f_X5_scale_l38 (v2 : Int) (v4 : Int) (v5 : Int) (M : Mem) (v6 : Int) (v7 : Int) (v8 : Int) : Option (Int × Int × Int) := whl (fun s => f_X5_scale_s38 v2 v4 v5 M s.1 s.2.1 s.2.2) FU (v6, v7, v8)
def f_X5_scale_j92 (v6 : Int) (v7 : Int) (M : Mem) : Option (Int) :=
  if v7 = 0 then
    some 5
  else
    gd (¬ v7 = 0) <|
    some (jdiv (wrap (10 * v6)) v7)
def f_X5_scale (p1 : Int) (p2 : Int) (p3 : Int) (M : Mem) : Option (Int) :=
  lt (wrap ((wrap ((wrap (p3 * 4)) + p1)) * 14)) fun v4 =>
  gd (0 ≤ (wrap (v4 + p2)) ∧ (wrap (v4 + p2)) < 112) <|
  lt (M 23 (wrap (v4 + p2)).toNat) fun v5 =>
  if v5 = (-1) then
    some (-1)
  else
    obn (f_X5_scale_l38 p2 v4 v5 M 0 0 0) fun s => f_X5_scale_j92 s.1 s.2.1 M
def rm_X5_scale : Room := { frames := 0, cells := 0, slots := 0, locals := 0 }
def f_X5_overall_s8 (v1 : Int) (v2 : Int) (M : Mem) (v3 : Int) (v4 : Int) (v5 : Int) : Option ((Int × Int × Int) ⊕ (Int × Int × Int)) :=
  if 4 ≤ v5 then
    some (.inr (v3, v4, v5))
  else
    obn (f_X5_scale v5 v1 v2 M) fun r =>
    if r = (-1) then
      lt (wrap (v5 + 1)) fun v5_2 =>
      some (.inl (v3, v4, v5_2))
    else
      lt (wrap (v3 + r)) fun v3_2 =>
      lt (wrap (v4 + 1)) fun v4_2 =>
      lt (wrap (v5 + 1)) fun v5_3 =>
      some (.inl (v3_2, v4_2, v5_3))
def f_X5_overall_l8 (v1 : Int) (v2 : Int) (M : Mem) (v3 : Int) (v4 : Int) (v5 : Int) : Option (Int × Int × Int) := whl (fun s => f_X5_overall_s8 v1 v2 M s.1 s.2.1 s.2.2) FU (v3, v4, v5)
def f_X5_overall_j44 (v3 : Int) (v4 : Int) (M : Mem) : Option (Int) :=
  if v4 = 0 then
    some (-1)
  else
    gd (¬ v4 = 0) <|
    some (jdiv v3 v4)
def f_X5_overall (p1 : Int) (p2 : Int) (M : Mem) : Option (Int) :=
  obn (f_X5_overall_l8 p1 p2 M 0 0 0) fun s => f_X5_overall_j44 s.1 s.2.1 M
def rm_X5_overall : Room := { frames := 1, cells := 0, slots := 0, locals := 28 }
def f_X5_level (p1 : Int) (p2 : Int) (M : Mem) : Option (Int) :=
  obn (f_X5_overall p1 p2 M) fun r =>
  if r = (-1) then
    some 5
  else
    some r
def rm_X5_level : Room := { frames := 2, cells := 0, slots := 0, locals := 54 }
def f_X5_add (p1 : Int) (p2 : Int) (p3 : Int) (p4 : Int) (p5 : Int) (M : Mem) : Option (Int × Mem) :=
  if (M 17 0) < 300 then
    gd (0 ≤ (M 17 0) ∧ (M 17 0) < 300) <|
    lt (mup M 18 (M 17 0).toNat p1) fun M_2 =>
    gd (0 ≤ (M_2 17 0) ∧ (M_2 17 0) < 300) <|
    lt (mup M_2 19 (M_2 17 0).toNat p2) fun M_3 =>
    gd (0 ≤ (M_3 17 0) ∧ (M_3 17 0) < 300) <|
    lt (mup M_3 20 (M_3 17 0).toNat p3) fun M_4 =>
    gd (0 ≤ (M_4 17 0) ∧ (M_4 17 0) < 300) <|
    lt (mup M_4 21 (M_4 17 0).toNat p4) fun M_5 =>
    gd (0 ≤ (M_5 17 0) ∧ (M_5 17 0) < 300) <|
    lt (mup M_5 22 (M_5 17 0).toNat p5) fun M_6 =>
    lt (mup M_6 17 0 (wrap ((M_6 17 0) + 1))) fun M_7 =>
    some (1, M_7)
  else
    some (0, M)
def rm_X5_add : Room := { frames := 0, cells := 0, slots := 0, locals := 0 }
def f_X7_twinsHow_s5 (r0 : Int) (M : Mem) (v1 : Int) (v2 : Int) : Option ((Int × Int) ⊕ (Int × Int)) :=
  if (M r0.toNat 0) ≤ v2 then
    some (.inr (v1, v2))
  else
    gd (0 ≤ v2 ∧ v2 < 16) <|
    if (M (r0.toNat + 1) v2.toNat) = 16 then
      gd (0 ≤ v2 ∧ v2 < 16) <|
      lt (M (r0.toNat + 3) v2.toNat) fun v1_2 =>
      lt (wrap (v2 + 1)) fun v2_3 =>
      some (.inl (v1_2, v2_3))
    else
      lt (wrap (v2 + 1)) fun v2_2 =>
      some (.inl (v1, v2_2))
def f_X7_twinsHow_l5 (r0 : Int) (M : Mem) (v1 : Int) (v2 : Int) : Option (Int × Int) := whl (fun s => f_X7_twinsHow_s5 r0 M s.1 s.2) FU (v1, v2)
def f_X7_twinsHow_j37 (r0 : Int) (v1 : Int) (M : Mem) : Option (Int) :=
  some v1
def f_X7_twinsHow (r0 : Int) (M : Mem) : Option (Int) :=
  obn (f_X7_twinsHow_l5 r0 M 18 0) fun s => f_X7_twinsHow_j37 r0 s.1 M
def rm_X7_twinsHow : Room := { frames := 0, cells := 0, slots := 0, locals := 0 }
def f_X7_termsUse_s2 (r0 : Int) (v1 : Int) (v2 : Int) (M : Mem) (v3 : Int) : Option ((Int) ⊕ ((Int) ⊕ (Int))) :=
  gd (0 ≤ v1 ∧ v1 < 32) <|
  if (M (r0.toNat + 4) v1.toNat) ≤ v3 then
    some (.inr (.inl v3))
  else
    gd (0 ≤ (wrap ((wrap (v1 * 4)) + v3)) ∧ (wrap ((wrap (v1 * 4)) + v3)) < 128) <|
    if (M (r0.toNat + 6) (wrap ((wrap (v1 * 4)) + v3)).toNat) = v2 then
      some (.inr (.inr 1))
    else
      lt (wrap (v3 + 1)) fun v3_2 =>
      some (.inl v3_2)
def f_X7_termsUse_l2 (r0 : Int) (v1 : Int) (v2 : Int) (M : Mem) (v3 : Int) : Option ((Int) ⊕ (Int)) := whl (fun s => f_X7_termsUse_s2 r0 v1 v2 M s) FU v3
def f_X7_termsUse_j34 (r0 : Int) (M : Mem) : Option (Int) :=
  some 0
def f_X7_termsUse (r0 : Int) (p1 : Int) (p2 : Int) (M : Mem) : Option (Int) :=
  lpr (f_X7_termsUse_l2 r0 p1 p2 M 0) (fun s => f_X7_termsUse_j34 r0 M) (fun q => some q)
def rm_X7_termsUse : Room := { frames := 0, cells := 0, slots := 0, locals := 0 }
def f_X7_uses_s2 (r0 : Int) (v1 : Int) (M : Mem) (v2 : Int) : Option ((Int) ⊕ ((Int) ⊕ (Int))) :=
  if (M r0.toNat 0) ≤ v2 then
    some (.inr (.inl v2))
  else
    gd (0 ≤ v2 ∧ v2 < 16) <|
    if (M (r0.toNat + 1) v2.toNat) = 9 then
      gd (0 ≤ v2 ∧ v2 < 16) <|
      if (M (r0.toNat + 3) v2.toNat) = v1 then
        some (.inr (.inr 1))
      else
        obn (f_X7_termsUse r0 (wrap (2 * v2)) v1 M) fun r_3 =>
        if r_3 = 0 then
          obn (f_X7_termsUse r0 (wrap ((wrap (2 * v2)) + 1)) v1 M) fun r_4 =>
          if r_4 = 0 then
            lt (wrap (v2 + 1)) fun v2_3 =>
            some (.inl v2_3)
          else
            some (.inr (.inr 1))
        else
          some (.inr (.inr 1))
    else
      obn (f_X7_termsUse r0 (wrap (2 * v2)) v1 M) fun r =>
      if r = 0 then
        obn (f_X7_termsUse r0 (wrap ((wrap (2 * v2)) + 1)) v1 M) fun r_2 =>
        if r_2 = 0 then
          lt (wrap (v2 + 1)) fun v2_2 =>
          some (.inl v2_2)
        else
          some (.inr (.inr 1))
      else
        some (.inr (.inr 1))
def f_X7_uses_l2 (r0 : Int) (v1 : Int) (M : Mem) (v2 : Int) : Option ((Int) ⊕ (Int)) := whl (fun s => f_X7_uses_s2 r0 v1 M s) FU v2
def f_X7_uses_j63 (r0 : Int) (M : Mem) : Option (Int) :=
  some 0
def f_X7_uses (r0 : Int) (p1 : Int) (M : Mem) : Option (Int) :=
  lpr (f_X7_uses_l2 r0 p1 M 0) (fun s => f_X7_uses_j63 r0 M) (fun q => some q)
def rm_X7_uses : Room := { frames := 1, cells := 0, slots := 0, locals := 23 }
def f_X7_clear (r0 : Int) (M : Mem) : Option (Mem) :=
  lt (mup M r0.toNat 0 0) fun M_2 =>
  obn (f_J7_fill_53178 (r0.toNat + 4) 0 M_2) fun M_3 =>
  some M_3
def rm_X7_clear : Room := { frames := 1, cells := 0, slots := 0, locals := 23 }
def f_X7_takesTerms (r0 : Int) (p1 : Int) (p2 : Int) (M : Mem) : Option (Int) :=
  gd (0 ≤ p1 ∧ p1 < 16) <|
  if (M (r0.toNat + 1) p1.toNat) < 8 ∨ 15 < (M (r0.toNat + 1) p1.toNat) then
    some 0
  else if (M (r0.toNat + 1) p1.toNat) = 8 then
    if p2 = 0 then
      some 1
    else
      some 0
  else if (M (r0.toNat + 1) p1.toNat) = 9 then
    some 0
  else if (M (r0.toNat + 1) p1.toNat) = 10 then
    some 0
  else if (M (r0.toNat + 1) p1.toNat) = 11 then
    if p2 = 0 then
      some 1
    else
      some 0
  else if (M (r0.toNat + 1) p1.toNat) = 12 then
    some 0
  else if (M (r0.toNat + 1) p1.toNat) = 13 then
    some 1
  else if (M (r0.toNat + 1) p1.toNat) = 14 then
    if p2 = 0 then
      some 1
    else
      some 0
  else if (M (r0.toNat + 1) p1.toNat) = 15 then
    if p2 = 0 then
      some 1
    else
      some 0
  else none
def rm_X7_takesTerms : Room := { frames := 0, cells := 0, slots := 0, locals := 0 }
section
variable {p : Program} {l : Launch} {e : Env} {s : State} {m : MethodId} {args : Array Value} {below : List Frame} {meth : Method} {c : Code} {Q : State → Prop} {D : va_G} {aC : Nat → ClassId} {ad : Nat → Nat} {sg : SG} {A : Nat → Prop} {H0 : Heap}
set_option maxRecDepth 100000 in
set_option maxHeartbeats 4000000 in
theorem b_J6_bitCount_0f7a4_0 (X : CX p s m args c cJ6_bitCount_0f7a4 1 RJ6 D aC ad sg A H0) {M : Mem} {o : Int} (HR : ∀ (r : Int) (H : Heap) (locs : List Loc) (pc : Nat) (ls : Array Slot), o = r → inR r → WS D aC ad A H0 M H locs → decode cJ6_bitCount_0f7a4 pc = .ok (.ireturn, 1) → W p l e rm_J6_bitCount_0f7a4 s m args below meth c H locs 0 0 Q (F0 m pc ls [.int (i2 r)])) (p0 : Int) (hp0 : inR p0) (hf : f_J6_bitCount_0f7a4 p0 M = some o) {H : Heap} {locs : List Loc} {ls : Array Slot} (hl : lv_has ls 1 [(0, .int (i2 p0))]) (w : WS D aC ad A H0 M H locs) : W p l e rm_J6_bitCount_0f7a4 s m args below meth c H locs 0 0 Q (F0 m 0 ls []) := by
  have hx := X.1.1
  have hb := X.1.2.1
  unfold f_J6_bitCount_0f7a4 at hf
  refine lv_iload_n hx hb dJ6_bitCount_0f7a4_0 rfl (lv_at hl 0 rfl) ?_
  refine lv_iload_n hx hb dJ6_bitCount_0f7a4_1 rfl (lv_at hl 0 rfl) ?_
  refine g_iconst X dJ6_bitCount_0f7a4_2 ?_
  refine g_iushr X dJ6_bitCount_0f7a4_3 ?_
  refine g_ldcw X kc_J6_265 dJ6_bitCount_0f7a4_4 ?_
  refine g_iand X dJ6_bitCount_0f7a4_7 ?_
  refine g_isub X dJ6_bitCount_0f7a4_8 ?_
  obtain ⟨v0, ev0, hf⟩ := lt_some hf
  have hv0 : inR v0 := inR_of ev0 (inR_wrap _)
  refine g_istn (v := v0) (lv' := [(0, .int (i2 v0))]) X ev0 dJ6_bitCount_0f7a4_9 rfl hl (by decide) rfl (fun ls hl => ?_)
  refine lv_iload_n hx hb dJ6_bitCount_0f7a4_10 rfl (lv_at hl 0 rfl) ?_
  refine g_ldcw X kc_J6_266 dJ6_bitCount_0f7a4_11 ?_
  refine g_iand X dJ6_bitCount_0f7a4_14 ?_
  refine lv_iload_n hx hb dJ6_bitCount_0f7a4_15 rfl (lv_at hl 0 rfl) ?_
  refine g_iconst X dJ6_bitCount_0f7a4_16 ?_
  refine g_iushr X dJ6_bitCount_0f7a4_17 ?_
  refine g_ldcw X kc_J6_266 dJ6_bitCount_0f7a4_18 ?_
  refine g_iand X dJ6_bitCount_0f7a4_21 ?_
  refine g_iadd X dJ6_bitCount_0f7a4_22 ?_
  obtain ⟨v0_2, ev0_2, hf⟩ := lt_some hf
  have hv0_2 : inR v0_2 := inR_of ev0_2 (inR_wrap _)
  refine g_istn (v := v0_2) (lv' := [(0, .int (i2 v0_2))]) X ev0_2 dJ6_bitCount_0f7a4_23 rfl hl (by decide) rfl (fun ls hl => ?_)
  refine lv_iload_n hx hb dJ6_bitCount_0f7a4_24 rfl (lv_at hl 0 rfl) ?_
  refine lv_iload_n hx hb dJ6_bitCount_0f7a4_25 rfl (lv_at hl 0 rfl) ?_
  refine g_iconst X dJ6_bitCount_0f7a4_26 ?_
  refine g_iushr X dJ6_bitCount_0f7a4_27 ?_
  refine g_iadd X dJ6_bitCount_0f7a4_28 ?_
  refine g_ldcw X kc_J6_267 dJ6_bitCount_0f7a4_29 ?_
  refine g_iand X dJ6_bitCount_0f7a4_32 ?_
  obtain ⟨v0_3, ev0_3, hf⟩ := lt_some hf
  have hv0_3 : inR v0_3 := inR_of ev0_3 (inR_toInt _)
  refine g_istn (v := v0_3) (lv' := [(0, .int (i2 v0_3))]) X ev0_3 dJ6_bitCount_0f7a4_33 rfl hl (by decide) rfl (fun ls hl => ?_)
  refine lv_iload_n hx hb dJ6_bitCount_0f7a4_34 rfl (lv_at hl 0 rfl) ?_
  refine lv_iload_n hx hb dJ6_bitCount_0f7a4_35 rfl (lv_at hl 0 rfl) ?_
  refine g_bipush X dJ6_bitCount_0f7a4_36 (by decide) ?_
  refine g_iushr X dJ6_bitCount_0f7a4_38 ?_
  refine g_iadd X dJ6_bitCount_0f7a4_39 ?_
  obtain ⟨v0_4, ev0_4, hf⟩ := lt_some hf
  have hv0_4 : inR v0_4 := inR_of ev0_4 (inR_wrap _)
  refine g_istn (v := v0_4) (lv' := [(0, .int (i2 v0_4))]) X ev0_4 dJ6_bitCount_0f7a4_40 rfl hl (by decide) rfl (fun ls hl => ?_)
  refine lv_iload_n hx hb dJ6_bitCount_0f7a4_41 rfl (lv_at hl 0 rfl) ?_
  refine lv_iload_n hx hb dJ6_bitCount_0f7a4_42 rfl (lv_at hl 0 rfl) ?_
  refine g_bipush X dJ6_bitCount_0f7a4_43 (by decide) ?_
  refine g_iushr X dJ6_bitCount_0f7a4_45 ?_
  refine g_iadd X dJ6_bitCount_0f7a4_46 ?_
  obtain ⟨v0_5, ev0_5, hf⟩ := lt_some hf
  have hv0_5 : inR v0_5 := inR_of ev0_5 (inR_wrap _)
  refine g_istn (v := v0_5) (lv' := [(0, .int (i2 v0_5))]) X ev0_5 dJ6_bitCount_0f7a4_47 rfl hl (by decide) rfl (fun ls hl => ?_)
  refine lv_iload_n hx hb dJ6_bitCount_0f7a4_48 rfl (lv_at hl 0 rfl) ?_
  refine g_bipush X dJ6_bitCount_0f7a4_49 (by decide) ?_
  refine g_iand X dJ6_bitCount_0f7a4_51 ?_
  exact HR (band v0_5 63) _ _ _ _ (Option.some.inj hf).symm (inR_toInt _) w dJ6_bitCount_0f7a4_52
set_option maxRecDepth 100000 in
set_option maxHeartbeats 4000000 in
theorem k_J6_bitCount_0f7a4 {l : Launch} {D : va_G} {aC : Nat → ClassId} {ad : Nat → Nat} {sg : SG} (hi : Inj ad) (p0 : Int) (hp0 : inR p0) {M : Mem} (hM : inM M) {r : Int} (hf : f_J6_bitCount_0f7a4 p0 M = some r) : MetI l D aC ad sg yJ6_bitCount_0f7a4 cJ6_bitCount_0f7a4 1 (some .int) rm_J6_bitCount_0f7a4 0 0 [.int (i2 p0)] M r M := by
  refine MetI.ofI (by decide +kernel) (nle rfl) hi hM (fun p e s m args below meth c Q H0 ls X hl w hret => ?_)
  exact b_J6_bitCount_0f7a4_0 X  (fun r1 H locs pc ls eo hP w dg => by cases eo; exact hret H locs pc ls hP w dg) p0 hp0 hf hl w
end
section
variable {p : Program} {l : Launch} {e : Env} {s : State} {m : MethodId} {args : Array Value} {below : List Frame} {meth : Method} {c : Code} {Q : State → Prop} {D : va_G} {aC : Nat → ClassId} {ad : Nat → Nat} {sg : SG} {A : Nat → Prop} {H0 : Heap}
set_option maxRecDepth 100000 in
set_option maxHeartbeats 4000000 in
theorem b_J7_fill_53178_s5 (X : CX p s m args c cJ7_fill_53178 4 RJ7 D aC ad sg A H0) (p0 : Nat) (hp0 : KD[p0]? = some (.inr (0, aln p0))) (v1 : Int) (hv1 : inR v1) (v3 : Int) (hv3 : inR v3) {o : (Int × Mem) ⊕ (Int × Mem)} (HC : ∀ (y2 : Int) (M1 : Mem) (H : Heap) (locs : List Loc) (ls : Array Slot), o = .inl (y2, M1) → inR y2 → lv_has ls 4 [(0, .ref (ad p0)), (1, .int (i2 v1)), (2, .int (i2 y2)), (3, .int (i2 v3))] → WS D aC ad A H0 M1 H locs → W p l e rm_J7_fill_53178 s m args below meth c H locs 0 0 Q (F0 m 5 ls [])) (HE : ∀ (y2 : Int) (M1 : Mem) (H : Heap) (locs : List Loc) (ls : Array Slot), o = .inr (y2, M1) → inR y2 → lv_has ls 4 [(0, .ref (ad p0)), (1, .int (i2 v1)), (2, .int (i2 y2)), (3, .int (i2 v3))] → WS D aC ad A H0 M1 H locs → W p l e rm_J7_fill_53178 s m args below meth c H locs 0 0 Q (F0 m 20 ls [])) (v2 : Int) (hv2 : inR v2) (M : Mem) (hf : f_J7_fill_53178_s5 p0 v1 v3 v2 M = some o) {H : Heap} {locs : List Loc} {ls : Array Slot} (hl : lv_has ls 4 [(0, .ref (ad p0)), (1, .int (i2 v1)), (2, .int (i2 v2)), (3, .int (i2 v3))]) (w : WS D aC ad A H0 M H locs) : W p l e rm_J7_fill_53178 s m args below meth c H locs 0 0 Q (F0 m 5 ls []) := by
  have hx := X.1.1
  have hb := X.1.2.1
  unfold f_J7_fill_53178_s5 at hf
  refine lv_iload_n hx hb dJ7_fill_53178_5 rfl (lv_at hl 2 rfl) ?_
  refine lv_iload_n hx hb dJ7_fill_53178_6 rfl (lv_at hl 3 rfl) ?_
  refine g_icmp_ge (tgt := 20) X hv2 hv3 dJ7_fill_53178_7 (by decide) (fun cd => ?_) (fun cd => ?_)
  · replace hf := ite_t cd hf
    exact HE v2 M _ _ _ (Option.some.inj hf).symm hv2 hl w
  · replace hf := ite_f cd hf
    refine lv_aload_n hx hb dJ7_fill_53178_10 rfl (lv_at hl 0 rfl) ?_
    refine lv_iload_n hx hb dJ7_fill_53178_11 rfl (lv_at hl 2 rfl) ?_
    refine lv_iload_n hx hb dJ7_fill_53178_12 rfl (lv_at hl 1 rfl) ?_
    obtain ⟨hg, hf⟩ := gd_some hf
    obtain ⟨M_2, eM_2, hf⟩ := lt_some hf
    refine g_iast X w hp0 hv2 hg hv1 dJ7_fill_53178_13 (fun H locs w_M_2 => ?_)
    rw [← eM_2] at w_M_2
    obtain ⟨v2_2, ev2_2, hf⟩ := lt_some hf
    have hv2_2 : inR v2_2 := inR_of ev2_2 (inR_wrap _)
    refine lv_iinc (v := i2 v2_2) (lv' := [(2, .int (i2 v2_2)), (0, .ref (ad p0)), (1, .int (i2 v1)), (3, .int (i2 v3))]) hx hb dJ7_fill_53178_14 hl (k := 2) rfl (by rw [ev2_2]; exact i2_add _ _) (by decide) rfl (fun ls hl => ?_)
    refine lv_goto (tgt := 5) hx hb dJ7_fill_53178_17 (by decide) ?_
    exact HC v2_2 M_2 _ _ _ (Option.some.inj hf).symm hv2_2 (lv_sub hl [1, 2, 0, 3] rfl) w_M_2
set_option maxRecDepth 100000 in
set_option maxHeartbeats 4000000 in
theorem l_J7_fill_53178_5 (X : CX p s m args c cJ7_fill_53178 4 RJ7 D aC ad sg A H0) (p0 : Nat) (hp0 : KD[p0]? = some (.inr (0, aln p0))) (v1 : Int) (hv1 : inR v1) (v3 : Int) (hv3 : inR v3) {out : Int × Mem} (HE : ∀ (y2 : Int) (M1 : Mem) (H : Heap) (locs : List Loc) (ls : Array Slot), out = (y2, M1) → inR y2 → lv_has ls 4 [(0, .ref (ad p0)), (1, .int (i2 v1)), (2, .int (i2 y2)), (3, .int (i2 v3))] → WS D aC ad A H0 M1 H locs → W p l e rm_J7_fill_53178 s m args below meth c H locs 0 0 Q (F0 m 20 ls [])) : ∀ (n : Nat) (v2 : Int) (M : Mem), whl (fun s => f_J7_fill_53178_s5 p0 v1 v3 s.1 s.2) n (v2, M) = some out → inR v2 → ∀ {H : Heap} {locs : List Loc} {ls : Array Slot}, lv_has ls 4 [(0, .ref (ad p0)), (1, .int (i2 v1)), (2, .int (i2 v2)), (3, .int (i2 v3))] → WS D aC ad A H0 M H locs → W p l e rm_J7_fill_53178 s m args below meth c H locs 0 0 Q (F0 m 5 ls []) := by
  intro n
  induction n with
  | zero => intro v2 M hf; exact (whl_zero hf).elim
  | succ n ih =>
    intro v2 M hf hv2 H locs ls hl w
    obtain ⟨o, hf, hk1, hk2⟩ := whl_step hf
    exact b_J7_fill_53178_s5 X p0 hp0 v1 hv1 v3 hv3 (fun y2 M1 H locs ls eo hy2 hl w => ih y2 M1 (hk1 _ eo) hy2 hl w) (fun y2 M1 H locs ls eo hy2 hl w => HE y2 M1 H locs ls (hk2 _ eo).symm hy2 hl w) v2 hv2 M hf hl w
set_option maxRecDepth 100000 in
set_option maxHeartbeats 4000000 in
theorem b_J7_fill_53178_j20 (X : CX p s m args c cJ7_fill_53178 4 RJ7 D aC ad sg A H0) (p0 : Nat) (hp0 : KD[p0]? = some (.inr (0, aln p0))) {o : Mem} (HR : ∀ (M1 : Mem) (H : Heap) (locs : List Loc) (pc : Nat) (ls : Array Slot), o = M1 → WS D aC ad A H0 M1 H locs → decode cJ7_fill_53178 pc = .ok (.return_, 1) → W p l e rm_J7_fill_53178 s m args below meth c H locs 0 0 Q (F0 m pc ls [])) (M : Mem) (hf : f_J7_fill_53178_j20 p0 M = some o) {H : Heap} {locs : List Loc} {ls : Array Slot} (hl : lv_has ls 4 []) (w : WS D aC ad A H0 M H locs) : W p l e rm_J7_fill_53178 s m args below meth c H locs 0 0 Q (F0 m 20 ls []) := by
  have hx := X.1.1
  have hb := X.1.2.1
  unfold f_J7_fill_53178_j20 at hf
  exact HR M _ _ _ _ (Option.some.inj hf).symm w dJ7_fill_53178_20
set_option maxRecDepth 100000 in
set_option maxHeartbeats 4000000 in
theorem b_J7_fill_53178_0 (X : CX p s m args c cJ7_fill_53178 4 RJ7 D aC ad sg A H0) (p0 : Nat) (hp0 : KD[p0]? = some (.inr (0, aln p0))) {o : Mem} (HR : ∀ (M1 : Mem) (H : Heap) (locs : List Loc) (pc : Nat) (ls : Array Slot), o = M1 → WS D aC ad A H0 M1 H locs → decode cJ7_fill_53178 pc = .ok (.return_, 1) → W p l e rm_J7_fill_53178 s m args below meth c H locs 0 0 Q (F0 m pc ls [])) (p1 : Int) (hp1 : inR p1) (M : Mem) (hf : f_J7_fill_53178 p0 p1 M = some o) {H : Heap} {locs : List Loc} {ls : Array Slot} (hl : lv_has ls 4 [(0, .ref (ad p0)), (1, .int (i2 p1))]) (w : WS D aC ad A H0 M H locs) : W p l e rm_J7_fill_53178 s m args below meth c H locs 0 0 Q (F0 m 0 ls []) := by
  have hx := X.1.1
  have hb := X.1.2.1
  unfold f_J7_fill_53178 at hf
  refine g_iconst X dJ7_fill_53178_0 ?_
  refine g_istn (v := 0) (lv' := [(2, .int (i2 0)), (0, .ref (ad p0)), (1, .int (i2 p1))]) X rfl dJ7_fill_53178_1 rfl hl (by decide) rfl (fun ls hl => ?_)
  refine lv_aload_n hx hb dJ7_fill_53178_2 rfl (lv_at hl 1 rfl) ?_
  refine g_alen X w hp0 (by decide) dJ7_fill_53178_3 ?_
  obtain ⟨v3, ev3, hf⟩ := lt_some hf
  have hv3 : inR v3 := inR_of ev3 (aln_R _)
  refine g_istn (v := v3) (lv' := [(3, .int (i2 v3)), (2, .int (i2 0)), (0, .ref (ad p0)), (1, .int (i2 p1))]) X ev3 dJ7_fill_53178_4 rfl hl (by decide) rfl (fun ls hl => ?_)
  obtain ⟨q, hq, h1⟩ := obn_some hf
  exact l_J7_fill_53178_5 X p0 hp0 p1 hp1 v3 hv3 (out := q) (fun y2 M1 H locs ls eq hy2 hl w => b_J7_fill_53178_j20 X p0 hp0 HR M1 (by subst eq; exact h1) (lv_sub hl [] rfl) w)  FU 0 M hq (inL rfl) (lv_sub hl [2, 3, 1, 0] rfl) w
set_option maxRecDepth 100000 in
set_option maxHeartbeats 4000000 in
theorem k_J7_fill_53178 {l : Launch} {D : va_G} {aC : Nat → ClassId} {ad : Nat → Nat} {sg : SG} (hi : Inj ad) (p0 : Nat) (hp0 : KD[p0]? = some (.inr (0, aln p0))) (p1 : Int) (hp1 : inR p1) {M : Mem} (hM : inM M) {M' : Mem} (hf : f_J7_fill_53178 p0 p1 M = some M') : MetV l D aC ad sg yJ7_fill_53178 cJ7_fill_53178 4 rm_J7_fill_53178 0 0 [.ref (ad p0), .int (i2 p1)] M M' := by
  refine MetV.of (by decide +kernel) (nle rfl) hi hM (fun p e s m args below meth c Q H0 ls X hl w hret => ?_)
  exact b_J7_fill_53178_0 X p0 hp0 (fun M1 H locs pc ls eo w dg => by cases eo; exact hret H locs pc ls w dg) p1 hp1 M hf hl w
end
section
variable {p : Program} {l : Launch} {e : Env} {s : State} {m : MethodId} {args : Array Value} {below : List Frame} {meth : Method} {c : Code} {Q : State → Prop} {D : va_G} {aC : Nat → ClassId} {ad : Nat → Nat} {sg : SG} {A : Nat → Prop} {H0 : Heap}
set_option maxRecDepth 100000 in
set_option maxHeartbeats 4000000 in
theorem b_X1_has_0 (X : CX p s m args c cX1_has 2 RX1 D aC ad sg A H0) {M : Mem} {o : Int} (HR : ∀ (r : Int) (H : Heap) (locs : List Loc) (pc : Nat) (ls : Array Slot), o = r → isZ r → WS D aC ad A H0 M H locs → decode cX1_has pc = .ok (.ireturn, 1) → W p l e rm_X1_has s m args below meth c H locs 0 0 Q (F0 m pc ls [.int (i2 r)])) (p1 : Int) (hp1 : inR p1) (hf : f_X1_has p1 M = some o) {H : Heap} {locs : List Loc} {ls : Array Slot} (hl : lv_has ls 2 [(0, .ref (ad 3)), (1, .int (i2 p1))]) (w : WS D aC ad A H0 M H locs) : W p l e rm_X1_has s m args below meth c H locs 0 0 Q (F0 m 0 ls []) := by
  have hx := X.1.1
  have hb := X.1.2.1
  unfold f_X1_has at hf
  refine lv_iload_n hx hb dX1_has_0 rfl (lv_at hl 1 rfl) ?_
  refine g_if_lt (tgt := 16) X hp1 dX1_has_1 (by decide) (fun cd => ?_) (fun cd => ?_)
  · replace hf := ite_t cd hf
    refine g_iconst X dX1_has_16 ?_
    exact HR 0 _ _ _ _ (Option.some.inj hf).symm (Or.inl rfl) w dX1_has_17
  · replace hf := ite_f cd hf
    refine lv_iload_n hx hb dX1_has_4 rfl (lv_at hl 1 rfl) ?_
    refine lv_aload_n hx hb dX1_has_5 rfl (lv_at hl 0 rfl) ?_
    refine g_geti X w fg_X1_61 KD_3 FR_3_0 dX1_has_6 ?_
    refine g_icmp_ge (tgt := 16) X hp1 (w.2.2 _ _) dX1_has_9 (by decide) (fun cd_2 => ?_) (fun cd_2 => ?_)
    · replace hf := ite_t cd_2 hf
      refine g_iconst X dX1_has_16 ?_
      exact HR 0 _ _ _ _ (Option.some.inj hf).symm (Or.inl rfl) w dX1_has_17
    · replace hf := ite_f cd_2 hf
      refine g_iconst X dX1_has_12 ?_
      refine lv_goto (tgt := 17) hx hb dX1_has_13 (by decide) ?_
      exact HR 1 _ _ _ _ (Option.some.inj hf).symm (Or.inr rfl) w dX1_has_17
set_option maxRecDepth 100000 in
set_option maxHeartbeats 4000000 in
theorem k_X1_has {l : Launch} {D : va_G} {aC : Nat → ClassId} {ad : Nat → Nat} {sg : SG} (hi : Inj ad) (p1 : Int) (hp1 : inR p1) {M : Mem} (hM : inM M) {r : Int} (hf : f_X1_has p1 M = some r) : MetI l D aC ad sg yX1_has cX1_has 2 (some .boolean) rm_X1_has 0 0 [.ref (ad 3), .int (i2 p1)] M r M := by
  refine MetI.ofZ (by decide +kernel) (nle rfl) hi hM (fun p e s m args below meth c Q H0 ls X hl w hret => ?_)
  exact b_X1_has_0 X  (fun r1 H locs pc ls eo hP w dg => by cases eo; exact hret H locs pc ls hP w dg) p1 hp1 hf hl w
set_option maxRecDepth 100000 in
set_option maxHeartbeats 4000000 in
theorem b_X1_cameBy_s4 (X : CX p s m args c cX1_cameBy 4 RX1 D aC ad sg A H0) (v1 : Int) (hv1 : inR v1) {M : Mem} {o : (Int × Int) ⊕ (Int × Int)} (HC : ∀ (y2 : Int) (y3 : Int) (H : Heap) (locs : List Loc) (ls : Array Slot), o = .inl (y2, y3) → inR y2 → inR y3 → lv_has ls 4 [(0, .ref (ad 3)), (1, .int (i2 v1)), (2, .int (i2 y2)), (3, .int (i2 y3))] → WS D aC ad A H0 M H locs → W p l e rm_X1_cameBy s m args below meth c H locs 0 0 Q (F0 m 4 ls [])) (HE : ∀ (y2 : Int) (y3 : Int) (H : Heap) (locs : List Loc) (ls : Array Slot), o = .inr (y2, y3) → inR y2 → inR y3 → lv_has ls 4 [(0, .ref (ad 3)), (1, .int (i2 v1)), (2, .int (i2 y2)), (3, .int (i2 y3))] → WS D aC ad A H0 M H locs → W p l e rm_X1_cameBy s m args below meth c H locs 0 0 Q (F0 m 31 ls [])) (v2 : Int) (hv2 : inR v2) (v3 : Int) (hv3 : inR v3) (hf : f_X1_cameBy_s4 v1 M v2 v3 = some o) {H : Heap} {locs : List Loc} {ls : Array Slot} (hl : lv_has ls 4 [(0, .ref (ad 3)), (1, .int (i2 v1)), (2, .int (i2 v2)), (3, .int (i2 v3))]) (w : WS D aC ad A H0 M H locs) : W p l e rm_X1_cameBy s m args below meth c H locs 0 0 Q (F0 m 4 ls []) := by
  have hx := X.1.1
  have hb := X.1.2.1
  unfold f_X1_cameBy_s4 at hf
  refine lv_iload_n hx hb dX1_cameBy_4 rfl (lv_at hl 3 rfl) ?_
  refine lv_aload_n hx hb dX1_cameBy_5 rfl (lv_at hl 0 rfl) ?_
  refine g_geti X w fg_X1_61 KD_3 FR_3_0 dX1_cameBy_6 ?_
  refine g_icmp_ge (tgt := 31) X hv3 (w.2.2 _ _) dX1_cameBy_9 (by decide) (fun cd => ?_) (fun cd => ?_)
  · replace hf := ite_t cd hf
    exact HE v2 v3 _ _ _ (Option.some.inj hf).symm hv2 hv3 hl w
  · replace hf := ite_f cd hf
    refine lv_aload_n hx hb dX1_cameBy_12 rfl (lv_at hl 0 rfl) ?_
    refine g_getr X w fg_X1_21 KD_3 FR_3_4 dX1_cameBy_13 ?_
    refine lv_iload_n hx hb dX1_cameBy_16 rfl (lv_at hl 3 rfl) ?_
    obtain ⟨hg, hf⟩ := gd_some hf
    refine g_iald X w KD_7 hv3 hg dX1_cameBy_17 ?_
    refine lv_iload_n hx hb dX1_cameBy_18 rfl (lv_at hl 1 rfl) ?_
    refine g_icmp_gt (tgt := 25) X (w.2.2 _ _) hv1 dX1_cameBy_19 (by decide) (fun cd_2 => ?_) (fun cd_2 => ?_)
    · replace hf := ite_t cd_2 hf
      obtain ⟨v3_2, ev3_2, hf⟩ := lt_some hf
      have hv3_2 : inR v3_2 := inR_of ev3_2 (inR_wrap _)
      refine lv_iinc (v := i2 v3_2) (lv' := [(3, .int (i2 v3_2)), (0, .ref (ad 3)), (1, .int (i2 v1)), (2, .int (i2 v2))]) hx hb dX1_cameBy_25 hl (k := 3) rfl (by rw [ev3_2]; exact i2_add _ _) (by decide) rfl (fun ls hl => ?_)
      refine lv_goto (tgt := 4) hx hb dX1_cameBy_28 (by decide) ?_
      exact HC v2 v3_2 _ _ _ (Option.some.inj hf).symm hv2 hv3_2 (lv_sub hl [1, 2, 3, 0] rfl) w
    · replace hf := ite_f cd_2 hf
      obtain ⟨v2_2, ev2_2, hf⟩ := lt_some hf
      have hv2_2 : inR v2_2 := inR_of ev2_2 (inR_wrap _)
      refine lv_iinc (v := i2 v2_2) (lv' := [(2, .int (i2 v2_2)), (0, .ref (ad 3)), (1, .int (i2 v1)), (3, .int (i2 v3))]) hx hb dX1_cameBy_22 hl (k := 2) rfl (by rw [ev2_2]; exact i2_add _ _) (by decide) rfl (fun ls hl => ?_)
      obtain ⟨v3_3, ev3_3, hf⟩ := lt_some hf
      have hv3_3 : inR v3_3 := inR_of ev3_3 (inR_wrap _)
      refine lv_iinc (v := i2 v3_3) (lv' := [(3, .int (i2 v3_3)), (2, .int (i2 v2_2)), (0, .ref (ad 3)), (1, .int (i2 v1))]) hx hb dX1_cameBy_25 hl (k := 3) rfl (by rw [ev3_3]; exact i2_add _ _) (by decide) rfl (fun ls hl => ?_)
      refine lv_goto (tgt := 4) hx hb dX1_cameBy_28 (by decide) ?_
      exact HC v2_2 v3_3 _ _ _ (Option.some.inj hf).symm hv2_2 hv3_3 (lv_sub hl [2, 3, 1, 0] rfl) w
set_option maxRecDepth 100000 in
set_option maxHeartbeats 4000000 in
theorem l_X1_cameBy_4 (X : CX p s m args c cX1_cameBy 4 RX1 D aC ad sg A H0) (v1 : Int) (hv1 : inR v1) {M : Mem} {out : Int × Int} (HE : ∀ (y2 : Int) (y3 : Int) (H : Heap) (locs : List Loc) (ls : Array Slot), out = (y2, y3) → inR y2 → inR y3 → lv_has ls 4 [(0, .ref (ad 3)), (1, .int (i2 v1)), (2, .int (i2 y2)), (3, .int (i2 y3))] → WS D aC ad A H0 M H locs → W p l e rm_X1_cameBy s m args below meth c H locs 0 0 Q (F0 m 31 ls [])) : ∀ (n : Nat) (v2 : Int) (v3 : Int), whl (fun s => f_X1_cameBy_s4 v1 M s.1 s.2) n (v2, v3) = some out → inR v2 → inR v3 → ∀ {H : Heap} {locs : List Loc} {ls : Array Slot}, lv_has ls 4 [(0, .ref (ad 3)), (1, .int (i2 v1)), (2, .int (i2 v2)), (3, .int (i2 v3))] → WS D aC ad A H0 M H locs → W p l e rm_X1_cameBy s m args below meth c H locs 0 0 Q (F0 m 4 ls []) := by
  intro n
  induction n with
  | zero => intro v2 v3 hf; exact (whl_zero hf).elim
  | succ n ih =>
    intro v2 v3 hf hv2 hv3 H locs ls hl w
    obtain ⟨o, hf, hk1, hk2⟩ := whl_step hf
    exact b_X1_cameBy_s4 X v1 hv1 (fun y2 y3 H locs ls eo hy2 hy3 hl w => ih y2 y3 (hk1 _ eo) hy2 hy3 hl w) (fun y2 y3 H locs ls eo hy2 hy3 hl w => HE y2 y3 H locs ls (hk2 _ eo).symm hy2 hy3 hl w) v2 hv2 v3 hv3 hf hl w
set_option maxRecDepth 100000 in
set_option maxHeartbeats 4000000 in
theorem b_X1_cameBy_j31 (X : CX p s m args c cX1_cameBy 4 RX1 D aC ad sg A H0) {M : Mem} {o : Int} (HR : ∀ (r : Int) (H : Heap) (locs : List Loc) (pc : Nat) (ls : Array Slot), o = r → inR r → WS D aC ad A H0 M H locs → decode cX1_cameBy pc = .ok (.ireturn, 1) → W p l e rm_X1_cameBy s m args below meth c H locs 0 0 Q (F0 m pc ls [.int (i2 r)])) (v2 : Int) (hv2 : inR v2) (hf : f_X1_cameBy_j31 v2 M = some o) {H : Heap} {locs : List Loc} {ls : Array Slot} (hl : lv_has ls 4 [(2, .int (i2 v2))]) (w : WS D aC ad A H0 M H locs) : W p l e rm_X1_cameBy s m args below meth c H locs 0 0 Q (F0 m 31 ls []) := by
  have hx := X.1.1
  have hb := X.1.2.1
  unfold f_X1_cameBy_j31 at hf
  refine lv_iload_n hx hb dX1_cameBy_31 rfl (lv_at hl 0 rfl) ?_
  exact HR v2 _ _ _ _ (Option.some.inj hf).symm hv2 w dX1_cameBy_32
set_option maxRecDepth 100000 in
set_option maxHeartbeats 4000000 in
theorem b_X1_cameBy_0 (X : CX p s m args c cX1_cameBy 4 RX1 D aC ad sg A H0) {M : Mem} {o : Int} (HR : ∀ (r : Int) (H : Heap) (locs : List Loc) (pc : Nat) (ls : Array Slot), o = r → inR r → WS D aC ad A H0 M H locs → decode cX1_cameBy pc = .ok (.ireturn, 1) → W p l e rm_X1_cameBy s m args below meth c H locs 0 0 Q (F0 m pc ls [.int (i2 r)])) (p1 : Int) (hp1 : inR p1) (hf : f_X1_cameBy p1 M = some o) {H : Heap} {locs : List Loc} {ls : Array Slot} (hl : lv_has ls 4 [(0, .ref (ad 3)), (1, .int (i2 p1))]) (w : WS D aC ad A H0 M H locs) : W p l e rm_X1_cameBy s m args below meth c H locs 0 0 Q (F0 m 0 ls []) := by
  have hx := X.1.1
  have hb := X.1.2.1
  unfold f_X1_cameBy at hf
  refine g_iconst X dX1_cameBy_0 ?_
  refine g_istn (v := 0) (lv' := [(2, .int (i2 0)), (0, .ref (ad 3)), (1, .int (i2 p1))]) X rfl dX1_cameBy_1 rfl hl (by decide) rfl (fun ls hl => ?_)
  refine g_iconst X dX1_cameBy_2 ?_
  refine g_istn (v := 0) (lv' := [(3, .int (i2 0)), (2, .int (i2 0)), (0, .ref (ad 3)), (1, .int (i2 p1))]) X rfl dX1_cameBy_3 rfl hl (by decide) rfl (fun ls hl => ?_)
  obtain ⟨q, hq, h1⟩ := obn_some hf
  exact l_X1_cameBy_4 X p1 hp1 (out := q) (fun y2 y3 H locs ls eq hy2 hy3 hl w => b_X1_cameBy_j31 X  HR y2 hy2 (by subst eq; exact h1) (lv_sub hl [2] rfl) w)  FU 0 0 hq (inL rfl) (inL rfl) (lv_sub hl [2, 3, 1, 0] rfl) w
set_option maxRecDepth 100000 in
set_option maxHeartbeats 4000000 in
theorem k_X1_cameBy {l : Launch} {D : va_G} {aC : Nat → ClassId} {ad : Nat → Nat} {sg : SG} (hi : Inj ad) (p1 : Int) (hp1 : inR p1) {M : Mem} (hM : inM M) {r : Int} (hf : f_X1_cameBy p1 M = some r) : MetI l D aC ad sg yX1_cameBy cX1_cameBy 4 (some .int) rm_X1_cameBy 0 0 [.ref (ad 3), .int (i2 p1)] M r M := by
  refine MetI.ofI (by decide +kernel) (nle rfl) hi hM (fun p e s m args below meth c Q H0 ls X hl w hret => ?_)
  exact b_X1_cameBy_0 X  (fun r1 H locs pc ls eo hP w dg => by cases eo; exact hret H locs pc ls hP w dg) p1 hp1 hf hl w
set_option maxRecDepth 100000 in
set_option maxHeartbeats 4000000 in
theorem b_X1_toldWishes_s4 (X : CX p s m args c cX1_toldWishes 4 RX1 D aC ad sg A H0) (v1 : Int) (hv1 : inR v1) {M : Mem} {o : (Int × Int) ⊕ (Int × Int)} (HC : ∀ (y2 : Int) (y3 : Int) (H : Heap) (locs : List Loc) (ls : Array Slot), o = .inl (y2, y3) → inR y2 → inR y3 → lv_has ls 4 [(0, .ref (ad 3)), (1, .int (i2 v1)), (2, .int (i2 y2)), (3, .int (i2 y3))] → WS D aC ad A H0 M H locs → W p l e rm_X1_toldWishes s m args below meth c H locs 0 0 Q (F0 m 4 ls [])) (HE : ∀ (y2 : Int) (y3 : Int) (H : Heap) (locs : List Loc) (ls : Array Slot), o = .inr (y2, y3) → inR y2 → inR y3 → lv_has ls 4 [(0, .ref (ad 3)), (1, .int (i2 v1)), (2, .int (i2 y2)), (3, .int (i2 y3))] → WS D aC ad A H0 M H locs → W p l e rm_X1_toldWishes s m args below meth c H locs 0 0 Q (F0 m 32 ls [])) (v2 : Int) (hv2 : inR v2) (v3 : Int) (hv3 : inR v3) (hf : f_X1_toldWishes_s4 v1 M v2 v3 = some o) {H : Heap} {locs : List Loc} {ls : Array Slot} (hl : lv_has ls 4 [(0, .ref (ad 3)), (1, .int (i2 v1)), (2, .int (i2 v2)), (3, .int (i2 v3))]) (w : WS D aC ad A H0 M H locs) : W p l e rm_X1_toldWishes s m args below meth c H locs 0 0 Q (F0 m 4 ls []) := by
  have hx := X.1.1
  have hb := X.1.2.1
  unfold f_X1_toldWishes_s4 at hf
  refine lv_iload_n hx hb dX1_toldWishes_4 rfl (lv_at hl 3 rfl) ?_
  refine g_iconst X dX1_toldWishes_5 ?_
  refine g_icmp_ge (tgt := 32) X hv3 (inL rfl) dX1_toldWishes_6 (by decide) (fun cd => ?_) (fun cd => ?_)
  · replace hf := ite_t cd hf
    exact HE v2 v3 _ _ _ (Option.some.inj hf).symm hv2 hv3 hl w
  · replace hf := ite_f cd hf
    refine lv_aload_n hx hb dX1_toldWishes_9 rfl (lv_at hl 0 rfl) ?_
    refine g_getr X w fg_X1_27 KD_3 FR_3_6 dX1_toldWishes_10 ?_
    refine lv_iload_n hx hb dX1_toldWishes_13 rfl (lv_at hl 1 rfl) ?_
    refine g_iconst X dX1_toldWishes_14 ?_
    refine g_imul X dX1_toldWishes_15 ?_
    refine lv_iload_n hx hb dX1_toldWishes_16 rfl (lv_at hl 3 rfl) ?_
    refine g_iadd X dX1_toldWishes_17 ?_
    obtain ⟨hg, hf⟩ := gd_some hf
    refine g_iald X w KD_9 (inR_wrap _) hg dX1_toldWishes_18 ?_
    refine g_iconst X dX1_toldWishes_19 ?_
    refine g_icmp_eq (tgt := 26) X (w.2.2 _ _) (inL rfl) dX1_toldWishes_20 (by decide) (fun cd_2 => ?_) (fun cd_2 => ?_)
    · replace hf := ite_t cd_2 hf
      obtain ⟨v3_2, ev3_2, hf⟩ := lt_some hf
      have hv3_2 : inR v3_2 := inR_of ev3_2 (inR_wrap _)
      refine lv_iinc (v := i2 v3_2) (lv' := [(3, .int (i2 v3_2)), (0, .ref (ad 3)), (1, .int (i2 v1)), (2, .int (i2 v2))]) hx hb dX1_toldWishes_26 hl (k := 3) rfl (by rw [ev3_2]; exact i2_add _ _) (by decide) rfl (fun ls hl => ?_)
      refine lv_goto (tgt := 4) hx hb dX1_toldWishes_29 (by decide) ?_
      exact HC v2 v3_2 _ _ _ (Option.some.inj hf).symm hv2 hv3_2 (lv_sub hl [1, 2, 3, 0] rfl) w
    · replace hf := ite_f cd_2 hf
      obtain ⟨v2_2, ev2_2, hf⟩ := lt_some hf
      have hv2_2 : inR v2_2 := inR_of ev2_2 (inR_wrap _)
      refine lv_iinc (v := i2 v2_2) (lv' := [(2, .int (i2 v2_2)), (0, .ref (ad 3)), (1, .int (i2 v1)), (3, .int (i2 v3))]) hx hb dX1_toldWishes_23 hl (k := 2) rfl (by rw [ev2_2]; exact i2_add _ _) (by decide) rfl (fun ls hl => ?_)
      obtain ⟨v3_3, ev3_3, hf⟩ := lt_some hf
      have hv3_3 : inR v3_3 := inR_of ev3_3 (inR_wrap _)
      refine lv_iinc (v := i2 v3_3) (lv' := [(3, .int (i2 v3_3)), (2, .int (i2 v2_2)), (0, .ref (ad 3)), (1, .int (i2 v1))]) hx hb dX1_toldWishes_26 hl (k := 3) rfl (by rw [ev3_3]; exact i2_add _ _) (by decide) rfl (fun ls hl => ?_)
      refine lv_goto (tgt := 4) hx hb dX1_toldWishes_29 (by decide) ?_
      exact HC v2_2 v3_3 _ _ _ (Option.some.inj hf).symm hv2_2 hv3_3 (lv_sub hl [2, 3, 1, 0] rfl) w
set_option maxRecDepth 100000 in
set_option maxHeartbeats 4000000 in
theorem l_X1_toldWishes_4 (X : CX p s m args c cX1_toldWishes 4 RX1 D aC ad sg A H0) (v1 : Int) (hv1 : inR v1) {M : Mem} {out : Int × Int} (HE : ∀ (y2 : Int) (y3 : Int) (H : Heap) (locs : List Loc) (ls : Array Slot), out = (y2, y3) → inR y2 → inR y3 → lv_has ls 4 [(0, .ref (ad 3)), (1, .int (i2 v1)), (2, .int (i2 y2)), (3, .int (i2 y3))] → WS D aC ad A H0 M H locs → W p l e rm_X1_toldWishes s m args below meth c H locs 0 0 Q (F0 m 32 ls [])) : ∀ (n : Nat) (v2 : Int) (v3 : Int), whl (fun s => f_X1_toldWishes_s4 v1 M s.1 s.2) n (v2, v3) = some out → inR v2 → inR v3 → ∀ {H : Heap} {locs : List Loc} {ls : Array Slot}, lv_has ls 4 [(0, .ref (ad 3)), (1, .int (i2 v1)), (2, .int (i2 v2)), (3, .int (i2 v3))] → WS D aC ad A H0 M H locs → W p l e rm_X1_toldWishes s m args below meth c H locs 0 0 Q (F0 m 4 ls []) := by
  intro n
  induction n with
  | zero => intro v2 v3 hf; exact (whl_zero hf).elim
  | succ n ih =>
    intro v2 v3 hf hv2 hv3 H locs ls hl w
    obtain ⟨o, hf, hk1, hk2⟩ := whl_step hf
    exact b_X1_toldWishes_s4 X v1 hv1 (fun y2 y3 H locs ls eo hy2 hy3 hl w => ih y2 y3 (hk1 _ eo) hy2 hy3 hl w) (fun y2 y3 H locs ls eo hy2 hy3 hl w => HE y2 y3 H locs ls (hk2 _ eo).symm hy2 hy3 hl w) v2 hv2 v3 hv3 hf hl w
set_option maxRecDepth 100000 in
set_option maxHeartbeats 4000000 in
theorem b_X1_toldWishes_j32 (X : CX p s m args c cX1_toldWishes 4 RX1 D aC ad sg A H0) {M : Mem} {o : Int} (HR : ∀ (r : Int) (H : Heap) (locs : List Loc) (pc : Nat) (ls : Array Slot), o = r → inR r → WS D aC ad A H0 M H locs → decode cX1_toldWishes pc = .ok (.ireturn, 1) → W p l e rm_X1_toldWishes s m args below meth c H locs 0 0 Q (F0 m pc ls [.int (i2 r)])) (v2 : Int) (hv2 : inR v2) (hf : f_X1_toldWishes_j32 v2 M = some o) {H : Heap} {locs : List Loc} {ls : Array Slot} (hl : lv_has ls 4 [(2, .int (i2 v2))]) (w : WS D aC ad A H0 M H locs) : W p l e rm_X1_toldWishes s m args below meth c H locs 0 0 Q (F0 m 32 ls []) := by
  have hx := X.1.1
  have hb := X.1.2.1
  unfold f_X1_toldWishes_j32 at hf
  refine lv_iload_n hx hb dX1_toldWishes_32 rfl (lv_at hl 0 rfl) ?_
  exact HR v2 _ _ _ _ (Option.some.inj hf).symm hv2 w dX1_toldWishes_33
set_option maxRecDepth 100000 in
set_option maxHeartbeats 4000000 in
theorem b_X1_toldWishes_0 (X : CX p s m args c cX1_toldWishes 4 RX1 D aC ad sg A H0) {M : Mem} {o : Int} (HR : ∀ (r : Int) (H : Heap) (locs : List Loc) (pc : Nat) (ls : Array Slot), o = r → inR r → WS D aC ad A H0 M H locs → decode cX1_toldWishes pc = .ok (.ireturn, 1) → W p l e rm_X1_toldWishes s m args below meth c H locs 0 0 Q (F0 m pc ls [.int (i2 r)])) (p1 : Int) (hp1 : inR p1) (hf : f_X1_toldWishes p1 M = some o) {H : Heap} {locs : List Loc} {ls : Array Slot} (hl : lv_has ls 4 [(0, .ref (ad 3)), (1, .int (i2 p1))]) (w : WS D aC ad A H0 M H locs) : W p l e rm_X1_toldWishes s m args below meth c H locs 0 0 Q (F0 m 0 ls []) := by
  have hx := X.1.1
  have hb := X.1.2.1
  unfold f_X1_toldWishes at hf
  refine g_iconst X dX1_toldWishes_0 ?_
  refine g_istn (v := 0) (lv' := [(2, .int (i2 0)), (0, .ref (ad 3)), (1, .int (i2 p1))]) X rfl dX1_toldWishes_1 rfl hl (by decide) rfl (fun ls hl => ?_)
  refine g_iconst X dX1_toldWishes_2 ?_
  refine g_istn (v := 0) (lv' := [(3, .int (i2 0)), (2, .int (i2 0)), (0, .ref (ad 3)), (1, .int (i2 p1))]) X rfl dX1_toldWishes_3 rfl hl (by decide) rfl (fun ls hl => ?_)
  obtain ⟨q, hq, h1⟩ := obn_some hf
  exact l_X1_toldWishes_4 X p1 hp1 (out := q) (fun y2 y3 H locs ls eq hy2 hy3 hl w => b_X1_toldWishes_j32 X  HR y2 hy2 (by subst eq; exact h1) (lv_sub hl [2] rfl) w)  FU 0 0 hq (inL rfl) (inL rfl) (lv_sub hl [2, 3, 1, 0] rfl) w
set_option maxRecDepth 100000 in
set_option maxHeartbeats 4000000 in
theorem k_X1_toldWishes {l : Launch} {D : va_G} {aC : Nat → ClassId} {ad : Nat → Nat} {sg : SG} (hi : Inj ad) (p1 : Int) (hp1 : inR p1) {M : Mem} (hM : inM M) {r : Int} (hf : f_X1_toldWishes p1 M = some r) : MetI l D aC ad sg yX1_toldWishes cX1_toldWishes 4 (some .int) rm_X1_toldWishes 0 0 [.ref (ad 3), .int (i2 p1)] M r M := by
  refine MetI.ofI (by decide +kernel) (nle rfl) hi hM (fun p e s m args below meth c Q H0 ls X hl w hret => ?_)
  exact b_X1_toldWishes_0 X  (fun r1 H locs pc ls eo hP w dg => by cases eo; exact hret H locs pc ls hP w dg) p1 hp1 hf hl w
set_option maxRecDepth 100000 in
set_option maxHeartbeats 4000000 in
theorem b_X1_naming_s4 (X : CX p s m args c cX1_naming 4 RX1 D aC ad sg A H0) (v1 : Int) (hv1 : inR v1) {M : Mem} {o : (Int × Int) ⊕ (Int × Int)} (HC : ∀ (y2 : Int) (y3 : Int) (H : Heap) (locs : List Loc) (ls : Array Slot), o = .inl (y2, y3) → inR y2 → inR y3 → lv_has ls 4 [(0, .ref (ad 3)), (1, .int (i2 v1)), (2, .int (i2 y2)), (3, .int (i2 y3))] → WS D aC ad A H0 M H locs → W p l e rm_X1_naming s m args below meth c H locs 0 0 Q (F0 m 4 ls [])) (HE : ∀ (y2 : Int) (y3 : Int) (H : Heap) (locs : List Loc) (ls : Array Slot), o = .inr (y2, y3) → inR y2 → inR y3 → lv_has ls 4 [(0, .ref (ad 3)), (1, .int (i2 v1)), (2, .int (i2 y2)), (3, .int (i2 y3))] → WS D aC ad A H0 M H locs → W p l e rm_X1_naming s m args below meth c H locs 0 0 Q (F0 m 33 ls [])) (v2 : Int) (hv2 : inR v2) (v3 : Int) (hv3 : inR v3) (hf : f_X1_naming_s4 v1 M v2 v3 = some o) {H : Heap} {locs : List Loc} {ls : Array Slot} (hl : lv_has ls 4 [(0, .ref (ad 3)), (1, .int (i2 v1)), (2, .int (i2 v2)), (3, .int (i2 v3))]) (w : WS D aC ad A H0 M H locs) : W p l e rm_X1_naming s m args below meth c H locs 0 0 Q (F0 m 4 ls []) := by
  have hx := X.1.1
  have hb := X.1.2.1
  unfold f_X1_naming_s4 at hf
  refine lv_iload_n hx hb dX1_naming_4 rfl (lv_at hl 3 rfl) ?_
  refine lv_aload_n hx hb dX1_naming_5 rfl (lv_at hl 0 rfl) ?_
  refine g_geti X w fg_X1_61 KD_3 FR_3_0 dX1_naming_6 ?_
  refine g_iconst X dX1_naming_9 ?_
  refine g_imul X dX1_naming_10 ?_
  refine g_icmp_ge (tgt := 33) X hv3 (inR_wrap _) dX1_naming_11 (by decide) (fun cd => ?_) (fun cd => ?_)
  · replace hf := ite_t cd hf
    exact HE v2 v3 _ _ _ (Option.some.inj hf).symm hv2 hv3 hl w
  · replace hf := ite_f cd hf
    refine lv_aload_n hx hb dX1_naming_14 rfl (lv_at hl 0 rfl) ?_
    refine g_getr X w fg_X1_27 KD_3 FR_3_6 dX1_naming_15 ?_
    refine lv_iload_n hx hb dX1_naming_18 rfl (lv_at hl 3 rfl) ?_
    obtain ⟨hg, hf⟩ := gd_some hf
    refine g_iald X w KD_9 hv3 hg dX1_naming_19 ?_
    refine lv_iload_n hx hb dX1_naming_20 rfl (lv_at hl 1 rfl) ?_
    refine g_icmp_ne (tgt := 27) X (w.2.2 _ _) hv1 dX1_naming_21 (by decide) (fun cd_2 => ?_) (fun cd_2 => ?_)
    · replace hf := ite_f cd_2 hf
      obtain ⟨v3_2, ev3_2, hf⟩ := lt_some hf
      have hv3_2 : inR v3_2 := inR_of ev3_2 (inR_wrap _)
      refine lv_iinc (v := i2 v3_2) (lv' := [(3, .int (i2 v3_2)), (0, .ref (ad 3)), (1, .int (i2 v1)), (2, .int (i2 v2))]) hx hb dX1_naming_27 hl (k := 3) rfl (by rw [ev3_2]; exact i2_add _ _) (by decide) rfl (fun ls hl => ?_)
      refine lv_goto (tgt := 4) hx hb dX1_naming_30 (by decide) ?_
      exact HC v2 v3_2 _ _ _ (Option.some.inj hf).symm hv2 hv3_2 (lv_sub hl [1, 2, 3, 0] rfl) w
    · replace hf := ite_t cd_2 hf
      obtain ⟨v2_2, ev2_2, hf⟩ := lt_some hf
      have hv2_2 : inR v2_2 := inR_of ev2_2 (inR_wrap _)
      refine lv_iinc (v := i2 v2_2) (lv' := [(2, .int (i2 v2_2)), (0, .ref (ad 3)), (1, .int (i2 v1)), (3, .int (i2 v3))]) hx hb dX1_naming_24 hl (k := 2) rfl (by rw [ev2_2]; exact i2_add _ _) (by decide) rfl (fun ls hl => ?_)
      obtain ⟨v3_3, ev3_3, hf⟩ := lt_some hf
      have hv3_3 : inR v3_3 := inR_of ev3_3 (inR_wrap _)
      refine lv_iinc (v := i2 v3_3) (lv' := [(3, .int (i2 v3_3)), (2, .int (i2 v2_2)), (0, .ref (ad 3)), (1, .int (i2 v1))]) hx hb dX1_naming_27 hl (k := 3) rfl (by rw [ev3_3]; exact i2_add _ _) (by decide) rfl (fun ls hl => ?_)
      refine lv_goto (tgt := 4) hx hb dX1_naming_30 (by decide) ?_
      exact HC v2_2 v3_3 _ _ _ (Option.some.inj hf).symm hv2_2 hv3_3 (lv_sub hl [2, 3, 1, 0] rfl) w
set_option maxRecDepth 100000 in
set_option maxHeartbeats 4000000 in
theorem l_X1_naming_4 (X : CX p s m args c cX1_naming 4 RX1 D aC ad sg A H0) (v1 : Int) (hv1 : inR v1) {M : Mem} {out : Int × Int} (HE : ∀ (y2 : Int) (y3 : Int) (H : Heap) (locs : List Loc) (ls : Array Slot), out = (y2, y3) → inR y2 → inR y3 → lv_has ls 4 [(0, .ref (ad 3)), (1, .int (i2 v1)), (2, .int (i2 y2)), (3, .int (i2 y3))] → WS D aC ad A H0 M H locs → W p l e rm_X1_naming s m args below meth c H locs 0 0 Q (F0 m 33 ls [])) : ∀ (n : Nat) (v2 : Int) (v3 : Int), whl (fun s => f_X1_naming_s4 v1 M s.1 s.2) n (v2, v3) = some out → inR v2 → inR v3 → ∀ {H : Heap} {locs : List Loc} {ls : Array Slot}, lv_has ls 4 [(0, .ref (ad 3)), (1, .int (i2 v1)), (2, .int (i2 v2)), (3, .int (i2 v3))] → WS D aC ad A H0 M H locs → W p l e rm_X1_naming s m args below meth c H locs 0 0 Q (F0 m 4 ls []) := by
  intro n
  induction n with
  | zero => intro v2 v3 hf; exact (whl_zero hf).elim
  | succ n ih =>
    intro v2 v3 hf hv2 hv3 H locs ls hl w
    obtain ⟨o, hf, hk1, hk2⟩ := whl_step hf
    exact b_X1_naming_s4 X v1 hv1 (fun y2 y3 H locs ls eo hy2 hy3 hl w => ih y2 y3 (hk1 _ eo) hy2 hy3 hl w) (fun y2 y3 H locs ls eo hy2 hy3 hl w => HE y2 y3 H locs ls (hk2 _ eo).symm hy2 hy3 hl w) v2 hv2 v3 hv3 hf hl w
set_option maxRecDepth 100000 in
set_option maxHeartbeats 4000000 in
theorem b_X1_naming_j33 (X : CX p s m args c cX1_naming 4 RX1 D aC ad sg A H0) {M : Mem} {o : Int} (HR : ∀ (r : Int) (H : Heap) (locs : List Loc) (pc : Nat) (ls : Array Slot), o = r → inR r → WS D aC ad A H0 M H locs → decode cX1_naming pc = .ok (.ireturn, 1) → W p l e rm_X1_naming s m args below meth c H locs 0 0 Q (F0 m pc ls [.int (i2 r)])) (v2 : Int) (hv2 : inR v2) (hf : f_X1_naming_j33 v2 M = some o) {H : Heap} {locs : List Loc} {ls : Array Slot} (hl : lv_has ls 4 [(2, .int (i2 v2))]) (w : WS D aC ad A H0 M H locs) : W p l e rm_X1_naming s m args below meth c H locs 0 0 Q (F0 m 33 ls []) := by
  have hx := X.1.1
  have hb := X.1.2.1
  unfold f_X1_naming_j33 at hf
  refine lv_iload_n hx hb dX1_naming_33 rfl (lv_at hl 0 rfl) ?_
  exact HR v2 _ _ _ _ (Option.some.inj hf).symm hv2 w dX1_naming_34
set_option maxRecDepth 100000 in
set_option maxHeartbeats 4000000 in
theorem b_X1_naming_0 (X : CX p s m args c cX1_naming 4 RX1 D aC ad sg A H0) {M : Mem} {o : Int} (HR : ∀ (r : Int) (H : Heap) (locs : List Loc) (pc : Nat) (ls : Array Slot), o = r → inR r → WS D aC ad A H0 M H locs → decode cX1_naming pc = .ok (.ireturn, 1) → W p l e rm_X1_naming s m args below meth c H locs 0 0 Q (F0 m pc ls [.int (i2 r)])) (p1 : Int) (hp1 : inR p1) (hf : f_X1_naming p1 M = some o) {H : Heap} {locs : List Loc} {ls : Array Slot} (hl : lv_has ls 4 [(0, .ref (ad 3)), (1, .int (i2 p1))]) (w : WS D aC ad A H0 M H locs) : W p l e rm_X1_naming s m args below meth c H locs 0 0 Q (F0 m 0 ls []) := by
  have hx := X.1.1
  have hb := X.1.2.1
  unfold f_X1_naming at hf
  refine g_iconst X dX1_naming_0 ?_
  refine g_istn (v := 0) (lv' := [(2, .int (i2 0)), (0, .ref (ad 3)), (1, .int (i2 p1))]) X rfl dX1_naming_1 rfl hl (by decide) rfl (fun ls hl => ?_)
  refine g_iconst X dX1_naming_2 ?_
  refine g_istn (v := 0) (lv' := [(3, .int (i2 0)), (2, .int (i2 0)), (0, .ref (ad 3)), (1, .int (i2 p1))]) X rfl dX1_naming_3 rfl hl (by decide) rfl (fun ls hl => ?_)
  obtain ⟨q, hq, h1⟩ := obn_some hf
  exact l_X1_naming_4 X p1 hp1 (out := q) (fun y2 y3 H locs ls eq hy2 hy3 hl w => b_X1_naming_j33 X  HR y2 hy2 (by subst eq; exact h1) (lv_sub hl [2] rfl) w)  FU 0 0 hq (inL rfl) (inL rfl) (lv_sub hl [2, 3, 1, 0] rfl) w
set_option maxRecDepth 100000 in
set_option maxHeartbeats 4000000 in
theorem k_X1_naming {l : Launch} {D : va_G} {aC : Nat → ClassId} {ad : Nat → Nat} {sg : SG} (hi : Inj ad) (p1 : Int) (hp1 : inR p1) {M : Mem} (hM : inM M) {r : Int} (hf : f_X1_naming p1 M = some r) : MetI l D aC ad sg yX1_naming cX1_naming 4 (some .int) rm_X1_naming 0 0 [.ref (ad 3), .int (i2 p1)] M r M := by
  refine MetI.ofI (by decide +kernel) (nle rfl) hi hM (fun p e s m args below meth c Q H0 ls X hl w hret => ?_)
  exact b_X1_naming_0 X  (fun r1 H locs pc ls eo hP w dg => by cases eo; exact hret H locs pc ls hP w dg) p1 hp1 hf hl w
set_option maxRecDepth 100000 in
set_option maxHeartbeats 4000000 in
theorem b_X1_wishedOnes_s4 (X : CX p s m args c cX1_wishedOnes 5 RX1 D aC ad sg A H0) (v1 : Int) (hv1 : inR v1) {M : Mem} {o : (Int × Int) ⊕ (Int × Int)} (HC : ∀ (y2 : Int) (y3 : Int) (H : Heap) (locs : List Loc) (ls : Array Slot), o = .inl (y2, y3) → inR y2 → inR y3 → lv_has ls 5 [(0, .ref (ad 3)), (1, .int (i2 v1)), (2, .int (i2 y2)), (3, .int (i2 y3))] → WS D aC ad A H0 M H locs → W p l e rm_X1_wishedOnes s m args below meth c H locs 0 0 Q (F0 m 4 ls [])) (HE : ∀ (y2 : Int) (y3 : Int) (H : Heap) (locs : List Loc) (ls : Array Slot), o = .inr (y2, y3) → inR y2 → inR y3 → lv_has ls 5 [(0, .ref (ad 3)), (1, .int (i2 v1)), (2, .int (i2 y2)), (3, .int (i2 y3))] → WS D aC ad A H0 M H locs → W p l e rm_X1_wishedOnes s m args below meth c H locs 0 0 Q (F0 m 40 ls [])) (v2 : Int) (hv2 : inR v2) (v3 : Int) (hv3 : inR v3) (hf : f_X1_wishedOnes_s4 v1 M v2 v3 = some o) {H : Heap} {locs : List Loc} {ls : Array Slot} (hl : lv_has ls 5 [(0, .ref (ad 3)), (1, .int (i2 v1)), (2, .int (i2 v2)), (3, .int (i2 v3))]) (w : WS D aC ad A H0 M H locs) : W p l e rm_X1_wishedOnes s m args below meth c H locs 0 0 Q (F0 m 4 ls []) := by
  have hx := X.1.1
  have hb := X.1.2.1
  unfold f_X1_wishedOnes_s4 at hf
  refine lv_iload_n hx hb dX1_wishedOnes_4 rfl (lv_at hl 3 rfl) ?_
  refine g_iconst X dX1_wishedOnes_5 ?_
  refine g_icmp_ge (tgt := 40) X hv3 (inL rfl) dX1_wishedOnes_6 (by decide) (fun cd => ?_) (fun cd => ?_)
  · replace hf := ite_t cd hf
    exact HE v2 v3 _ _ _ (Option.some.inj hf).symm hv2 hv3 hl w
  · replace hf := ite_f cd hf
    refine lv_aload_n hx hb dX1_wishedOnes_9 rfl (lv_at hl 0 rfl) ?_
    refine g_getr X w fg_X1_27 KD_3 FR_3_6 dX1_wishedOnes_10 ?_
    refine lv_iload_n hx hb dX1_wishedOnes_13 rfl (lv_at hl 1 rfl) ?_
    refine g_iconst X dX1_wishedOnes_14 ?_
    refine g_imul X dX1_wishedOnes_15 ?_
    refine lv_iload_n hx hb dX1_wishedOnes_16 rfl (lv_at hl 3 rfl) ?_
    refine g_iadd X dX1_wishedOnes_17 ?_
    obtain ⟨hg, hf⟩ := gd_some hf
    refine g_iald X w KD_9 (inR_wrap _) hg dX1_wishedOnes_18 ?_
    obtain ⟨v4, ev4, hf⟩ := lt_some hf
    have hv4 : inR v4 := inR_of ev4 (w.2.2 _ _)
    refine g_ist (v := v4) (lv' := [(4, .int (i2 v4)), (0, .ref (ad 3)), (1, .int (i2 v1)), (2, .int (i2 v2)), (3, .int (i2 v3))]) X ev4 dX1_wishedOnes_19 hl (by decide) rfl (fun ls hl => ?_)
    refine lv_iload hx hb dX1_wishedOnes_21 (lv_at hl 0 rfl) ?_
    refine g_iconst X dX1_wishedOnes_23 ?_
    refine g_icmp_eq (tgt := 34) X hv4 (inL rfl) dX1_wishedOnes_24 (by decide) (fun cd_2 => ?_) (fun cd_2 => ?_)
    · replace hf := ite_t cd_2 hf
      obtain ⟨v3_2, ev3_2, hf⟩ := lt_some hf
      have hv3_2 : inR v3_2 := inR_of ev3_2 (inR_wrap _)
      refine lv_iinc (v := i2 v3_2) (lv' := [(3, .int (i2 v3_2)), (4, .int (i2 v4)), (0, .ref (ad 3)), (1, .int (i2 v1)), (2, .int (i2 v2))]) hx hb dX1_wishedOnes_34 hl (k := 4) rfl (by rw [ev3_2]; exact i2_add _ _) (by decide) rfl (fun ls hl => ?_)
      refine lv_goto (tgt := 4) hx hb dX1_wishedOnes_37 (by decide) ?_
      exact HC v2 v3_2 _ _ _ (Option.some.inj hf).symm hv2 hv3_2 (lv_sub hl [2, 3, 4, 0] rfl) w
    · replace hf := ite_f cd_2 hf
      refine lv_iload_n hx hb dX1_wishedOnes_27 rfl (lv_at hl 3 rfl) ?_
      refine g_iconst X dX1_wishedOnes_28 ?_
      refine lv_iload hx hb dX1_wishedOnes_29 (lv_at hl 0 rfl) ?_
      refine g_ishl X dX1_wishedOnes_31 ?_
      refine g_ior X dX1_wishedOnes_32 ?_
      obtain ⟨v2_2, ev2_2, hf⟩ := lt_some hf
      have hv2_2 : inR v2_2 := inR_of ev2_2 (inR_toInt _)
      refine g_istn (v := v2_2) (lv' := [(2, .int (i2 v2_2)), (4, .int (i2 v4)), (0, .ref (ad 3)), (1, .int (i2 v1)), (3, .int (i2 v3))]) X ev2_2 dX1_wishedOnes_33 rfl hl (by decide) rfl (fun ls hl => ?_)
      obtain ⟨v3_3, ev3_3, hf⟩ := lt_some hf
      have hv3_3 : inR v3_3 := inR_of ev3_3 (inR_wrap _)
      refine lv_iinc (v := i2 v3_3) (lv' := [(3, .int (i2 v3_3)), (2, .int (i2 v2_2)), (4, .int (i2 v4)), (0, .ref (ad 3)), (1, .int (i2 v1))]) hx hb dX1_wishedOnes_34 hl (k := 4) rfl (by rw [ev3_3]; exact i2_add _ _) (by decide) rfl (fun ls hl => ?_)
      refine lv_goto (tgt := 4) hx hb dX1_wishedOnes_37 (by decide) ?_
      exact HC v2_2 v3_3 _ _ _ (Option.some.inj hf).symm hv2_2 hv3_3 (lv_sub hl [3, 4, 1, 0] rfl) w
set_option maxRecDepth 100000 in
set_option maxHeartbeats 4000000 in
theorem l_X1_wishedOnes_4 (X : CX p s m args c cX1_wishedOnes 5 RX1 D aC ad sg A H0) (v1 : Int) (hv1 : inR v1) {M : Mem} {out : Int × Int} (HE : ∀ (y2 : Int) (y3 : Int) (H : Heap) (locs : List Loc) (ls : Array Slot), out = (y2, y3) → inR y2 → inR y3 → lv_has ls 5 [(0, .ref (ad 3)), (1, .int (i2 v1)), (2, .int (i2 y2)), (3, .int (i2 y3))] → WS D aC ad A H0 M H locs → W p l e rm_X1_wishedOnes s m args below meth c H locs 0 0 Q (F0 m 40 ls [])) : ∀ (n : Nat) (v2 : Int) (v3 : Int), whl (fun s => f_X1_wishedOnes_s4 v1 M s.1 s.2) n (v2, v3) = some out → inR v2 → inR v3 → ∀ {H : Heap} {locs : List Loc} {ls : Array Slot}, lv_has ls 5 [(0, .ref (ad 3)), (1, .int (i2 v1)), (2, .int (i2 v2)), (3, .int (i2 v3))] → WS D aC ad A H0 M H locs → W p l e rm_X1_wishedOnes s m args below meth c H locs 0 0 Q (F0 m 4 ls []) := by
  intro n
  induction n with
  | zero => intro v2 v3 hf; exact (whl_zero hf).elim
  | succ n ih =>
    intro v2 v3 hf hv2 hv3 H locs ls hl w
    obtain ⟨o, hf, hk1, hk2⟩ := whl_step hf
    exact b_X1_wishedOnes_s4 X v1 hv1 (fun y2 y3 H locs ls eo hy2 hy3 hl w => ih y2 y3 (hk1 _ eo) hy2 hy3 hl w) (fun y2 y3 H locs ls eo hy2 hy3 hl w => HE y2 y3 H locs ls (hk2 _ eo).symm hy2 hy3 hl w) v2 hv2 v3 hv3 hf hl w
set_option maxRecDepth 100000 in
set_option maxHeartbeats 4000000 in
theorem b_X1_wishedOnes_j40 (X : CX p s m args c cX1_wishedOnes 5 RX1 D aC ad sg A H0) {M : Mem} {o : Int} (HR : ∀ (r : Int) (H : Heap) (locs : List Loc) (pc : Nat) (ls : Array Slot), o = r → inR r → WS D aC ad A H0 M H locs → decode cX1_wishedOnes pc = .ok (.ireturn, 1) → W p l e rm_X1_wishedOnes s m args below meth c H locs 0 0 Q (F0 m pc ls [.int (i2 r)])) (v2 : Int) (hv2 : inR v2) (hf : f_X1_wishedOnes_j40 v2 M = some o) {H : Heap} {locs : List Loc} {ls : Array Slot} (hl : lv_has ls 5 [(2, .int (i2 v2))]) (w : WS D aC ad A H0 M H locs) : W p l e rm_X1_wishedOnes s m args below meth c H locs 0 0 Q (F0 m 40 ls []) := by
  have hx := X.1.1
  have hb := X.1.2.1
  unfold f_X1_wishedOnes_j40 at hf
  refine lv_iload_n hx hb dX1_wishedOnes_40 rfl (lv_at hl 0 rfl) ?_
  exact HR v2 _ _ _ _ (Option.some.inj hf).symm hv2 w dX1_wishedOnes_41
set_option maxRecDepth 100000 in
set_option maxHeartbeats 4000000 in
theorem b_X1_wishedOnes_0 (X : CX p s m args c cX1_wishedOnes 5 RX1 D aC ad sg A H0) {M : Mem} {o : Int} (HR : ∀ (r : Int) (H : Heap) (locs : List Loc) (pc : Nat) (ls : Array Slot), o = r → inR r → WS D aC ad A H0 M H locs → decode cX1_wishedOnes pc = .ok (.ireturn, 1) → W p l e rm_X1_wishedOnes s m args below meth c H locs 0 0 Q (F0 m pc ls [.int (i2 r)])) (p1 : Int) (hp1 : inR p1) (hf : f_X1_wishedOnes p1 M = some o) {H : Heap} {locs : List Loc} {ls : Array Slot} (hl : lv_has ls 5 [(0, .ref (ad 3)), (1, .int (i2 p1))]) (w : WS D aC ad A H0 M H locs) : W p l e rm_X1_wishedOnes s m args below meth c H locs 0 0 Q (F0 m 0 ls []) := by
  have hx := X.1.1
  have hb := X.1.2.1
  unfold f_X1_wishedOnes at hf
  refine g_iconst X dX1_wishedOnes_0 ?_
  refine g_istn (v := 0) (lv' := [(2, .int (i2 0)), (0, .ref (ad 3)), (1, .int (i2 p1))]) X rfl dX1_wishedOnes_1 rfl hl (by decide) rfl (fun ls hl => ?_)
  refine g_iconst X dX1_wishedOnes_2 ?_
  refine g_istn (v := 0) (lv' := [(3, .int (i2 0)), (2, .int (i2 0)), (0, .ref (ad 3)), (1, .int (i2 p1))]) X rfl dX1_wishedOnes_3 rfl hl (by decide) rfl (fun ls hl => ?_)
  obtain ⟨q, hq, h1⟩ := obn_some hf
  exact l_X1_wishedOnes_4 X p1 hp1 (out := q) (fun y2 y3 H locs ls eq hy2 hy3 hl w => b_X1_wishedOnes_j40 X  HR y2 hy2 (by subst eq; exact h1) (lv_sub hl [2] rfl) w)  FU 0 0 hq (inL rfl) (inL rfl) (lv_sub hl [2, 3, 1, 0] rfl) w
set_option maxRecDepth 100000 in
set_option maxHeartbeats 4000000 in
theorem k_X1_wishedOnes {l : Launch} {D : va_G} {aC : Nat → ClassId} {ad : Nat → Nat} {sg : SG} (hi : Inj ad) (p1 : Int) (hp1 : inR p1) {M : Mem} (hM : inM M) {r : Int} (hf : f_X1_wishedOnes p1 M = some r) : MetI l D aC ad sg yX1_wishedOnes cX1_wishedOnes 5 (some .int) rm_X1_wishedOnes 0 0 [.ref (ad 3), .int (i2 p1)] M r M := by
  refine MetI.ofI (by decide +kernel) (nle rfl) hi hM (fun p e s m args below meth c Q H0 ls X hl w hret => ?_)
  exact b_X1_wishedOnes_0 X  (fun r1 H locs pc ls eo hP w dg => by cases eo; exact hret H locs pc ls hP w dg) p1 hp1 hf hl w
set_option maxRecDepth 100000 in
set_option maxHeartbeats 4000000 in
theorem b_X1_bestWish_s2 (X : CX p s m args c cX1_bestWish 5 RX1 D aC ad sg A H0) (v1 : Int) (hv1 : inR v1) (v2 : Int) (hv2 : inR v2) {M : Mem} {o : (Int) ⊕ ((Int) ⊕ (Int))} (HC : ∀ (y3 : Int) (H : Heap) (locs : List Loc) (ls : Array Slot), o = .inl y3 → inR y3 → lv_has ls 5 [(0, .ref (ad 3)), (1, .int (i2 v1)), (2, .int (i2 v2)), (3, .int (i2 y3))] → WS D aC ad A H0 M H locs → W p l e rm_X1_bestWish s m args below meth c H locs 0 0 Q (F0 m 2 ls [])) (HE : ∀ (y3 : Int) (H : Heap) (locs : List Loc) (ls : Array Slot), o = .inr (.inl y3) → inR y3 → lv_has ls 5 [(0, .ref (ad 3)), (1, .int (i2 v1)), (2, .int (i2 v2)), (3, .int (i2 y3))] → WS D aC ad A H0 M H locs → W p l e rm_X1_bestWish s m args below meth c H locs 0 0 Q (F0 m 42 ls [])) (HR : ∀ (r : Int) (H : Heap) (locs : List Loc) (pc : Nat) (ls : Array Slot), o = .inr (.inr r) → inR r → WS D aC ad A H0 M H locs → decode cX1_bestWish pc = .ok (.ireturn, 1) → W p l e rm_X1_bestWish s m args below meth c H locs 0 0 Q (F0 m pc ls [.int (i2 r)])) (v3 : Int) (hv3 : inR v3) (hf : f_X1_bestWish_s2 v1 v2 M v3 = some o) {H : Heap} {locs : List Loc} {ls : Array Slot} (hl : lv_has ls 5 [(0, .ref (ad 3)), (1, .int (i2 v1)), (2, .int (i2 v2)), (3, .int (i2 v3))]) (w : WS D aC ad A H0 M H locs) : W p l e rm_X1_bestWish s m args below meth c H locs 0 0 Q (F0 m 2 ls []) := by
  have hx := X.1.1
  have hb := X.1.2.1
  unfold f_X1_bestWish_s2 at hf
  refine lv_iload_n hx hb dX1_bestWish_2 rfl (lv_at hl 3 rfl) ?_
  refine g_iconst X dX1_bestWish_3 ?_
  refine g_icmp_ge (tgt := 42) X hv3 (inL rfl) dX1_bestWish_4 (by decide) (fun cd => ?_) (fun cd => ?_)
  · replace hf := ite_t cd hf
    exact HE v3 _ _ _ (Option.some.inj hf).symm hv3 hl w
  · replace hf := ite_f cd hf
    refine lv_aload_n hx hb dX1_bestWish_7 rfl (lv_at hl 0 rfl) ?_
    refine g_getr X w fg_X1_27 KD_3 FR_3_6 dX1_bestWish_8 ?_
    refine lv_iload_n hx hb dX1_bestWish_11 rfl (lv_at hl 1 rfl) ?_
    refine g_iconst X dX1_bestWish_12 ?_
    refine g_imul X dX1_bestWish_13 ?_
    refine lv_iload_n hx hb dX1_bestWish_14 rfl (lv_at hl 3 rfl) ?_
    refine g_iadd X dX1_bestWish_15 ?_
    obtain ⟨hg, hf⟩ := gd_some hf
    refine g_iald X w KD_9 (inR_wrap _) hg dX1_bestWish_16 ?_
    obtain ⟨v4, ev4, hf⟩ := lt_some hf
    have hv4 : inR v4 := inR_of ev4 (w.2.2 _ _)
    refine g_ist (v := v4) (lv' := [(4, .int (i2 v4)), (0, .ref (ad 3)), (1, .int (i2 v1)), (2, .int (i2 v2)), (3, .int (i2 v3))]) X ev4 dX1_bestWish_17 hl (by decide) rfl (fun ls hl => ?_)
    refine lv_iload hx hb dX1_bestWish_19 (lv_at hl 0 rfl) ?_
    refine g_iconst X dX1_bestWish_21 ?_
    refine g_icmp_eq (tgt := 36) X hv4 (inL rfl) dX1_bestWish_22 (by decide) (fun cd_2 => ?_) (fun cd_2 => ?_)
    · replace hf := ite_t cd_2 hf
      obtain ⟨v3_2, ev3_2, hf⟩ := lt_some hf
      have hv3_2 : inR v3_2 := inR_of ev3_2 (inR_wrap _)
      refine lv_iinc (v := i2 v3_2) (lv' := [(3, .int (i2 v3_2)), (4, .int (i2 v4)), (0, .ref (ad 3)), (1, .int (i2 v1)), (2, .int (i2 v2))]) hx hb dX1_bestWish_36 hl (k := 4) rfl (by rw [ev3_2]; exact i2_add _ _) (by decide) rfl (fun ls hl => ?_)
      refine lv_goto (tgt := 2) hx hb dX1_bestWish_39 (by decide) ?_
      exact HC v3_2 _ _ _ (Option.some.inj hf).symm hv3_2 (lv_sub hl [2, 3, 4, 0] rfl) w
    · replace hf := ite_f cd_2 hf
      refine lv_iload_n hx hb dX1_bestWish_25 rfl (lv_at hl 3 rfl) ?_
      refine lv_iload hx hb dX1_bestWish_26 (lv_at hl 0 rfl) ?_
      refine g_ishr X dX1_bestWish_28 ?_
      refine g_iconst X dX1_bestWish_29 ?_
      refine g_iand X dX1_bestWish_30 ?_
      refine g_if_eq (tgt := 36) X (inR_toInt _) dX1_bestWish_31 (by decide) (fun cd_3 => ?_) (fun cd_3 => ?_)
      · replace hf := ite_t cd_3 hf
        obtain ⟨v3_3, ev3_3, hf⟩ := lt_some hf
        have hv3_3 : inR v3_3 := inR_of ev3_3 (inR_wrap _)
        refine lv_iinc (v := i2 v3_3) (lv' := [(3, .int (i2 v3_3)), (4, .int (i2 v4)), (0, .ref (ad 3)), (1, .int (i2 v1)), (2, .int (i2 v2))]) hx hb dX1_bestWish_36 hl (k := 4) rfl (by rw [ev3_3]; exact i2_add _ _) (by decide) rfl (fun ls hl => ?_)
        refine lv_goto (tgt := 2) hx hb dX1_bestWish_39 (by decide) ?_
        exact HC v3_3 _ _ _ (Option.some.inj hf).symm hv3_3 (lv_sub hl [2, 3, 4, 0] rfl) w
      · replace hf := ite_f cd_3 hf
        refine lv_iload_n hx hb dX1_bestWish_34 rfl (lv_at hl 4 rfl) ?_
        exact HR v3 _ _ _ _ (Option.some.inj hf).symm hv3 w dX1_bestWish_35
set_option maxRecDepth 100000 in
set_option maxHeartbeats 4000000 in
theorem l_X1_bestWish_2 (X : CX p s m args c cX1_bestWish 5 RX1 D aC ad sg A H0) (v1 : Int) (hv1 : inR v1) (v2 : Int) (hv2 : inR v2) {M : Mem} {out : (Int) ⊕ (Int)} (HE : ∀ (y3 : Int) (H : Heap) (locs : List Loc) (ls : Array Slot), out = .inl y3 → inR y3 → lv_has ls 5 [(0, .ref (ad 3)), (1, .int (i2 v1)), (2, .int (i2 v2)), (3, .int (i2 y3))] → WS D aC ad A H0 M H locs → W p l e rm_X1_bestWish s m args below meth c H locs 0 0 Q (F0 m 42 ls [])) (HR : ∀ (r : Int) (H : Heap) (locs : List Loc) (pc : Nat) (ls : Array Slot), out = .inr r → inR r → WS D aC ad A H0 M H locs → decode cX1_bestWish pc = .ok (.ireturn, 1) → W p l e rm_X1_bestWish s m args below meth c H locs 0 0 Q (F0 m pc ls [.int (i2 r)])) : ∀ (n : Nat) (v3 : Int), whl (fun s => f_X1_bestWish_s2 v1 v2 M s) n v3 = some out → inR v3 → ∀ {H : Heap} {locs : List Loc} {ls : Array Slot}, lv_has ls 5 [(0, .ref (ad 3)), (1, .int (i2 v1)), (2, .int (i2 v2)), (3, .int (i2 v3))] → WS D aC ad A H0 M H locs → W p l e rm_X1_bestWish s m args below meth c H locs 0 0 Q (F0 m 2 ls []) := by
  intro n
  induction n with
  | zero => intro v3 hf; exact (whl_zero hf).elim
  | succ n ih =>
    intro v3 hf hv3 H locs ls hl w
    obtain ⟨o, hf, hk1, hk2⟩ := whl_step hf
    exact b_X1_bestWish_s2 X v1 hv1 v2 hv2 (fun y3 H locs ls eo hy3 hl w => ih y3 (hk1 _ eo) hy3 hl w) (fun y3 H locs ls eo hy3 hl w => HE y3 H locs ls (hk2 _ eo).symm hy3 hl w) (fun r H locs pc ls eo hP w dg => HR r H locs pc ls (hk2 _ eo).symm hP w dg) v3 hv3 hf hl w
set_option maxRecDepth 100000 in
set_option maxHeartbeats 4000000 in
theorem b_X1_bestWish_j42 (X : CX p s m args c cX1_bestWish 5 RX1 D aC ad sg A H0) {M : Mem} {o : Int} (HR : ∀ (r : Int) (H : Heap) (locs : List Loc) (pc : Nat) (ls : Array Slot), o = r → inR r → WS D aC ad A H0 M H locs → decode cX1_bestWish pc = .ok (.ireturn, 1) → W p l e rm_X1_bestWish s m args below meth c H locs 0 0 Q (F0 m pc ls [.int (i2 r)])) (hf : f_X1_bestWish_j42 M = some o) {H : Heap} {locs : List Loc} {ls : Array Slot} (hl : lv_has ls 5 []) (w : WS D aC ad A H0 M H locs) : W p l e rm_X1_bestWish s m args below meth c H locs 0 0 Q (F0 m 42 ls []) := by
  have hx := X.1.1
  have hb := X.1.2.1
  unfold f_X1_bestWish_j42 at hf
  refine g_iconst X dX1_bestWish_42 ?_
  exact HR 3 _ _ _ _ (Option.some.inj hf).symm (inL rfl) w dX1_bestWish_43
set_option maxRecDepth 100000 in
set_option maxHeartbeats 4000000 in
theorem b_X1_bestWish_0 (X : CX p s m args c cX1_bestWish 5 RX1 D aC ad sg A H0) {M : Mem} {o : Int} (HR : ∀ (r : Int) (H : Heap) (locs : List Loc) (pc : Nat) (ls : Array Slot), o = r → inR r → WS D aC ad A H0 M H locs → decode cX1_bestWish pc = .ok (.ireturn, 1) → W p l e rm_X1_bestWish s m args below meth c H locs 0 0 Q (F0 m pc ls [.int (i2 r)])) (p1 : Int) (hp1 : inR p1) (p2 : Int) (hp2 : inR p2) (hf : f_X1_bestWish p1 p2 M = some o) {H : Heap} {locs : List Loc} {ls : Array Slot} (hl : lv_has ls 5 [(0, .ref (ad 3)), (1, .int (i2 p1)), (2, .int (i2 p2))]) (w : WS D aC ad A H0 M H locs) : W p l e rm_X1_bestWish s m args below meth c H locs 0 0 Q (F0 m 0 ls []) := by
  have hx := X.1.1
  have hb := X.1.2.1
  unfold f_X1_bestWish at hf
  refine g_iconst X dX1_bestWish_0 ?_
  refine g_istn (v := 0) (lv' := [(3, .int (i2 0)), (0, .ref (ad 3)), (1, .int (i2 p1)), (2, .int (i2 p2))]) X rfl dX1_bestWish_1 rfl hl (by decide) rfl (fun ls hl => ?_)
  obtain ⟨q, hq, h1, h2⟩ := lpr_some hf
  exact l_X1_bestWish_2 X p1 hp1 p2 hp2 (out := q) (fun y3 H locs ls eq hy3 hl w => b_X1_bestWish_j42 X  HR  (h1 _ eq) (lv_sub hl [] rfl) w) (fun r H locs pc ls eq hP w dg => HR r H locs pc ls (Option.some.inj (h2 _ eq)).symm hP w dg) FU 0 hq (inL rfl) (lv_sub hl [1, 2, 3, 0] rfl) w
set_option maxRecDepth 100000 in
set_option maxHeartbeats 4000000 in
theorem k_X1_bestWish {l : Launch} {D : va_G} {aC : Nat → ClassId} {ad : Nat → Nat} {sg : SG} (hi : Inj ad) (p1 : Int) (hp1 : inR p1) (p2 : Int) (hp2 : inR p2) {M : Mem} (hM : inM M) {r : Int} (hf : f_X1_bestWish p1 p2 M = some r) : MetI l D aC ad sg yX1_bestWish cX1_bestWish 5 (some .int) rm_X1_bestWish 0 0 [.ref (ad 3), .int (i2 p1), .int (i2 p2)] M r M := by
  refine MetI.ofI (by decide +kernel) (nle rfl) hi hM (fun p e s m args below meth c Q H0 ls X hl w hret => ?_)
  exact b_X1_bestWish_0 X  (fun r1 H locs pc ls eo hP w dg => by cases eo; exact hret H locs pc ls hP w dg) p1 hp1 p2 hp2 hf hl w
set_option maxRecDepth 100000 in
set_option maxHeartbeats 4000000 in
theorem b_X1_admit_0 (X : CX p s m args c cX1_admit 5 RX1 D aC ad sg A H0) {o : Int × Mem} (HR : ∀ (r : Int) (M1 : Mem) (H : Heap) (locs : List Loc) (pc : Nat) (ls : Array Slot), o = (r, M1) → inR r → WS D aC ad A H0 M1 H locs → decode cX1_admit pc = .ok (.ireturn, 1) → W p l e rm_X1_admit s m args below meth c H locs 0 0 Q (F0 m pc ls [.int (i2 r)])) (p1 : Int) (hp1 : inR p1) (p2 : Int) (hp2 : inR p2) (p3 : Int) (hp3 : inR p3) (p4 : Int) (hp4 : inR p4) (M : Mem) (hf : f_X1_admit p1 p2 p3 p4 M = some o) {H : Heap} {locs : List Loc} {ls : Array Slot} (hl : lv_has ls 5 [(0, .ref (ad 3)), (1, .int (i2 p1)), (2, .int (i2 p2)), (3, .int (i2 p3)), (4, .int (i2 p4))]) (w : WS D aC ad A H0 M H locs) : W p l e rm_X1_admit s m args below meth c H locs 0 0 Q (F0 m 0 ls []) := by
  have hx := X.1.1
  have hb := X.1.2.1
  unfold f_X1_admit at hf
  refine lv_aload_n hx hb dX1_admit_0 rfl (lv_at hl 0 rfl) ?_
  refine g_geti X w fg_X1_61 KD_3 FR_3_0 dX1_admit_1 ?_
  refine g_bipush X dX1_admit_4 (by decide) ?_
  refine g_icmp_lt (tgt := 11) X (w.2.2 _ _) (inL rfl) dX1_admit_6 (by decide) (fun cd => ?_) (fun cd => ?_)
  · replace hf := ite_t cd hf
    refine lv_aload_n hx hb dX1_admit_11 rfl (lv_at hl 0 rfl) ?_
    refine g_getr X w fg_X1_9 KD_3 FR_3_1 dX1_admit_12 ?_
    refine lv_aload_n hx hb dX1_admit_15 rfl (lv_at hl 0 rfl) ?_
    refine g_geti X w fg_X1_61 KD_3 FR_3_0 dX1_admit_16 ?_
    refine lv_iload_n hx hb dX1_admit_19 rfl (lv_at hl 1 rfl) ?_
    obtain ⟨hg, hf⟩ := gd_some hf
    obtain ⟨M_2, eM_2, hf⟩ := lt_some hf
    refine g_iast X w KD_4 (w.2.2 _ _) hg hp1 dX1_admit_20 (fun H locs w_M_2 => ?_)
    rw [← eM_2] at w_M_2
    refine lv_aload_n hx hb dX1_admit_21 rfl (lv_at hl 0 rfl) ?_
    refine g_getr X w_M_2 fg_X1_15 KD_3 FR_3_2 dX1_admit_22 ?_
    refine lv_aload_n hx hb dX1_admit_25 rfl (lv_at hl 0 rfl) ?_
    refine g_geti X w_M_2 fg_X1_61 KD_3 FR_3_0 dX1_admit_26 ?_
    refine lv_iload_n hx hb dX1_admit_29 rfl (lv_at hl 2 rfl) ?_
    obtain ⟨hg_2, hf⟩ := gd_some hf
    obtain ⟨M_3, eM_3, hf⟩ := lt_some hf
    refine g_iast X w_M_2 KD_5 (w_M_2.2.2 _ _) hg_2 hp2 dX1_admit_30 (fun H locs w_M_3 => ?_)
    rw [← eM_3] at w_M_3
    refine lv_aload_n hx hb dX1_admit_31 rfl (lv_at hl 0 rfl) ?_
    refine g_getr X w_M_3 fg_X1_18 KD_3 FR_3_3 dX1_admit_32 ?_
    refine lv_aload_n hx hb dX1_admit_35 rfl (lv_at hl 0 rfl) ?_
    refine g_geti X w_M_3 fg_X1_61 KD_3 FR_3_0 dX1_admit_36 ?_
    refine lv_iload_n hx hb dX1_admit_39 rfl (lv_at hl 3 rfl) ?_
    obtain ⟨hg_3, hf⟩ := gd_some hf
    obtain ⟨M_4, eM_4, hf⟩ := lt_some hf
    refine g_iast X w_M_3 KD_6 (w_M_3.2.2 _ _) hg_3 hp3 dX1_admit_40 (fun H locs w_M_4 => ?_)
    rw [← eM_4] at w_M_4
    refine lv_aload_n hx hb dX1_admit_41 rfl (lv_at hl 0 rfl) ?_
    refine g_getr X w_M_4 fg_X1_21 KD_3 FR_3_4 dX1_admit_42 ?_
    refine lv_aload_n hx hb dX1_admit_45 rfl (lv_at hl 0 rfl) ?_
    refine g_geti X w_M_4 fg_X1_61 KD_3 FR_3_0 dX1_admit_46 ?_
    refine lv_iload hx hb dX1_admit_49 (lv_at hl 4 rfl) ?_
    obtain ⟨hg_4, hf⟩ := gd_some hf
    obtain ⟨M_5, eM_5, hf⟩ := lt_some hf
    refine g_iast X w_M_4 KD_7 (w_M_4.2.2 _ _) hg_4 hp4 dX1_admit_51 (fun H locs w_M_5 => ?_)
    rw [← eM_5] at w_M_5
    refine lv_aload_n hx hb dX1_admit_52 rfl (lv_at hl 0 rfl) ?_
    refine lv_dup hx hb dX1_admit_53 rfl ?_
    refine g_geti X w_M_5 fg_X1_61 KD_3 FR_3_0 dX1_admit_54 ?_
    refine g_iconst X dX1_admit_57 ?_
    refine g_iadd X dX1_admit_58 ?_
    obtain ⟨M_6, eM_6, hf⟩ := lt_some hf
    refine g_puti X w_M_5 fp_X1_61 KD_3 FR_3_0 (inR_wrap _) dX1_admit_59 (fun H locs w_M_6 => ?_)
    rw [← eM_6] at w_M_6
    refine lv_aload_n hx hb dX1_admit_62 rfl (lv_at hl 0 rfl) ?_
    refine g_geti X w_M_6 fg_X1_61 KD_3 FR_3_0 dX1_admit_63 ?_
    refine g_iconst X dX1_admit_66 ?_
    refine g_isub X dX1_admit_67 ?_
    exact HR (wrap ((M_6 3 0) - 1)) M_6 _ _ _ _ (Option.some.inj hf).symm (inR_wrap _) w_M_6 dX1_admit_68
  · replace hf := ite_f cd hf
    refine g_iconst X dX1_admit_9 ?_
    exact HR (-1) M _ _ _ _ (Option.some.inj hf).symm (inL rfl) w dX1_admit_10
set_option maxRecDepth 100000 in
set_option maxHeartbeats 4000000 in
theorem k_X1_admit {l : Launch} {D : va_G} {aC : Nat → ClassId} {ad : Nat → Nat} {sg : SG} (hi : Inj ad) (p1 : Int) (hp1 : inR p1) (p2 : Int) (hp2 : inR p2) (p3 : Int) (hp3 : inR p3) (p4 : Int) (hp4 : inR p4) {M : Mem} (hM : inM M) {r : Int} {M' : Mem} (hf : f_X1_admit p1 p2 p3 p4 M = some (r, M')) : MetI l D aC ad sg yX1_admit cX1_admit 5 (some .int) rm_X1_admit 0 0 [.ref (ad 3), .int (i2 p1), .int (i2 p2), .int (i2 p3), .int (i2 p4)] M r M' := by
  refine MetI.ofI (by decide +kernel) (nle rfl) hi hM (fun p e s m args below meth c Q H0 ls X hl w hret => ?_)
  exact b_X1_admit_0 X  (fun r1 M1 H locs pc ls eo hP w dg => by cases eo; exact hret H locs pc ls hP w dg) p1 hp1 p2 hp2 p3 hp3 p4 hp4 M hf hl w
set_option maxRecDepth 100000 in
set_option maxHeartbeats 4000000 in
theorem b_X1_areTwo_0 (X : CX p s m args c cX1_areTwo 3 RX1 D aC ad sg A H0) {M : Mem} {o : Int} (HR : ∀ (r : Int) (H : Heap) (locs : List Loc) (pc : Nat) (ls : Array Slot), o = r → isZ r → WS D aC ad A H0 M H locs → decode cX1_areTwo pc = .ok (.ireturn, 1) → W p l e rm_X1_areTwo s m args below meth c H locs 0 0 Q (F0 m pc ls [.int (i2 r)])) (p1 : Int) (hp1 : inR p1) (p2 : Int) (hp2 : inR p2) (hf : f_X1_areTwo p1 p2 M = some o) {H : Heap} {locs : List Loc} {ls : Array Slot} (hl : lv_has ls 3 [(0, .ref (ad 3)), (1, .int (i2 p1)), (2, .int (i2 p2))]) (w : WS D aC ad A H0 M H locs) : W p l e rm_X1_areTwo s m args below meth c H locs 0 0 Q (F0 m 0 ls []) := by
  have hx := X.1.1
  have hb := X.1.2.1
  unfold f_X1_areTwo at hf
  refine lv_aload_n hx hb dX1_areTwo_0 rfl (lv_at hl 0 rfl) ?_
  refine lv_iload_n hx hb dX1_areTwo_1 rfl (lv_at hl 1 rfl) ?_
  obtain ⟨r, hc, hf⟩ := obn_some hf
  refine g_cvi (As := [.int (i2 p1)]) (rest := []) X w (k_X1_has X.2.2.1 p1 hp1 w.2.2 hc) lk_X1_64 cl_1 KD_3 ⟨rfl, rfl⟩ ⟨nle rfl, nle rfl⟩ ⟨nle rfl, nle rfl⟩ hl.1 rfl (nle rfl) dX1_areTwo_2 (fun hr H locs w => ?_)
  refine g_if_eq (tgt := 25) X hr dX1_areTwo_5 (by decide) (fun cd => ?_) (fun cd => ?_)
  · replace hf := ite_t cd hf
    refine g_iconst X dX1_areTwo_25 ?_
    exact HR 0 _ _ _ _ (Option.some.inj hf).symm (Or.inl rfl) w dX1_areTwo_26
  · replace hf := ite_f cd hf
    refine lv_aload_n hx hb dX1_areTwo_8 rfl (lv_at hl 0 rfl) ?_
    refine lv_iload_n hx hb dX1_areTwo_9 rfl (lv_at hl 2 rfl) ?_
    obtain ⟨r_2, hc, hf⟩ := obn_some hf
    refine g_cvi (As := [.int (i2 p2)]) (rest := []) X w (k_X1_has X.2.2.1 p2 hp2 w.2.2 hc) lk_X1_64 cl_1 KD_3 ⟨rfl, rfl⟩ ⟨nle rfl, nle rfl⟩ ⟨nle rfl, nle rfl⟩ hl.1 rfl (nle rfl) dX1_areTwo_10 (fun hr_2 H locs w => ?_)
    refine g_if_eq (tgt := 25) X hr_2 dX1_areTwo_13 (by decide) (fun cd_2 => ?_) (fun cd_2 => ?_)
    · replace hf := ite_t cd_2 hf
      refine g_iconst X dX1_areTwo_25 ?_
      exact HR 0 _ _ _ _ (Option.some.inj hf).symm (Or.inl rfl) w dX1_areTwo_26
    · replace hf := ite_f cd_2 hf
      refine lv_iload_n hx hb dX1_areTwo_16 rfl (lv_at hl 1 rfl) ?_
      refine lv_iload_n hx hb dX1_areTwo_17 rfl (lv_at hl 2 rfl) ?_
      refine g_icmp_eq (tgt := 25) X hp1 hp2 dX1_areTwo_18 (by decide) (fun cd_3 => ?_) (fun cd_3 => ?_)
      · replace hf := ite_t cd_3 hf
        refine g_iconst X dX1_areTwo_25 ?_
        exact HR 0 _ _ _ _ (Option.some.inj hf).symm (Or.inl rfl) w dX1_areTwo_26
      · replace hf := ite_f cd_3 hf
        refine g_iconst X dX1_areTwo_21 ?_
        refine lv_goto (tgt := 26) hx hb dX1_areTwo_22 (by decide) ?_
        exact HR 1 _ _ _ _ (Option.some.inj hf).symm (Or.inr rfl) w dX1_areTwo_26
set_option maxRecDepth 100000 in
set_option maxHeartbeats 4000000 in
theorem k_X1_areTwo {l : Launch} {D : va_G} {aC : Nat → ClassId} {ad : Nat → Nat} {sg : SG} (hi : Inj ad) (p1 : Int) (hp1 : inR p1) (p2 : Int) (hp2 : inR p2) {M : Mem} (hM : inM M) {r : Int} (hf : f_X1_areTwo p1 p2 M = some r) : MetI l D aC ad sg yX1_areTwo cX1_areTwo 3 (some .boolean) rm_X1_areTwo 0 0 [.ref (ad 3), .int (i2 p1), .int (i2 p2)] M r M := by
  refine MetI.ofZ (by decide +kernel) (nle rfl) hi hM (fun p e s m args below meth c Q H0 ls X hl w hret => ?_)
  exact b_X1_areTwo_0 X  (fun r1 H locs pc ls eo hP w dg => by cases eo; exact hret H locs pc ls hP w dg) p1 hp1 p2 hp2 hf hl w
set_option maxRecDepth 100000 in
set_option maxHeartbeats 4000000 in
theorem b_X1_reach_s20 (X : CX p s m args c cX1_reach 6 RX1 D aC ad sg A H0) (v3 : Int) (hv3 : inR v3) (v4 : Int) (hv4 : inR v4) {M : Mem} {o : (Int × Int) ⊕ (Int × Int)} (HC : ∀ (y2 : Int) (y5 : Int) (H : Heap) (locs : List Loc) (ls : Array Slot), o = .inl (y2, y5) → inR y2 → inR y5 → lv_has ls 6 [(0, .ref (ad 3)), (2, .int (i2 y2)), (3, .int (i2 v3)), (4, .int (i2 v4)), (5, .int (i2 y5))] → WS D aC ad A H0 M H locs → W p l e rm_X1_reach s m args below meth c H locs 0 0 Q (F0 m 20 ls [])) (HE : ∀ (y2 : Int) (y5 : Int) (H : Heap) (locs : List Loc) (ls : Array Slot), o = .inr (y2, y5) → inR y2 → inR y5 → lv_has ls 6 [(0, .ref (ad 3)), (2, .int (i2 y2)), (3, .int (i2 v3)), (4, .int (i2 v4)), (5, .int (i2 y5))] → WS D aC ad A H0 M H locs → W p l e rm_X1_reach s m args below meth c H locs 0 0 Q (F0 m 53 ls [])) (v2 : Int) (hv2 : inR v2) (v5 : Int) (hv5 : inR v5) (hf : f_X1_reach_s20 v3 v4 M v2 v5 = some o) {H : Heap} {locs : List Loc} {ls : Array Slot} (hl : lv_has ls 6 [(0, .ref (ad 3)), (2, .int (i2 v2)), (3, .int (i2 v3)), (4, .int (i2 v4)), (5, .int (i2 v5))]) (w : WS D aC ad A H0 M H locs) : W p l e rm_X1_reach s m args below meth c H locs 0 0 Q (F0 m 20 ls []) := by
  have hx := X.1.1
  have hb := X.1.2.1
  unfold f_X1_reach_s20 at hf
  refine lv_iload hx hb dX1_reach_20 (lv_at hl 4 rfl) ?_
  refine lv_aload_n hx hb dX1_reach_22 rfl (lv_at hl 0 rfl) ?_
  refine g_geti X w fg_X1_61 KD_3 FR_3_0 dX1_reach_23 ?_
  refine g_icmp_ge (tgt := 53) X hv5 (w.2.2 _ _) dX1_reach_26 (by decide) (fun cd => ?_) (fun cd => ?_)
  · replace hf := ite_t cd hf
    exact HE v2 v5 _ _ _ (Option.some.inj hf).symm hv2 hv5 hl w
  · replace hf := ite_f cd hf
    refine lv_iload_n hx hb dX1_reach_29 rfl (lv_at hl 1 rfl) ?_
    refine lv_iload hx hb dX1_reach_30 (lv_at hl 4 rfl) ?_
    refine g_ishr X dX1_reach_32 ?_
    refine g_iconst X dX1_reach_33 ?_
    refine g_iand X dX1_reach_34 ?_
    refine g_if_eq (tgt := 47) X (inR_toInt _) dX1_reach_35 (by decide) (fun cd_2 => ?_) (fun cd_2 => ?_)
    · replace hf := ite_t cd_2 hf
      obtain ⟨v5_2, ev5_2, hf⟩ := lt_some hf
      have hv5_2 : inR v5_2 := inR_of ev5_2 (inR_wrap _)
      refine lv_iinc (v := i2 v5_2) (lv' := [(5, .int (i2 v5_2)), (0, .ref (ad 3)), (2, .int (i2 v2)), (3, .int (i2 v3)), (4, .int (i2 v4))]) hx hb dX1_reach_47 hl (k := 4) rfl (by rw [ev5_2]; exact i2_add _ _) (by decide) rfl (fun ls hl => ?_)
      refine lv_goto (tgt := 20) hx hb dX1_reach_50 (by decide) ?_
      exact HC v2 v5_2 _ _ _ (Option.some.inj hf).symm hv2 hv5_2 (lv_sub hl [1, 2, 3, 4, 0] rfl) w
    · replace hf := ite_f cd_2 hf
      refine lv_iload_n hx hb dX1_reach_38 rfl (lv_at hl 1 rfl) ?_
      refine lv_aload_n hx hb dX1_reach_39 rfl (lv_at hl 0 rfl) ?_
      refine lv_iload hx hb dX1_reach_40 (lv_at hl 4 rfl) ?_
      obtain ⟨r, hc, hf⟩ := obn_some hf
      refine g_cvi (As := [.int (i2 v5)]) (rest := [.int (i2 v2)]) X w (k_X1_wishedOnes X.2.2.1 v5 hv5 w.2.2 hc) lk_X1_68 cl_1 KD_3 ⟨rfl, rfl⟩ ⟨nle rfl, nle rfl⟩ ⟨nle rfl, nle rfl⟩ hl.1 rfl (nle rfl) dX1_reach_42 (fun hr H locs w => ?_)
      refine g_ior X dX1_reach_45 ?_
      obtain ⟨v2_2, ev2_2, hf⟩ := lt_some hf
      have hv2_2 : inR v2_2 := inR_of ev2_2 (inR_toInt _)
      refine g_istn (v := v2_2) (lv' := [(2, .int (i2 v2_2)), (0, .ref (ad 3)), (3, .int (i2 v3)), (4, .int (i2 v4)), (5, .int (i2 v5))]) X ev2_2 dX1_reach_46 rfl hl (by decide) rfl (fun ls hl => ?_)
      obtain ⟨v5_3, ev5_3, hf⟩ := lt_some hf
      have hv5_3 : inR v5_3 := inR_of ev5_3 (inR_wrap _)
      refine lv_iinc (v := i2 v5_3) (lv' := [(5, .int (i2 v5_3)), (2, .int (i2 v2_2)), (0, .ref (ad 3)), (3, .int (i2 v3)), (4, .int (i2 v4))]) hx hb dX1_reach_47 hl (k := 4) rfl (by rw [ev5_3]; exact i2_add _ _) (by decide) rfl (fun ls hl => ?_)
      refine lv_goto (tgt := 20) hx hb dX1_reach_50 (by decide) ?_
      exact HC v2_2 v5_3 _ _ _ (Option.some.inj hf).symm hv2_2 hv5_3 (lv_sub hl [2, 1, 3, 4, 0] rfl) w
set_option maxRecDepth 100000 in
set_option maxHeartbeats 4000000 in
theorem l_X1_reach_20 (X : CX p s m args c cX1_reach 6 RX1 D aC ad sg A H0) (v3 : Int) (hv3 : inR v3) (v4 : Int) (hv4 : inR v4) {M : Mem} {out : Int × Int} (HE : ∀ (y2 : Int) (y5 : Int) (H : Heap) (locs : List Loc) (ls : Array Slot), out = (y2, y5) → inR y2 → inR y5 → lv_has ls 6 [(0, .ref (ad 3)), (2, .int (i2 y2)), (3, .int (i2 v3)), (4, .int (i2 v4)), (5, .int (i2 y5))] → WS D aC ad A H0 M H locs → W p l e rm_X1_reach s m args below meth c H locs 0 0 Q (F0 m 53 ls [])) : ∀ (n : Nat) (v2 : Int) (v5 : Int), whl (fun s => f_X1_reach_s20 v3 v4 M s.1 s.2) n (v2, v5) = some out → inR v2 → inR v5 → ∀ {H : Heap} {locs : List Loc} {ls : Array Slot}, lv_has ls 6 [(0, .ref (ad 3)), (2, .int (i2 v2)), (3, .int (i2 v3)), (4, .int (i2 v4)), (5, .int (i2 v5))] → WS D aC ad A H0 M H locs → W p l e rm_X1_reach s m args below meth c H locs 0 0 Q (F0 m 20 ls []) := by
  intro n
  induction n with
  | zero => intro v2 v5 hf; exact (whl_zero hf).elim
  | succ n ih =>
    intro v2 v5 hf hv2 hv5 H locs ls hl w
    obtain ⟨o, hf, hk1, hk2⟩ := whl_step hf
    exact b_X1_reach_s20 X v3 hv3 v4 hv4 (fun y2 y5 H locs ls eo hy2 hy5 hl w => ih y2 y5 (hk1 _ eo) hy2 hy5 hl w) (fun y2 y5 H locs ls eo hy2 hy5 hl w => HE y2 y5 H locs ls (hk2 _ eo).symm hy2 hy5 hl w) v2 hv2 v5 hv5 hf hl w
set_option maxRecDepth 100000 in
set_option maxHeartbeats 4000000 in
theorem b_X1_reach_j53k6 (X : CX p s m args c cX1_reach 6 RX1 D aC ad sg A H0) {M : Mem} {o : (Int × Int) ⊕ ((Int × Int) ⊕ (Int))} (HC : ∀ (y2 : Int) (y3 : Int) (H : Heap) (locs : List Loc) (ls : Array Slot), o = .inl (y2, y3) → inR y2 → inR y3 → lv_has ls 6 [(0, .ref (ad 3)), (2, .int (i2 y2)), (3, .int (i2 y3))] → WS D aC ad A H0 M H locs → W p l e rm_X1_reach s m args below meth c H locs 0 0 Q (F0 m 6 ls [])) (HE : ∀ (y2 : Int) (y3 : Int) (H : Heap) (locs : List Loc) (ls : Array Slot), o = .inr (.inl (y2, y3)) → inR y2 → inR y3 → lv_has ls 6 [(0, .ref (ad 3)), (2, .int (i2 y2)), (3, .int (i2 y3))] → WS D aC ad A H0 M H locs → W p l e rm_X1_reach s m args below meth c H locs 0 0 Q (F0 m 67 ls [])) (HR : ∀ (r : Int) (H : Heap) (locs : List Loc) (pc : Nat) (ls : Array Slot), o = .inr (.inr r) → inR r → WS D aC ad A H0 M H locs → decode cX1_reach pc = .ok (.ireturn, 1) → W p l e rm_X1_reach s m args below meth c H locs 0 0 Q (F0 m pc ls [.int (i2 r)])) (v2 : Int) (hv2 : inR v2) (v3 : Int) (hv3 : inR v3) (v4 : Int) (hv4 : inR v4) (hf : f_X1_reach_j53k6 v2 v3 v4 M = some o) {H : Heap} {locs : List Loc} {ls : Array Slot} (hl : lv_has ls 6 [(0, .ref (ad 3)), (2, .int (i2 v2)), (3, .int (i2 v3)), (4, .int (i2 v4))]) (w : WS D aC ad A H0 M H locs) : W p l e rm_X1_reach s m args below meth c H locs 0 0 Q (F0 m 53 ls []) := by
  have hx := X.1.1
  have hb := X.1.2.1
  unfold f_X1_reach_j53k6 at hf
  refine lv_iload_n hx hb dX1_reach_53 rfl (lv_at hl 1 rfl) ?_
  refine lv_iload hx hb dX1_reach_54 (lv_at hl 3 rfl) ?_
  refine g_icmp_ne (tgt := 61) X hv2 hv4 dX1_reach_56 (by decide) (fun cd => ?_) (fun cd => ?_)
  · replace hf := ite_f cd hf
    obtain ⟨v3_2, ev3_2, hf⟩ := lt_some hf
    have hv3_2 : inR v3_2 := inR_of ev3_2 (inR_wrap _)
    refine lv_iinc (v := i2 v3_2) (lv' := [(3, .int (i2 v3_2)), (0, .ref (ad 3)), (2, .int (i2 v2)), (4, .int (i2 v4))]) hx hb dX1_reach_61 hl (k := 2) rfl (by rw [ev3_2]; exact i2_add _ _) (by decide) rfl (fun ls hl => ?_)
    refine lv_goto (tgt := 6) hx hb dX1_reach_64 (by decide) ?_
    exact HC v2 v3_2 _ _ _ (Option.some.inj hf).symm hv2 hv3_2 (lv_sub hl [1, 2, 0] rfl) w
  · replace hf := ite_t cd hf
    refine lv_iload_n hx hb dX1_reach_59 rfl (lv_at hl 1 rfl) ?_
    exact HR v2 _ _ _ _ (Option.some.inj hf).symm hv2 w dX1_reach_60
set_option maxRecDepth 100000 in
set_option maxHeartbeats 4000000 in
theorem b_X1_reach_s6 (X : CX p s m args c cX1_reach 6 RX1 D aC ad sg A H0) {M : Mem} {o : (Int × Int) ⊕ ((Int × Int) ⊕ (Int))} (HC : ∀ (y2 : Int) (y3 : Int) (H : Heap) (locs : List Loc) (ls : Array Slot), o = .inl (y2, y3) → inR y2 → inR y3 → lv_has ls 6 [(0, .ref (ad 3)), (2, .int (i2 y2)), (3, .int (i2 y3))] → WS D aC ad A H0 M H locs → W p l e rm_X1_reach s m args below meth c H locs 0 0 Q (F0 m 6 ls [])) (HE : ∀ (y2 : Int) (y3 : Int) (H : Heap) (locs : List Loc) (ls : Array Slot), o = .inr (.inl (y2, y3)) → inR y2 → inR y3 → lv_has ls 6 [(0, .ref (ad 3)), (2, .int (i2 y2)), (3, .int (i2 y3))] → WS D aC ad A H0 M H locs → W p l e rm_X1_reach s m args below meth c H locs 0 0 Q (F0 m 67 ls [])) (HR : ∀ (r : Int) (H : Heap) (locs : List Loc) (pc : Nat) (ls : Array Slot), o = .inr (.inr r) → inR r → WS D aC ad A H0 M H locs → decode cX1_reach pc = .ok (.ireturn, 1) → W p l e rm_X1_reach s m args below meth c H locs 0 0 Q (F0 m pc ls [.int (i2 r)])) (v2 : Int) (hv2 : inR v2) (v3 : Int) (hv3 : inR v3) (hf : f_X1_reach_s6 M v2 v3 = some o) {H : Heap} {locs : List Loc} {ls : Array Slot} (hl : lv_has ls 6 [(0, .ref (ad 3)), (2, .int (i2 v2)), (3, .int (i2 v3))]) (w : WS D aC ad A H0 M H locs) : W p l e rm_X1_reach s m args below meth c H locs 0 0 Q (F0 m 6 ls []) := by
  have hx := X.1.1
  have hb := X.1.2.1
  unfold f_X1_reach_s6 at hf
  refine lv_iload_n hx hb dX1_reach_6 rfl (lv_at hl 2 rfl) ?_
  refine lv_aload_n hx hb dX1_reach_7 rfl (lv_at hl 0 rfl) ?_
  refine g_geti X w fg_X1_61 KD_3 FR_3_0 dX1_reach_8 ?_
  refine g_icmp_ge (tgt := 67) X hv3 (w.2.2 _ _) dX1_reach_11 (by decide) (fun cd => ?_) (fun cd => ?_)
  · replace hf := ite_t cd hf
    exact HE v2 v3 _ _ _ (Option.some.inj hf).symm hv2 hv3 hl w
  · replace hf := ite_f cd hf
    refine lv_iload_n hx hb dX1_reach_14 rfl (lv_at hl 1 rfl) ?_
    refine g_ist (v := v2) (lv' := [(4, .int (i2 v2)), (0, .ref (ad 3)), (2, .int (i2 v2)), (3, .int (i2 v3))]) X rfl dX1_reach_15 hl (by decide) rfl (fun ls hl => ?_)
    refine g_iconst X dX1_reach_17 ?_
    refine g_ist (v := 0) (lv' := [(5, .int (i2 0)), (4, .int (i2 v2)), (0, .ref (ad 3)), (2, .int (i2 v2)), (3, .int (i2 v3))]) X rfl dX1_reach_18 hl (by decide) rfl (fun ls hl => ?_)
    obtain ⟨q, hq, h1⟩ := obn_some hf
    exact l_X1_reach_20 X v3 hv3 v2 hv2 (out := q) (fun y2 y5 H locs ls eq hy2 hy5 hl w => b_X1_reach_j53k6 X  HC HE HR y2 hy2 v3 hv3 v2 hv2 (by subst eq; exact h1) (lv_sub hl [0, 1, 2, 3] rfl) w)  FU v2 0 hq hv2 (inL rfl) (lv_sub hl [2, 3, 4, 1, 0] rfl) w
set_option maxRecDepth 100000 in
set_option maxHeartbeats 4000000 in
theorem l_X1_reach_6 (X : CX p s m args c cX1_reach 6 RX1 D aC ad sg A H0) {M : Mem} {out : (Int × Int) ⊕ (Int)} (HE : ∀ (y2 : Int) (y3 : Int) (H : Heap) (locs : List Loc) (ls : Array Slot), out = .inl (y2, y3) → inR y2 → inR y3 → lv_has ls 6 [(0, .ref (ad 3)), (2, .int (i2 y2)), (3, .int (i2 y3))] → WS D aC ad A H0 M H locs → W p l e rm_X1_reach s m args below meth c H locs 0 0 Q (F0 m 67 ls [])) (HR : ∀ (r : Int) (H : Heap) (locs : List Loc) (pc : Nat) (ls : Array Slot), out = .inr r → inR r → WS D aC ad A H0 M H locs → decode cX1_reach pc = .ok (.ireturn, 1) → W p l e rm_X1_reach s m args below meth c H locs 0 0 Q (F0 m pc ls [.int (i2 r)])) : ∀ (n : Nat) (v2 : Int) (v3 : Int), whl (fun s => f_X1_reach_s6 M s.1 s.2) n (v2, v3) = some out → inR v2 → inR v3 → ∀ {H : Heap} {locs : List Loc} {ls : Array Slot}, lv_has ls 6 [(0, .ref (ad 3)), (2, .int (i2 v2)), (3, .int (i2 v3))] → WS D aC ad A H0 M H locs → W p l e rm_X1_reach s m args below meth c H locs 0 0 Q (F0 m 6 ls []) := by
  intro n
  induction n with
  | zero => intro v2 v3 hf; exact (whl_zero hf).elim
  | succ n ih =>
    intro v2 v3 hf hv2 hv3 H locs ls hl w
    obtain ⟨o, hf, hk1, hk2⟩ := whl_step hf
    exact b_X1_reach_s6 X  (fun y2 y3 H locs ls eo hy2 hy3 hl w => ih y2 y3 (hk1 _ eo) hy2 hy3 hl w) (fun y2 y3 H locs ls eo hy2 hy3 hl w => HE y2 y3 H locs ls (hk2 _ eo).symm hy2 hy3 hl w) (fun r H locs pc ls eo hP w dg => HR r H locs pc ls (hk2 _ eo).symm hP w dg) v2 hv2 v3 hv3 hf hl w
set_option maxRecDepth 100000 in
set_option maxHeartbeats 4000000 in
theorem b_X1_reach_j67 (X : CX p s m args c cX1_reach 6 RX1 D aC ad sg A H0) {M : Mem} {o : Int} (HR : ∀ (r : Int) (H : Heap) (locs : List Loc) (pc : Nat) (ls : Array Slot), o = r → inR r → WS D aC ad A H0 M H locs → decode cX1_reach pc = .ok (.ireturn, 1) → W p l e rm_X1_reach s m args below meth c H locs 0 0 Q (F0 m pc ls [.int (i2 r)])) (v2 : Int) (hv2 : inR v2) (hf : f_X1_reach_j67 v2 M = some o) {H : Heap} {locs : List Loc} {ls : Array Slot} (hl : lv_has ls 6 [(2, .int (i2 v2))]) (w : WS D aC ad A H0 M H locs) : W p l e rm_X1_reach s m args below meth c H locs 0 0 Q (F0 m 67 ls []) := by
  have hx := X.1.1
  have hb := X.1.2.1
  unfold f_X1_reach_j67 at hf
  refine lv_iload_n hx hb dX1_reach_67 rfl (lv_at hl 0 rfl) ?_
  exact HR v2 _ _ _ _ (Option.some.inj hf).symm hv2 w dX1_reach_68
set_option maxRecDepth 100000 in
set_option maxHeartbeats 4000000 in
theorem b_X1_reach_0 (X : CX p s m args c cX1_reach 6 RX1 D aC ad sg A H0) {M : Mem} {o : Int} (HR : ∀ (r : Int) (H : Heap) (locs : List Loc) (pc : Nat) (ls : Array Slot), o = r → inR r → WS D aC ad A H0 M H locs → decode cX1_reach pc = .ok (.ireturn, 1) → W p l e rm_X1_reach s m args below meth c H locs 0 0 Q (F0 m pc ls [.int (i2 r)])) (p1 : Int) (hp1 : inR p1) (hf : f_X1_reach p1 M = some o) {H : Heap} {locs : List Loc} {ls : Array Slot} (hl : lv_has ls 6 [(0, .ref (ad 3)), (1, .int (i2 p1))]) (w : WS D aC ad A H0 M H locs) : W p l e rm_X1_reach s m args below meth c H locs 0 0 Q (F0 m 0 ls []) := by
  have hx := X.1.1
  have hb := X.1.2.1
  unfold f_X1_reach at hf
  refine g_iconst X dX1_reach_0 ?_
  refine lv_iload_n hx hb dX1_reach_1 rfl (lv_at hl 1 rfl) ?_
  refine g_ishl X dX1_reach_2 ?_
  obtain ⟨v2, ev2, hf⟩ := lt_some hf
  have hv2 : inR v2 := inR_of ev2 (inR_toInt _)
  refine g_istn (v := v2) (lv' := [(2, .int (i2 v2)), (0, .ref (ad 3)), (1, .int (i2 p1))]) X ev2 dX1_reach_3 rfl hl (by decide) rfl (fun ls hl => ?_)
  refine g_iconst X dX1_reach_4 ?_
  refine g_istn (v := 1) (lv' := [(3, .int (i2 1)), (2, .int (i2 v2)), (0, .ref (ad 3)), (1, .int (i2 p1))]) X rfl dX1_reach_5 rfl hl (by decide) rfl (fun ls hl => ?_)
  obtain ⟨q, hq, h1, h2⟩ := lpr_some hf
  exact l_X1_reach_6 X  (out := q) (fun y2 y3 H locs ls eq hy2 hy3 hl w => b_X1_reach_j67 X  HR y2 hy2 (h1 _ eq) (lv_sub hl [1] rfl) w) (fun r H locs pc ls eq hP w dg => HR r H locs pc ls (Option.some.inj (h2 _ eq)).symm hP w dg) FU v2 1 hq hv2 (inL rfl) (lv_sub hl [2, 1, 0] rfl) w
set_option maxRecDepth 100000 in
set_option maxHeartbeats 4000000 in
theorem k_X1_reach {l : Launch} {D : va_G} {aC : Nat → ClassId} {ad : Nat → Nat} {sg : SG} (hi : Inj ad) (p1 : Int) (hp1 : inR p1) {M : Mem} (hM : inM M) {r : Int} (hf : f_X1_reach p1 M = some r) : MetI l D aC ad sg yX1_reach cX1_reach 6 (some .int) rm_X1_reach 0 0 [.ref (ad 3), .int (i2 p1)] M r M := by
  refine MetI.ofI (by decide +kernel) (nle rfl) hi hM (fun p e s m args below meth c Q H0 ls X hl w hret => ?_)
  exact b_X1_reach_0 X  (fun r1 H locs pc ls eo hP w dg => by cases eo; exact hret H locs pc ls hP w dg) p1 hp1 hf hl w
set_option maxRecDepth 100000 in
set_option maxHeartbeats 4000000 in
theorem b_X1_wentBadly_0 (X : CX p s m args c cX1_wentBadly 2 RX1 D aC ad sg A H0) {M : Mem} {o : Int} (HR : ∀ (r : Int) (H : Heap) (locs : List Loc) (pc : Nat) (ls : Array Slot), o = r → isZ r → WS D aC ad A H0 M H locs → decode cX1_wentBadly pc = .ok (.ireturn, 1) → W p l e rm_X1_wentBadly s m args below meth c H locs 0 0 Q (F0 m pc ls [.int (i2 r)])) (p1 : Int) (hp1 : inR p1) (hf : f_X1_wentBadly p1 M = some o) {H : Heap} {locs : List Loc} {ls : Array Slot} (hl : lv_has ls 2 [(0, .ref (ad 3)), (1, .int (i2 p1))]) (w : WS D aC ad A H0 M H locs) : W p l e rm_X1_wentBadly s m args below meth c H locs 0 0 Q (F0 m 0 ls []) := by
  have hx := X.1.1
  have hb := X.1.2.1
  unfold f_X1_wentBadly at hf
  refine lv_aload_n hx hb dX1_wentBadly_0 rfl (lv_at hl 0 rfl) ?_
  refine g_getr X w fg_X1_42 KD_3 FR_3_11 dX1_wentBadly_1 ?_
  refine lv_iload_n hx hb dX1_wentBadly_4 rfl (lv_at hl 1 rfl) ?_
  obtain ⟨hg, hf⟩ := gd_some hf
  refine g_iald X w KD_14 hp1 hg dX1_wentBadly_5 ?_
  refine g_iconst X dX1_wentBadly_6 ?_
  refine g_icmp_eq (tgt := 31) X (w.2.2 _ _) (inL rfl) dX1_wentBadly_7 (by decide) (fun cd => ?_) (fun cd => ?_)
  · replace hf := ite_t cd hf
    refine g_iconst X dX1_wentBadly_31 ?_
    exact HR 0 _ _ _ _ (Option.some.inj hf).symm (Or.inl rfl) w dX1_wentBadly_32
  · replace hf := ite_f cd hf
    refine lv_aload_n hx hb dX1_wentBadly_10 rfl (lv_at hl 0 rfl) ?_
    refine g_getr X w fg_X1_42 KD_3 FR_3_11 dX1_wentBadly_11 ?_
    refine lv_iload_n hx hb dX1_wentBadly_14 rfl (lv_at hl 1 rfl) ?_
    obtain ⟨hg_2, hf⟩ := gd_some hf
    refine g_iald X w KD_14 hp1 hg_2 dX1_wentBadly_15 ?_
    refine lv_aload_n hx hb dX1_wentBadly_16 rfl (lv_at hl 0 rfl) ?_
    refine g_getr X w fg_X1_45 KD_3 FR_3_12 dX1_wentBadly_17 ?_
    refine lv_iload_n hx hb dX1_wentBadly_20 rfl (lv_at hl 1 rfl) ?_
    obtain ⟨hg_3, hf⟩ := gd_some hf
    refine g_iald X w KD_15 hp1 hg_3 dX1_wentBadly_21 ?_
    refine g_iadd X dX1_wentBadly_22 ?_
    refine g_iconst X dX1_wentBadly_23 ?_
    refine g_icmp_ge (tgt := 31) X (inR_wrap _) (inL rfl) dX1_wentBadly_24 (by decide) (fun cd_2 => ?_) (fun cd_2 => ?_)
    · replace hf := ite_t cd_2 hf
      refine g_iconst X dX1_wentBadly_31 ?_
      exact HR 0 _ _ _ _ (Option.some.inj hf).symm (Or.inl rfl) w dX1_wentBadly_32
    · replace hf := ite_f cd_2 hf
      refine g_iconst X dX1_wentBadly_27 ?_
      refine lv_goto (tgt := 32) hx hb dX1_wentBadly_28 (by decide) ?_
      exact HR 1 _ _ _ _ (Option.some.inj hf).symm (Or.inr rfl) w dX1_wentBadly_32
set_option maxRecDepth 100000 in
set_option maxHeartbeats 4000000 in
theorem k_X1_wentBadly {l : Launch} {D : va_G} {aC : Nat → ClassId} {ad : Nat → Nat} {sg : SG} (hi : Inj ad) (p1 : Int) (hp1 : inR p1) {M : Mem} (hM : inM M) {r : Int} (hf : f_X1_wentBadly p1 M = some r) : MetI l D aC ad sg yX1_wentBadly cX1_wentBadly 2 (some .boolean) rm_X1_wentBadly 0 0 [.ref (ad 3), .int (i2 p1)] M r M := by
  refine MetI.ofZ (by decide +kernel) (nle rfl) hi hM (fun p e s m args below meth c Q H0 ls X hl w hret => ?_)
  exact b_X1_wentBadly_0 X  (fun r1 H locs pc ls eo hP w dg => by cases eo; exact hret H locs pc ls hP w dg) p1 hp1 hf hl w
set_option maxRecDepth 100000 in
set_option maxHeartbeats 4000000 in
theorem b_X1_addRegret_0 (X : CX p s m args c cX1_addRegret 4 RX1 D aC ad sg A H0) {o : Mem} (HR : ∀ (M1 : Mem) (H : Heap) (locs : List Loc) (pc : Nat) (ls : Array Slot), o = M1 → WS D aC ad A H0 M1 H locs → decode cX1_addRegret pc = .ok (.return_, 1) → W p l e rm_X1_addRegret s m args below meth c H locs 0 0 Q (F0 m pc ls [])) (p1 : Int) (hp1 : inR p1) (p2 : Int) (hp2 : inR p2) (M : Mem) (hf : f_X1_addRegret p1 p2 M = some o) {H : Heap} {locs : List Loc} {ls : Array Slot} (hl : lv_has ls 4 [(0, .ref (ad 3)), (1, .int (i2 p1)), (2, .int (i2 p2))]) (w : WS D aC ad A H0 M H locs) : W p l e rm_X1_addRegret s m args below meth c H locs 0 0 Q (F0 m 0 ls []) := by
  have hx := X.1.1
  have hb := X.1.2.1
  unfold f_X1_addRegret at hf
  refine lv_aload_n hx hb dX1_addRegret_0 rfl (lv_at hl 0 rfl) ?_
  refine g_getr X w fg_X1_39 KD_3 FR_3_10 dX1_addRegret_1 ?_
  refine lv_iload_n hx hb dX1_addRegret_4 rfl (lv_at hl 1 rfl) ?_
  refine g_bipush X dX1_addRegret_5 (by decide) ?_
  refine g_imul X dX1_addRegret_7 ?_
  refine lv_iload_n hx hb dX1_addRegret_8 rfl (lv_at hl 2 rfl) ?_
  refine g_iadd X dX1_addRegret_9 ?_
  obtain ⟨hg, hf⟩ := gd_some hf
  refine g_iald X w KD_13 (inR_wrap _) hg dX1_addRegret_10 ?_
  refine g_iconst X dX1_addRegret_11 ?_
  refine g_iadd X dX1_addRegret_12 ?_
  refine g_bipush X dX1_addRegret_13 (by decide) ?_
  refine g_min X (inR_wrap _) (inL rfl) hl.1 mw_X1_72 ⟨nle rfl, nle rfl⟩ (nle rfl) (nle rfl) (nle rfl) dX1_addRegret_15 ?_
  obtain ⟨v3, ev3, hf⟩ := lt_some hf
  have hv3 : inR v3 := inR_of ev3 (inR_ite (inL rfl) (inR_wrap _))
  refine g_istn (v := v3) (lv' := [(3, .int (i2 v3)), (0, .ref (ad 3)), (1, .int (i2 p1)), (2, .int (i2 p2))]) X ev3 dX1_addRegret_18 rfl hl (by decide) rfl (fun ls hl => ?_)
  refine lv_aload_n hx hb dX1_addRegret_19 rfl (lv_at hl 1 rfl) ?_
  refine g_getr X w fg_X1_39 KD_3 FR_3_10 dX1_addRegret_20 ?_
  refine lv_iload_n hx hb dX1_addRegret_23 rfl (lv_at hl 2 rfl) ?_
  refine g_bipush X dX1_addRegret_24 (by decide) ?_
  refine g_imul X dX1_addRegret_26 ?_
  refine lv_iload_n hx hb dX1_addRegret_27 rfl (lv_at hl 3 rfl) ?_
  refine g_iadd X dX1_addRegret_28 ?_
  refine lv_iload_n hx hb dX1_addRegret_29 rfl (lv_at hl 0 rfl) ?_
  obtain ⟨hg_2, hf⟩ := gd_some hf
  obtain ⟨M_2, eM_2, hf⟩ := lt_some hf
  refine g_iast X w KD_13 (inR_wrap _) hg_2 hv3 dX1_addRegret_30 (fun H locs w_M_2 => ?_)
  rw [← eM_2] at w_M_2
  refine lv_aload_n hx hb dX1_addRegret_31 rfl (lv_at hl 1 rfl) ?_
  refine g_getr X w_M_2 fg_X1_39 KD_3 FR_3_10 dX1_addRegret_32 ?_
  refine lv_iload_n hx hb dX1_addRegret_35 rfl (lv_at hl 3 rfl) ?_
  refine g_bipush X dX1_addRegret_36 (by decide) ?_
  refine g_imul X dX1_addRegret_38 ?_
  refine lv_iload_n hx hb dX1_addRegret_39 rfl (lv_at hl 2 rfl) ?_
  refine g_iadd X dX1_addRegret_40 ?_
  refine lv_iload_n hx hb dX1_addRegret_41 rfl (lv_at hl 0 rfl) ?_
  obtain ⟨hg_3, hf⟩ := gd_some hf
  obtain ⟨M_3, eM_3, hf⟩ := lt_some hf
  refine g_iast X w_M_2 KD_13 (inR_wrap _) hg_3 hv3 dX1_addRegret_42 (fun H locs w_M_3 => ?_)
  rw [← eM_3] at w_M_3
  exact HR M_3 _ _ _ _ (Option.some.inj hf).symm w_M_3 dX1_addRegret_43
set_option maxRecDepth 100000 in
set_option maxHeartbeats 4000000 in
theorem k_X1_addRegret {l : Launch} {D : va_G} {aC : Nat → ClassId} {ad : Nat → Nat} {sg : SG} (hi : Inj ad) (p1 : Int) (hp1 : inR p1) (p2 : Int) (hp2 : inR p2) {M : Mem} (hM : inM M) {M' : Mem} (hf : f_X1_addRegret p1 p2 M = some M') : MetV l D aC ad sg yX1_addRegret cX1_addRegret 4 rm_X1_addRegret 0 0 [.ref (ad 3), .int (i2 p1), .int (i2 p2)] M M' := by
  refine MetV.of (by decide +kernel) (nle rfl) hi hM (fun p e s m args below meth c Q H0 ls X hl w hret => ?_)
  exact b_X1_addRegret_0 X  (fun M1 H locs pc ls eo w dg => by cases eo; exact hret H locs pc ls w dg) p1 hp1 p2 hp2 M hf hl w
end
section
variable {p : Program} {l : Launch} {e : Env} {s : State} {m : MethodId} {args : Array Value} {below : List Frame} {meth : Method} {c : Code} {Q : State → Prop} {D : va_G} {aC : Nat → ClassId} {ad : Nat → Nat} {sg : SG} {A : Nat → Prop} {H0 : Heap}
set_option maxRecDepth 100000 in
set_option maxHeartbeats 4000000 in
theorem b_X5_learn_s10 (X : CX p s m args c cX5_learn 3 RX5 D aC ad sg A H0) (v1 : Int) (hv1 : inR v1) {o : (Int × Mem) ⊕ (Int × Mem)} (HC : ∀ (y2 : Int) (M1 : Mem) (H : Heap) (locs : List Loc) (ls : Array Slot), o = .inl (y2, M1) → inR y2 → lv_has ls 3 [(0, .ref (ad 17)), (1, .int (i2 v1)), (2, .int (i2 y2))] → WS D aC ad A H0 M1 H locs → W p l e rm_X5_learn s m args below meth c H locs 0 0 Q (F0 m 10 ls [])) (HE : ∀ (y2 : Int) (M1 : Mem) (H : Heap) (locs : List Loc) (ls : Array Slot), o = .inr (y2, M1) → inR y2 → lv_has ls 3 [(0, .ref (ad 17)), (1, .int (i2 v1)), (2, .int (i2 y2))] → WS D aC ad A H0 M1 H locs → W p l e rm_X5_learn s m args below meth c H locs 0 0 Q (F0 m 70 ls [])) (v2 : Int) (hv2 : inR v2) (M : Mem) (hf : f_X5_learn_s10 v1 v2 M = some o) {H : Heap} {locs : List Loc} {ls : Array Slot} (hl : lv_has ls 3 [(0, .ref (ad 17)), (1, .int (i2 v1)), (2, .int (i2 v2))]) (w : WS D aC ad A H0 M H locs) : W p l e rm_X5_learn s m args below meth c H locs 0 0 Q (F0 m 10 ls []) := by
  have hx := X.1.1
  have hb := X.1.2.1
  unfold f_X5_learn_s10 at hf
  refine lv_iload_n hx hb dX5_learn_10 rfl (lv_at hl 2 rfl) ?_
  refine lv_aload_n hx hb dX5_learn_11 rfl (lv_at hl 0 rfl) ?_
  refine g_geti X w fg_X5_30 KD_17 FR_17_0 dX5_learn_12 ?_
  refine g_icmp_ge (tgt := 70) X hv2 (w.2.2 _ _) dX5_learn_15 (by decide) (fun cd => ?_) (fun cd => ?_)
  · replace hf := ite_t cd hf
    exact HE v2 M _ _ _ (Option.some.inj hf).symm hv2 hl w
  · replace hf := ite_f cd hf
    refine lv_aload_n hx hb dX5_learn_18 rfl (lv_at hl 0 rfl) ?_
    refine g_getr X w fg_X5_24 KD_17 FR_17_5 dX5_learn_19 ?_
    refine lv_iload_n hx hb dX5_learn_22 rfl (lv_at hl 2 rfl) ?_
    obtain ⟨hg, hf⟩ := gd_some hf
    refine g_iald X w KD_22 hv2 hg dX5_learn_23 ?_
    refine lv_iload_n hx hb dX5_learn_24 rfl (lv_at hl 1 rfl) ?_
    refine g_icmp_gt (tgt := 64) X (w.2.2 _ _) hv1 dX5_learn_25 (by decide) (fun cd_2 => ?_) (fun cd_2 => ?_)
    · replace hf := ite_t cd_2 hf
      obtain ⟨v2_2, ev2_2, hf⟩ := lt_some hf
      have hv2_2 : inR v2_2 := inR_of ev2_2 (inR_wrap _)
      refine lv_iinc (v := i2 v2_2) (lv' := [(2, .int (i2 v2_2)), (0, .ref (ad 17)), (1, .int (i2 v1))]) hx hb dX5_learn_64 hl (k := 2) rfl (by rw [ev2_2]; exact i2_add _ _) (by decide) rfl (fun ls hl => ?_)
      refine lv_goto (tgt := 10) hx hb dX5_learn_67 (by decide) ?_
      exact HC v2_2 M _ _ _ (Option.some.inj hf).symm hv2_2 (lv_sub hl [1, 2, 0] rfl) w
    · replace hf := ite_f cd_2 hf
      refine lv_aload_n hx hb dX5_learn_28 rfl (lv_at hl 0 rfl) ?_
      refine g_getr X w fg_X5_27 KD_17 FR_17_6 dX5_learn_29 ?_
      refine lv_aload_n hx hb dX5_learn_32 rfl (lv_at hl 0 rfl) ?_
      refine g_getr X w fg_X5_18 KD_17 FR_17_3 dX5_learn_33 ?_
      refine lv_iload_n hx hb dX5_learn_36 rfl (lv_at hl 2 rfl) ?_
      obtain ⟨hg_2, hf⟩ := gd_some hf
      refine g_iald X w KD_20 hv2 hg_2 dX5_learn_37 ?_
      refine g_iconst X dX5_learn_38 ?_
      refine g_imul X dX5_learn_39 ?_
      refine lv_aload_n hx hb dX5_learn_40 rfl (lv_at hl 0 rfl) ?_
      refine g_getr X w fg_X5_11 KD_17 FR_17_1 dX5_learn_41 ?_
      refine lv_iload_n hx hb dX5_learn_44 rfl (lv_at hl 2 rfl) ?_
      obtain ⟨hg_3, hf⟩ := gd_some hf
      refine g_iald X w KD_18 hv2 hg_3 dX5_learn_45 ?_
      refine g_iadd X dX5_learn_46 ?_
      refine g_bipush X dX5_learn_47 (by decide) ?_
      refine g_imul X dX5_learn_49 ?_
      refine lv_aload_n hx hb dX5_learn_50 rfl (lv_at hl 0 rfl) ?_
      refine g_getr X w fg_X5_15 KD_17 FR_17_2 dX5_learn_51 ?_
      refine lv_iload_n hx hb dX5_learn_54 rfl (lv_at hl 2 rfl) ?_
      obtain ⟨hg_4, hf⟩ := gd_some hf
      refine g_iald X w KD_19 hv2 hg_4 dX5_learn_55 ?_
      refine g_iadd X dX5_learn_56 ?_
      refine lv_aload_n hx hb dX5_learn_57 rfl (lv_at hl 0 rfl) ?_
      refine g_getr X w fg_X5_21 KD_17 FR_17_4 dX5_learn_58 ?_
      refine lv_iload_n hx hb dX5_learn_61 rfl (lv_at hl 2 rfl) ?_
      obtain ⟨hg_5, hf⟩ := gd_some hf
      refine g_iald X w KD_21 hv2 hg_5 dX5_learn_62 ?_
      obtain ⟨hg_6, hf⟩ := gd_some hf
      obtain ⟨M_2, eM_2, hf⟩ := lt_some hf
      refine g_iast X w KD_23 (inR_wrap _) hg_6 (w.2.2 _ _) dX5_learn_63 (fun H locs w_M_2 => ?_)
      rw [← eM_2] at w_M_2
      obtain ⟨v2_3, ev2_3, hf⟩ := lt_some hf
      have hv2_3 : inR v2_3 := inR_of ev2_3 (inR_wrap _)
      refine lv_iinc (v := i2 v2_3) (lv' := [(2, .int (i2 v2_3)), (0, .ref (ad 17)), (1, .int (i2 v1))]) hx hb dX5_learn_64 hl (k := 2) rfl (by rw [ev2_3]; exact i2_add _ _) (by decide) rfl (fun ls hl => ?_)
      refine lv_goto (tgt := 10) hx hb dX5_learn_67 (by decide) ?_
      exact HC v2_3 M_2 _ _ _ (Option.some.inj hf).symm hv2_3 (lv_sub hl [1, 2, 0] rfl) w_M_2
set_option maxRecDepth 100000 in
set_option maxHeartbeats 4000000 in
theorem l_X5_learn_10 (X : CX p s m args c cX5_learn 3 RX5 D aC ad sg A H0) (v1 : Int) (hv1 : inR v1) {out : Int × Mem} (HE : ∀ (y2 : Int) (M1 : Mem) (H : Heap) (locs : List Loc) (ls : Array Slot), out = (y2, M1) → inR y2 → lv_has ls 3 [(0, .ref (ad 17)), (1, .int (i2 v1)), (2, .int (i2 y2))] → WS D aC ad A H0 M1 H locs → W p l e rm_X5_learn s m args below meth c H locs 0 0 Q (F0 m 70 ls [])) : ∀ (n : Nat) (v2 : Int) (M : Mem), whl (fun s => f_X5_learn_s10 v1 s.1 s.2) n (v2, M) = some out → inR v2 → ∀ {H : Heap} {locs : List Loc} {ls : Array Slot}, lv_has ls 3 [(0, .ref (ad 17)), (1, .int (i2 v1)), (2, .int (i2 v2))] → WS D aC ad A H0 M H locs → W p l e rm_X5_learn s m args below meth c H locs 0 0 Q (F0 m 10 ls []) := by
  intro n
  induction n with
  | zero => intro v2 M hf; exact (whl_zero hf).elim
  | succ n ih =>
    intro v2 M hf hv2 H locs ls hl w
    obtain ⟨o, hf, hk1, hk2⟩ := whl_step hf
    exact b_X5_learn_s10 X v1 hv1 (fun y2 M1 H locs ls eo hy2 hl w => ih y2 M1 (hk1 _ eo) hy2 hl w) (fun y2 M1 H locs ls eo hy2 hl w => HE y2 M1 H locs ls (hk2 _ eo).symm hy2 hl w) v2 hv2 M hf hl w
set_option maxRecDepth 100000 in
set_option maxHeartbeats 4000000 in
theorem b_X5_learn_j70 (X : CX p s m args c cX5_learn 3 RX5 D aC ad sg A H0) {o : Mem} (HR : ∀ (M1 : Mem) (H : Heap) (locs : List Loc) (pc : Nat) (ls : Array Slot), o = M1 → WS D aC ad A H0 M1 H locs → decode cX5_learn pc = .ok (.return_, 1) → W p l e rm_X5_learn s m args below meth c H locs 0 0 Q (F0 m pc ls [])) (M : Mem) (hf : f_X5_learn_j70 M = some o) {H : Heap} {locs : List Loc} {ls : Array Slot} (hl : lv_has ls 3 []) (w : WS D aC ad A H0 M H locs) : W p l e rm_X5_learn s m args below meth c H locs 0 0 Q (F0 m 70 ls []) := by
  have hx := X.1.1
  have hb := X.1.2.1
  unfold f_X5_learn_j70 at hf
  exact HR M _ _ _ _ (Option.some.inj hf).symm w dX5_learn_70
set_option maxRecDepth 100000 in
set_option maxHeartbeats 4000000 in
theorem b_X5_learn_0 (X : CX p s m args c cX5_learn 3 RX5 D aC ad sg A H0) {o : Mem} (HR : ∀ (M1 : Mem) (H : Heap) (locs : List Loc) (pc : Nat) (ls : Array Slot), o = M1 → WS D aC ad A H0 M1 H locs → decode cX5_learn pc = .ok (.return_, 1) → W p l e rm_X5_learn s m args below meth c H locs 0 0 Q (F0 m pc ls [])) (p1 : Int) (hp1 : inR p1) (M : Mem) (hf : f_X5_learn p1 M = some o) {H : Heap} {locs : List Loc} {ls : Array Slot} (hl : lv_has ls 3 [(0, .ref (ad 17)), (1, .int (i2 p1))]) (w : WS D aC ad A H0 M H locs) : W p l e rm_X5_learn s m args below meth c H locs 0 0 Q (F0 m 0 ls []) := by
  have hx := X.1.1
  have hb := X.1.2.1
  unfold f_X5_learn at hf
  refine lv_aload_n hx hb dX5_learn_0 rfl (lv_at hl 0 rfl) ?_
  refine g_getr X w fg_X5_27 KD_17 FR_17_6 dX5_learn_1 ?_
  refine g_iconst X dX5_learn_4 ?_
  obtain ⟨M_2, hc, hf⟩ := obn_some hf
  refine g_csv (As := [.ref (ad 23), .int (i2 (-1))]) (rest := []) X w (k_J7_fill_53178 X.2.2.1 23 KA_23 (-1) (inL rfl) w.2.2 hc) lk_X5_34 ⟨rfl, rfl⟩ ⟨nle rfl, nle rfl⟩ ⟨nle rfl, nle rfl⟩ hl.1 rfl (nle rfl) dX5_learn_5 (fun H locs w_M_2 => ?_)
  refine g_iconst X dX5_learn_8 ?_
  refine g_istn (v := 0) (lv' := [(2, .int (i2 0)), (0, .ref (ad 17)), (1, .int (i2 p1))]) X rfl dX5_learn_9 rfl hl (by decide) rfl (fun ls hl => ?_)
  obtain ⟨q, hq, h1⟩ := obn_some hf
  exact l_X5_learn_10 X p1 hp1 (out := q) (fun y2 M1 H locs ls eq hy2 hl w => b_X5_learn_j70 X  HR M1 (by subst eq; exact h1) (lv_sub hl [] rfl) w)  FU 0 M_2 hq (inL rfl) (lv_sub hl [1, 2, 0] rfl) w_M_2
set_option maxRecDepth 100000 in
set_option maxHeartbeats 4000000 in
theorem k_X5_learn {l : Launch} {D : va_G} {aC : Nat → ClassId} {ad : Nat → Nat} {sg : SG} (hi : Inj ad) (p1 : Int) (hp1 : inR p1) {M : Mem} (hM : inM M) {M' : Mem} (hf : f_X5_learn p1 M = some M') : MetV l D aC ad sg yX5_learn cX5_learn 3 rm_X5_learn 0 0 [.ref (ad 17), .int (i2 p1)] M M' := by
  refine MetV.of (by decide +kernel) (nle rfl) hi hM (fun p e s m args below meth c Q H0 ls X hl w hret => ?_)
  exact b_X5_learn_0 X  (fun M1 H locs pc ls eo w dg => by cases eo; exact hret H locs pc ls w dg) p1 hp1 M hf hl w
set_option maxRecDepth 100000 in
set_option maxHeartbeats 4000000 in
theorem b_X5_scale_s38 (X : CX p s m args c cX5_scale 9 RX5 D aC ad sg A H0) (v2 : Int) (hv2 : inR v2) (v4 : Int) (hv4 : inR v4) (v5 : Int) (hv5 : inR v5) {M : Mem} {o : (Int × Int × Int) ⊕ (Int × Int × Int)} (HC : ∀ (y6 : Int) (y7 : Int) (y8 : Int) (H : Heap) (locs : List Loc) (ls : Array Slot), o = .inl (y6, y7, y8) → inR y6 → inR y7 → inR y8 → lv_has ls 9 [(0, .ref (ad 17)), (2, .int (i2 v2)), (4, .int (i2 v4)), (5, .int (i2 v5)), (6, .int (i2 y6)), (7, .int (i2 y7)), (8, .int (i2 y8))] → WS D aC ad A H0 M H locs → W p l e rm_X5_scale s m args below meth c H locs 0 0 Q (F0 m 38 ls [])) (HE : ∀ (y6 : Int) (y7 : Int) (y8 : Int) (H : Heap) (locs : List Loc) (ls : Array Slot), o = .inr (y6, y7, y8) → inR y6 → inR y7 → inR y8 → lv_has ls 9 [(0, .ref (ad 17)), (2, .int (i2 v2)), (4, .int (i2 v4)), (5, .int (i2 v5)), (6, .int (i2 y6)), (7, .int (i2 y7)), (8, .int (i2 y8))] → WS D aC ad A H0 M H locs → W p l e rm_X5_scale s m args below meth c H locs 0 0 Q (F0 m 92 ls [])) (v6 : Int) (hv6 : inR v6) (v7 : Int) (hv7 : inR v7) (v8 : Int) (hv8 : inR v8) (hf : f_X5_scale_s38 v2 v4 v5 M v6 v7 v8 = some o) {H : Heap} {locs : List Loc} {ls : Array Slot} (hl : lv_has ls 9 [(0, .ref (ad 17)), (2, .int (i2 v2)), (4, .int (i2 v4)), (5, .int (i2 v5)), (6, .int (i2 v6)), (7, .int (i2 v7)), (8, .int (i2 v8))]) (w : WS D aC ad A H0 M H locs) : W p l e rm_X5_scale s m args below meth c H locs 0 0 Q (F0 m 38 ls []) := by
  have hx := X.1.1
  have hb := X.1.2.1
  unfold f_X5_scale_s38 at hf
  refine lv_iload hx hb dX5_scale_38 (lv_at hl 6 rfl) ?_
  refine g_bipush X dX5_scale_40 (by decide) ?_
  refine g_icmp_ge (tgt := 92) X hv8 (inL rfl) dX5_scale_42 (by decide) (fun cd => ?_) (fun cd => ?_)
  · replace hf := ite_t cd hf
    exact HE v6 v7 v8 _ _ _ (Option.some.inj hf).symm hv6 hv7 hv8 hl w
  · replace hf := ite_f cd hf
    refine lv_iload hx hb dX5_scale_45 (lv_at hl 6 rfl) ?_
    refine lv_iload_n hx hb dX5_scale_47 rfl (lv_at hl 1 rfl) ?_
    refine g_icmp_eq (tgt := 86) X hv8 hv2 dX5_scale_48 (by decide) (fun cd_2 => ?_) (fun cd_2 => ?_)
    · replace hf := ite_t cd_2 hf
      obtain ⟨v8_2, ev8_2, hf⟩ := lt_some hf
      have hv8_2 : inR v8_2 := inR_of ev8_2 (inR_wrap _)
      refine lv_iinc (v := i2 v8_2) (lv' := [(8, .int (i2 v8_2)), (0, .ref (ad 17)), (2, .int (i2 v2)), (4, .int (i2 v4)), (5, .int (i2 v5)), (6, .int (i2 v6)), (7, .int (i2 v7))]) hx hb dX5_scale_86 hl (k := 6) rfl (by rw [ev8_2]; exact i2_add _ _) (by decide) rfl (fun ls hl => ?_)
      refine lv_goto (tgt := 38) hx hb dX5_scale_89 (by decide) ?_
      exact HC v6 v7 v8_2 _ _ _ (Option.some.inj hf).symm hv6 hv7 hv8_2 (lv_sub hl [1, 2, 3, 4, 5, 6, 0] rfl) w
    · replace hf := ite_f cd_2 hf
      refine lv_aload_n hx hb dX5_scale_51 rfl (lv_at hl 0 rfl) ?_
      refine g_getr X w fg_X5_27 KD_17 FR_17_6 dX5_scale_52 ?_
      refine lv_iload hx hb dX5_scale_55 (lv_at hl 2 rfl) ?_
      refine lv_iload hx hb dX5_scale_57 (lv_at hl 6 rfl) ?_
      refine g_iadd X dX5_scale_59 ?_
      obtain ⟨hg, hf⟩ := gd_some hf
      refine g_iald X w KD_23 (inR_wrap _) hg dX5_scale_60 ?_
      refine g_iconst X dX5_scale_61 ?_
      refine g_icmp_eq (tgt := 86) X (w.2.2 _ _) (inL rfl) dX5_scale_62 (by decide) (fun cd_3 => ?_) (fun cd_3 => ?_)
      · replace hf := ite_t cd_3 hf
        obtain ⟨v8_3, ev8_3, hf⟩ := lt_some hf
        have hv8_3 : inR v8_3 := inR_of ev8_3 (inR_wrap _)
        refine lv_iinc (v := i2 v8_3) (lv' := [(8, .int (i2 v8_3)), (0, .ref (ad 17)), (2, .int (i2 v2)), (4, .int (i2 v4)), (5, .int (i2 v5)), (6, .int (i2 v6)), (7, .int (i2 v7))]) hx hb dX5_scale_86 hl (k := 6) rfl (by rw [ev8_3]; exact i2_add _ _) (by decide) rfl (fun ls hl => ?_)
        refine lv_goto (tgt := 38) hx hb dX5_scale_89 (by decide) ?_
        exact HC v6 v7 v8_3 _ _ _ (Option.some.inj hf).symm hv6 hv7 hv8_3 (lv_sub hl [1, 2, 3, 4, 5, 6, 0] rfl) w
      · replace hf := ite_f cd_3 hf
        obtain ⟨v7_2, ev7_2, hf⟩ := lt_some hf
        have hv7_2 : inR v7_2 := inR_of ev7_2 (inR_wrap _)
        refine lv_iinc (v := i2 v7_2) (lv' := [(7, .int (i2 v7_2)), (0, .ref (ad 17)), (2, .int (i2 v2)), (4, .int (i2 v4)), (5, .int (i2 v5)), (6, .int (i2 v6)), (8, .int (i2 v8))]) hx hb dX5_scale_65 hl (k := 5) rfl (by rw [ev7_2]; exact i2_add _ _) (by decide) rfl (fun ls hl => ?_)
        refine lv_aload_n hx hb dX5_scale_68 rfl (lv_at hl 1 rfl) ?_
        refine g_getr X w fg_X5_27 KD_17 FR_17_6 dX5_scale_69 ?_
        refine lv_iload hx hb dX5_scale_72 (lv_at hl 3 rfl) ?_
        refine lv_iload hx hb dX5_scale_74 (lv_at hl 6 rfl) ?_
        refine g_iadd X dX5_scale_76 ?_
        obtain ⟨hg_2, hf⟩ := gd_some hf
        refine g_iald X w KD_23 (inR_wrap _) hg_2 dX5_scale_77 ?_
        refine lv_iload hx hb dX5_scale_78 (lv_at hl 4 rfl) ?_
        refine g_icmp_ge (tgt := 86) X (w.2.2 _ _) hv5 dX5_scale_80 (by decide) (fun cd_4 => ?_) (fun cd_4 => ?_)
        · replace hf := ite_t cd_4 hf
          obtain ⟨v8_4, ev8_4, hf⟩ := lt_some hf
          have hv8_4 : inR v8_4 := inR_of ev8_4 (inR_wrap _)
          refine lv_iinc (v := i2 v8_4) (lv' := [(8, .int (i2 v8_4)), (7, .int (i2 v7_2)), (0, .ref (ad 17)), (2, .int (i2 v2)), (4, .int (i2 v4)), (5, .int (i2 v5)), (6, .int (i2 v6))]) hx hb dX5_scale_86 hl (k := 6) rfl (by rw [ev8_4]; exact i2_add _ _) (by decide) rfl (fun ls hl => ?_)
          refine lv_goto (tgt := 38) hx hb dX5_scale_89 (by decide) ?_
          exact HC v6 v7_2 v8_4 _ _ _ (Option.some.inj hf).symm hv6 hv7_2 hv8_4 (lv_sub hl [2, 3, 4, 5, 6, 1, 0] rfl) w
        · replace hf := ite_f cd_4 hf
          obtain ⟨v6_2, ev6_2, hf⟩ := lt_some hf
          have hv6_2 : inR v6_2 := inR_of ev6_2 (inR_wrap _)
          refine lv_iinc (v := i2 v6_2) (lv' := [(6, .int (i2 v6_2)), (7, .int (i2 v7_2)), (0, .ref (ad 17)), (2, .int (i2 v2)), (4, .int (i2 v4)), (5, .int (i2 v5)), (8, .int (i2 v8))]) hx hb dX5_scale_83 hl (k := 5) rfl (by rw [ev6_2]; exact i2_add _ _) (by decide) rfl (fun ls hl => ?_)
          obtain ⟨v8_5, ev8_5, hf⟩ := lt_some hf
          have hv8_5 : inR v8_5 := inR_of ev8_5 (inR_wrap _)
          refine lv_iinc (v := i2 v8_5) (lv' := [(8, .int (i2 v8_5)), (6, .int (i2 v6_2)), (7, .int (i2 v7_2)), (0, .ref (ad 17)), (2, .int (i2 v2)), (4, .int (i2 v4)), (5, .int (i2 v5))]) hx hb dX5_scale_86 hl (k := 6) rfl (by rw [ev8_5]; exact i2_add _ _) (by decide) rfl (fun ls hl => ?_)
          refine lv_goto (tgt := 38) hx hb dX5_scale_89 (by decide) ?_
          exact HC v6_2 v7_2 v8_5 _ _ _ (Option.some.inj hf).symm hv6_2 hv7_2 hv8_5 (lv_sub hl [3, 4, 5, 6, 1, 2, 0] rfl) w
set_option maxRecDepth 100000 in
set_option maxHeartbeats 4000000 in
theorem l_X5_scale_38 (X : CX p s m args c cX5_scale 9 RX5 D aC ad sg A H0) (v2 : Int) (hv2 : inR v2) (v4 : Int) (hv4 : inR v4) (v5 : Int) (hv5 : inR v5) {M : Mem} {out : Int × Int × Int} (HE : ∀ (y6 : Int) (y7 : Int) (y8 : Int) (H : Heap) (locs : List Loc) (ls : Array Slot), out = (y6, y7, y8) → inR y6 → inR y7 → inR y8 → lv_has ls 9 [(0, .ref (ad 17)), (2, .int (i2 v2)), (4, .int (i2 v4)), (5, .int (i2 v5)), (6, .int (i2 y6)), (7, .int (i2 y7)), (8, .int (i2 y8))] → WS D aC ad A H0 M H locs → W p l e rm_X5_scale s m args below meth c H locs 0 0 Q (F0 m 92 ls [])) : ∀ (n : Nat) (v6 : Int) (v7 : Int) (v8 : Int), whl (fun s => f_X5_scale_s38 v2 v4 v5 M s.1 s.2.1 s.2.2) n (v6, v7, v8) = some out → inR v6 → inR v7 → inR v8 → ∀ {H : Heap} {locs : List Loc} {ls : Array Slot}, lv_has ls 9 [(0, .ref (ad 17)), (2, .int (i2 v2)), (4, .int (i2 v4)), (5, .int (i2 v5)), (6, .int (i2 v6)), (7, .int (i2 v7)), (8, .int (i2 v8))] → WS D aC ad A H0 M H locs → W p l e rm_X5_scale s m args below meth c H locs 0 0 Q (F0 m 38 ls []) := by
  intro n
  induction n with
  | zero => intro v6 v7 v8 hf; exact (whl_zero hf).elim
  | succ n ih =>
    intro v6 v7 v8 hf hv6 hv7 hv8 H locs ls hl w
    obtain ⟨o, hf, hk1, hk2⟩ := whl_step hf
    exact b_X5_scale_s38 X v2 hv2 v4 hv4 v5 hv5 (fun y6 y7 y8 H locs ls eo hy6 hy7 hy8 hl w => ih y6 y7 y8 (hk1 _ eo) hy6 hy7 hy8 hl w) (fun y6 y7 y8 H locs ls eo hy6 hy7 hy8 hl w => HE y6 y7 y8 H locs ls (hk2 _ eo).symm hy6 hy7 hy8 hl w) v6 hv6 v7 hv7 v8 hv8 hf hl w
set_option maxRecDepth 100000 in
set_option maxHeartbeats 4000000 in
theorem b_X5_scale_j92 (X : CX p s m args c cX5_scale 9 RX5 D aC ad sg A H0) {M : Mem} {o : Int} (HR : ∀ (r : Int) (H : Heap) (locs : List Loc) (pc : Nat) (ls : Array Slot), o = r → inR r → WS D aC ad A H0 M H locs → decode cX5_scale pc = .ok (.ireturn, 1) → W p l e rm_X5_scale s m args below meth c H locs 0 0 Q (F0 m pc ls [.int (i2 r)])) (v6 : Int) (hv6 : inR v6) (v7 : Int) (hv7 : inR v7) (hf : f_X5_scale_j92 v6 v7 M = some o) {H : Heap} {locs : List Loc} {ls : Array Slot} (hl : lv_has ls 9 [(6, .int (i2 v6)), (7, .int (i2 v7))]) (w : WS D aC ad A H0 M H locs) : W p l e rm_X5_scale s m args below meth c H locs 0 0 Q (F0 m 92 ls []) := by
  have hx := X.1.1
  have hb := X.1.2.1
  unfold f_X5_scale_j92 at hf
  refine lv_iload hx hb dX5_scale_92 (lv_at hl 1 rfl) ?_
  refine g_if_ne (tgt := 101) X hv7 dX5_scale_94 (by decide) (fun cd => ?_) (fun cd => ?_)
  · replace hf := ite_f cd hf
    refine g_bipush X dX5_scale_101 (by decide) ?_
    refine lv_iload hx hb dX5_scale_103 (lv_at hl 0 rfl) ?_
    refine g_imul X dX5_scale_105 ?_
    refine lv_iload hx hb dX5_scale_106 (lv_at hl 1 rfl) ?_
    obtain ⟨hg, hf⟩ := gd_some hf
    refine g_idiv X hv7 hg dX5_scale_108 ?_
    exact HR (jdiv (wrap (10 * v6)) v7) _ _ _ _ (Option.some.inj hf).symm (inR_toInt _) w dX5_scale_109
  · replace hf := ite_t cd hf
    refine g_iconst X dX5_scale_97 ?_
    refine lv_goto (tgt := 109) hx hb dX5_scale_98 (by decide) ?_
    exact HR 5 _ _ _ _ (Option.some.inj hf).symm (inL rfl) w dX5_scale_109
set_option maxRecDepth 100000 in
set_option maxHeartbeats 4000000 in
theorem b_X5_scale_0 (X : CX p s m args c cX5_scale 9 RX5 D aC ad sg A H0) {M : Mem} {o : Int} (HR : ∀ (r : Int) (H : Heap) (locs : List Loc) (pc : Nat) (ls : Array Slot), o = r → inR r → WS D aC ad A H0 M H locs → decode cX5_scale pc = .ok (.ireturn, 1) → W p l e rm_X5_scale s m args below meth c H locs 0 0 Q (F0 m pc ls [.int (i2 r)])) (p1 : Int) (hp1 : inR p1) (p2 : Int) (hp2 : inR p2) (p3 : Int) (hp3 : inR p3) (hf : f_X5_scale p1 p2 p3 M = some o) {H : Heap} {locs : List Loc} {ls : Array Slot} (hl : lv_has ls 9 [(0, .ref (ad 17)), (1, .int (i2 p1)), (2, .int (i2 p2)), (3, .int (i2 p3))]) (w : WS D aC ad A H0 M H locs) : W p l e rm_X5_scale s m args below meth c H locs 0 0 Q (F0 m 0 ls []) := by
  have hx := X.1.1
  have hb := X.1.2.1
  unfold f_X5_scale at hf
  refine lv_iload_n hx hb dX5_scale_0 rfl (lv_at hl 3 rfl) ?_
  refine g_iconst X dX5_scale_1 ?_
  refine g_imul X dX5_scale_2 ?_
  refine lv_iload_n hx hb dX5_scale_3 rfl (lv_at hl 1 rfl) ?_
  refine g_iadd X dX5_scale_4 ?_
  refine g_bipush X dX5_scale_5 (by decide) ?_
  refine g_imul X dX5_scale_7 ?_
  obtain ⟨v4, ev4, hf⟩ := lt_some hf
  have hv4 : inR v4 := inR_of ev4 (inR_wrap _)
  refine g_ist (v := v4) (lv' := [(4, .int (i2 v4)), (0, .ref (ad 17)), (1, .int (i2 p1)), (2, .int (i2 p2)), (3, .int (i2 p3))]) X ev4 dX5_scale_8 hl (by decide) rfl (fun ls hl => ?_)
  refine lv_aload_n hx hb dX5_scale_10 rfl (lv_at hl 1 rfl) ?_
  refine g_getr X w fg_X5_27 KD_17 FR_17_6 dX5_scale_11 ?_
  refine lv_iload hx hb dX5_scale_14 (lv_at hl 0 rfl) ?_
  refine lv_iload_n hx hb dX5_scale_16 rfl (lv_at hl 3 rfl) ?_
  refine g_iadd X dX5_scale_17 ?_
  obtain ⟨hg, hf⟩ := gd_some hf
  refine g_iald X w KD_23 (inR_wrap _) hg dX5_scale_18 ?_
  obtain ⟨v5, ev5, hf⟩ := lt_some hf
  have hv5 : inR v5 := inR_of ev5 (w.2.2 _ _)
  refine g_ist (v := v5) (lv' := [(5, .int (i2 v5)), (4, .int (i2 v4)), (0, .ref (ad 17)), (1, .int (i2 p1)), (2, .int (i2 p2)), (3, .int (i2 p3))]) X ev5 dX5_scale_19 hl (by decide) rfl (fun ls hl => ?_)
  refine lv_iload hx hb dX5_scale_21 (lv_at hl 0 rfl) ?_
  refine g_iconst X dX5_scale_23 ?_
  refine g_icmp_ne (tgt := 29) X hv5 (inL rfl) dX5_scale_24 (by decide) (fun cd => ?_) (fun cd => ?_)
  · replace hf := ite_f cd hf
    refine g_iconst X dX5_scale_29 ?_
    refine g_ist (v := 0) (lv' := [(6, .int (i2 0)), (5, .int (i2 v5)), (4, .int (i2 v4)), (0, .ref (ad 17)), (1, .int (i2 p1)), (2, .int (i2 p2)), (3, .int (i2 p3))]) X rfl dX5_scale_30 hl (by decide) rfl (fun ls hl => ?_)
    refine g_iconst X dX5_scale_32 ?_
    refine g_ist (v := 0) (lv' := [(7, .int (i2 0)), (6, .int (i2 0)), (5, .int (i2 v5)), (4, .int (i2 v4)), (0, .ref (ad 17)), (1, .int (i2 p1)), (2, .int (i2 p2)), (3, .int (i2 p3))]) X rfl dX5_scale_33 hl (by decide) rfl (fun ls hl => ?_)
    refine g_iconst X dX5_scale_35 ?_
    refine g_ist (v := 0) (lv' := [(8, .int (i2 0)), (7, .int (i2 0)), (6, .int (i2 0)), (5, .int (i2 v5)), (4, .int (i2 v4)), (0, .ref (ad 17)), (1, .int (i2 p1)), (2, .int (i2 p2)), (3, .int (i2 p3))]) X rfl dX5_scale_36 hl (by decide) rfl (fun ls hl => ?_)
    obtain ⟨q, hq, h1⟩ := obn_some hf
    exact l_X5_scale_38 X p2 hp2 v4 hv4 v5 hv5 (out := q) (fun y6 y7 y8 H locs ls eq hy6 hy7 hy8 hl w => b_X5_scale_j92 X  HR y6 hy6 y7 hy7 (by subst eq; exact h1) (lv_sub hl [4, 5] rfl) w)  FU 0 0 0 hq (inL rfl) (inL rfl) (inL rfl) (lv_sub hl [5, 7, 4, 3, 2, 1, 0] rfl) w
  · replace hf := ite_t cd hf
    refine g_iconst X dX5_scale_27 ?_
    exact HR (-1) _ _ _ _ (Option.some.inj hf).symm (inL rfl) w dX5_scale_28
set_option maxRecDepth 100000 in
set_option maxHeartbeats 4000000 in
theorem k_X5_scale {l : Launch} {D : va_G} {aC : Nat → ClassId} {ad : Nat → Nat} {sg : SG} (hi : Inj ad) (p1 : Int) (hp1 : inR p1) (p2 : Int) (hp2 : inR p2) (p3 : Int) (hp3 : inR p3) {M : Mem} (hM : inM M) {r : Int} (hf : f_X5_scale p1 p2 p3 M = some r) : MetI l D aC ad sg yX5_scale cX5_scale 9 (some .int) rm_X5_scale 0 0 [.ref (ad 17), .int (i2 p1), .int (i2 p2), .int (i2 p3)] M r M := by
  refine MetI.ofI (by decide +kernel) (nle rfl) hi hM (fun p e s m args below meth c Q H0 ls X hl w hret => ?_)
  exact b_X5_scale_0 X  (fun r1 H locs pc ls eo hP w dg => by cases eo; exact hret H locs pc ls hP w dg) p1 hp1 p2 hp2 p3 hp3 hf hl w
set_option maxRecDepth 100000 in
set_option maxHeartbeats 4000000 in
theorem b_X5_overall_s8 (X : CX p s m args c cX5_overall 7 RX5 D aC ad sg A H0) (v1 : Int) (hv1 : inR v1) (v2 : Int) (hv2 : inR v2) {M : Mem} {o : (Int × Int × Int) ⊕ (Int × Int × Int)} (HC : ∀ (y3 : Int) (y4 : Int) (y5 : Int) (H : Heap) (locs : List Loc) (ls : Array Slot), o = .inl (y3, y4, y5) → inR y3 → inR y4 → inR y5 → lv_has ls 7 [(0, .ref (ad 17)), (1, .int (i2 v1)), (2, .int (i2 v2)), (3, .int (i2 y3)), (4, .int (i2 y4)), (5, .int (i2 y5))] → WS D aC ad A H0 M H locs → W p l e rm_X5_overall s m args below meth c H locs 0 0 Q (F0 m 8 ls [])) (HE : ∀ (y3 : Int) (y4 : Int) (y5 : Int) (H : Heap) (locs : List Loc) (ls : Array Slot), o = .inr (y3, y4, y5) → inR y3 → inR y4 → inR y5 → lv_has ls 7 [(0, .ref (ad 17)), (1, .int (i2 v1)), (2, .int (i2 v2)), (3, .int (i2 y3)), (4, .int (i2 y4)), (5, .int (i2 y5))] → WS D aC ad A H0 M H locs → W p l e rm_X5_overall s m args below meth c H locs 0 0 Q (F0 m 44 ls [])) (v3 : Int) (hv3 : inR v3) (v4 : Int) (hv4 : inR v4) (v5 : Int) (hv5 : inR v5) (hf : f_X5_overall_s8 v1 v2 M v3 v4 v5 = some o) {H : Heap} {locs : List Loc} {ls : Array Slot} (hl : lv_has ls 7 [(0, .ref (ad 17)), (1, .int (i2 v1)), (2, .int (i2 v2)), (3, .int (i2 v3)), (4, .int (i2 v4)), (5, .int (i2 v5))]) (w : WS D aC ad A H0 M H locs) : W p l e rm_X5_overall s m args below meth c H locs 0 0 Q (F0 m 8 ls []) := by
  have hx := X.1.1
  have hb := X.1.2.1
  unfold f_X5_overall_s8 at hf
  refine lv_iload hx hb dX5_overall_8 (lv_at hl 5 rfl) ?_
  refine g_iconst X dX5_overall_10 ?_
  refine g_icmp_ge (tgt := 44) X hv5 (inL rfl) dX5_overall_11 (by decide) (fun cd => ?_) (fun cd => ?_)
  · replace hf := ite_t cd hf
    exact HE v3 v4 v5 _ _ _ (Option.some.inj hf).symm hv3 hv4 hv5 hl w
  · replace hf := ite_f cd hf
    refine lv_aload_n hx hb dX5_overall_14 rfl (lv_at hl 0 rfl) ?_
    refine lv_iload hx hb dX5_overall_15 (lv_at hl 5 rfl) ?_
    refine lv_iload_n hx hb dX5_overall_17 rfl (lv_at hl 1 rfl) ?_
    refine lv_iload_n hx hb dX5_overall_18 rfl (lv_at hl 2 rfl) ?_
    obtain ⟨r, hc, hf⟩ := obn_some hf
    refine g_cvi (As := [.int (i2 v5), .int (i2 v1), .int (i2 v2)]) (rest := []) X w (k_X5_scale X.2.2.1 v5 hv5 v1 hv1 v2 hv2 w.2.2 hc) lk_X5_40 cl_5 KD_17 ⟨rfl, rfl⟩ ⟨nle rfl, nle rfl⟩ ⟨nle rfl, nle rfl⟩ hl.1 rfl (nle rfl) dX5_overall_19 (fun hr H locs w => ?_)
    refine g_ist (v := r) (lv' := [(6, .int (i2 r)), (0, .ref (ad 17)), (1, .int (i2 v1)), (2, .int (i2 v2)), (3, .int (i2 v3)), (4, .int (i2 v4)), (5, .int (i2 v5))]) X rfl dX5_overall_22 hl (by decide) rfl (fun ls hl => ?_)
    refine lv_iload hx hb dX5_overall_24 (lv_at hl 0 rfl) ?_
    refine g_iconst X dX5_overall_26 ?_
    refine g_icmp_eq (tgt := 38) X hr (inL rfl) dX5_overall_27 (by decide) (fun cd_2 => ?_) (fun cd_2 => ?_)
    · replace hf := ite_t cd_2 hf
      obtain ⟨v5_2, ev5_2, hf⟩ := lt_some hf
      have hv5_2 : inR v5_2 := inR_of ev5_2 (inR_wrap _)
      refine lv_iinc (v := i2 v5_2) (lv' := [(5, .int (i2 v5_2)), (6, .int (i2 r)), (0, .ref (ad 17)), (1, .int (i2 v1)), (2, .int (i2 v2)), (3, .int (i2 v3)), (4, .int (i2 v4))]) hx hb dX5_overall_38 hl (k := 6) rfl (by rw [ev5_2]; exact i2_add _ _) (by decide) rfl (fun ls hl => ?_)
      refine lv_goto (tgt := 8) hx hb dX5_overall_41 (by decide) ?_
      exact HC v3 v4 v5_2 _ _ _ (Option.some.inj hf).symm hv3 hv4 hv5_2 (lv_sub hl [2, 3, 4, 5, 6, 0] rfl) w
    · replace hf := ite_f cd_2 hf
      refine lv_iload_n hx hb dX5_overall_30 rfl (lv_at hl 4 rfl) ?_
      refine lv_iload hx hb dX5_overall_31 (lv_at hl 0 rfl) ?_
      refine g_iadd X dX5_overall_33 ?_
      obtain ⟨v3_2, ev3_2, hf⟩ := lt_some hf
      have hv3_2 : inR v3_2 := inR_of ev3_2 (inR_wrap _)
      refine g_istn (v := v3_2) (lv' := [(3, .int (i2 v3_2)), (6, .int (i2 r)), (0, .ref (ad 17)), (1, .int (i2 v1)), (2, .int (i2 v2)), (4, .int (i2 v4)), (5, .int (i2 v5))]) X ev3_2 dX5_overall_34 rfl hl (by decide) rfl (fun ls hl => ?_)
      obtain ⟨v4_2, ev4_2, hf⟩ := lt_some hf
      have hv4_2 : inR v4_2 := inR_of ev4_2 (inR_wrap _)
      refine lv_iinc (v := i2 v4_2) (lv' := [(4, .int (i2 v4_2)), (3, .int (i2 v3_2)), (6, .int (i2 r)), (0, .ref (ad 17)), (1, .int (i2 v1)), (2, .int (i2 v2)), (5, .int (i2 v5))]) hx hb dX5_overall_35 hl (k := 5) rfl (by rw [ev4_2]; exact i2_add _ _) (by decide) rfl (fun ls hl => ?_)
      obtain ⟨v5_3, ev5_3, hf⟩ := lt_some hf
      have hv5_3 : inR v5_3 := inR_of ev5_3 (inR_wrap _)
      refine lv_iinc (v := i2 v5_3) (lv' := [(5, .int (i2 v5_3)), (4, .int (i2 v4_2)), (3, .int (i2 v3_2)), (6, .int (i2 r)), (0, .ref (ad 17)), (1, .int (i2 v1)), (2, .int (i2 v2))]) hx hb dX5_overall_38 hl (k := 6) rfl (by rw [ev5_3]; exact i2_add _ _) (by decide) rfl (fun ls hl => ?_)
      refine lv_goto (tgt := 8) hx hb dX5_overall_41 (by decide) ?_
      exact HC v3_2 v4_2 v5_3 _ _ _ (Option.some.inj hf).symm hv3_2 hv4_2 hv5_3 (lv_sub hl [4, 5, 6, 2, 1, 0] rfl) w
set_option maxRecDepth 100000 in
set_option maxHeartbeats 4000000 in
theorem l_X5_overall_8 (X : CX p s m args c cX5_overall 7 RX5 D aC ad sg A H0) (v1 : Int) (hv1 : inR v1) (v2 : Int) (hv2 : inR v2) {M : Mem} {out : Int × Int × Int} (HE : ∀ (y3 : Int) (y4 : Int) (y5 : Int) (H : Heap) (locs : List Loc) (ls : Array Slot), out = (y3, y4, y5) → inR y3 → inR y4 → inR y5 → lv_has ls 7 [(0, .ref (ad 17)), (1, .int (i2 v1)), (2, .int (i2 v2)), (3, .int (i2 y3)), (4, .int (i2 y4)), (5, .int (i2 y5))] → WS D aC ad A H0 M H locs → W p l e rm_X5_overall s m args below meth c H locs 0 0 Q (F0 m 44 ls [])) : ∀ (n : Nat) (v3 : Int) (v4 : Int) (v5 : Int), whl (fun s => f_X5_overall_s8 v1 v2 M s.1 s.2.1 s.2.2) n (v3, v4, v5) = some out → inR v3 → inR v4 → inR v5 → ∀ {H : Heap} {locs : List Loc} {ls : Array Slot}, lv_has ls 7 [(0, .ref (ad 17)), (1, .int (i2 v1)), (2, .int (i2 v2)), (3, .int (i2 v3)), (4, .int (i2 v4)), (5, .int (i2 v5))] → WS D aC ad A H0 M H locs → W p l e rm_X5_overall s m args below meth c H locs 0 0 Q (F0 m 8 ls []) := by
  intro n
  induction n with
  | zero => intro v3 v4 v5 hf; exact (whl_zero hf).elim
  | succ n ih =>
    intro v3 v4 v5 hf hv3 hv4 hv5 H locs ls hl w
    obtain ⟨o, hf, hk1, hk2⟩ := whl_step hf
    exact b_X5_overall_s8 X v1 hv1 v2 hv2 (fun y3 y4 y5 H locs ls eo hy3 hy4 hy5 hl w => ih y3 y4 y5 (hk1 _ eo) hy3 hy4 hy5 hl w) (fun y3 y4 y5 H locs ls eo hy3 hy4 hy5 hl w => HE y3 y4 y5 H locs ls (hk2 _ eo).symm hy3 hy4 hy5 hl w) v3 hv3 v4 hv4 v5 hv5 hf hl w
set_option maxRecDepth 100000 in
set_option maxHeartbeats 4000000 in
theorem b_X5_overall_j44 (X : CX p s m args c cX5_overall 7 RX5 D aC ad sg A H0) {M : Mem} {o : Int} (HR : ∀ (r : Int) (H : Heap) (locs : List Loc) (pc : Nat) (ls : Array Slot), o = r → inR r → WS D aC ad A H0 M H locs → decode cX5_overall pc = .ok (.ireturn, 1) → W p l e rm_X5_overall s m args below meth c H locs 0 0 Q (F0 m pc ls [.int (i2 r)])) (v3 : Int) (hv3 : inR v3) (v4 : Int) (hv4 : inR v4) (hf : f_X5_overall_j44 v3 v4 M = some o) {H : Heap} {locs : List Loc} {ls : Array Slot} (hl : lv_has ls 7 [(3, .int (i2 v3)), (4, .int (i2 v4))]) (w : WS D aC ad A H0 M H locs) : W p l e rm_X5_overall s m args below meth c H locs 0 0 Q (F0 m 44 ls []) := by
  have hx := X.1.1
  have hb := X.1.2.1
  unfold f_X5_overall_j44 at hf
  refine lv_iload hx hb dX5_overall_44 (lv_at hl 1 rfl) ?_
  refine g_if_ne (tgt := 53) X hv4 dX5_overall_46 (by decide) (fun cd => ?_) (fun cd => ?_)
  · replace hf := ite_f cd hf
    refine lv_iload_n hx hb dX5_overall_53 rfl (lv_at hl 0 rfl) ?_
    refine lv_iload hx hb dX5_overall_54 (lv_at hl 1 rfl) ?_
    obtain ⟨hg, hf⟩ := gd_some hf
    refine g_idiv X hv4 hg dX5_overall_56 ?_
    exact HR (jdiv v3 v4) _ _ _ _ (Option.some.inj hf).symm (inR_toInt _) w dX5_overall_57
  · replace hf := ite_t cd hf
    refine g_iconst X dX5_overall_49 ?_
    refine lv_goto (tgt := 57) hx hb dX5_overall_50 (by decide) ?_
    exact HR (-1) _ _ _ _ (Option.some.inj hf).symm (inL rfl) w dX5_overall_57
set_option maxRecDepth 100000 in
set_option maxHeartbeats 4000000 in
theorem b_X5_overall_0 (X : CX p s m args c cX5_overall 7 RX5 D aC ad sg A H0) {M : Mem} {o : Int} (HR : ∀ (r : Int) (H : Heap) (locs : List Loc) (pc : Nat) (ls : Array Slot), o = r → inR r → WS D aC ad A H0 M H locs → decode cX5_overall pc = .ok (.ireturn, 1) → W p l e rm_X5_overall s m args below meth c H locs 0 0 Q (F0 m pc ls [.int (i2 r)])) (p1 : Int) (hp1 : inR p1) (p2 : Int) (hp2 : inR p2) (hf : f_X5_overall p1 p2 M = some o) {H : Heap} {locs : List Loc} {ls : Array Slot} (hl : lv_has ls 7 [(0, .ref (ad 17)), (1, .int (i2 p1)), (2, .int (i2 p2))]) (w : WS D aC ad A H0 M H locs) : W p l e rm_X5_overall s m args below meth c H locs 0 0 Q (F0 m 0 ls []) := by
  have hx := X.1.1
  have hb := X.1.2.1
  unfold f_X5_overall at hf
  refine g_iconst X dX5_overall_0 ?_
  refine g_istn (v := 0) (lv' := [(3, .int (i2 0)), (0, .ref (ad 17)), (1, .int (i2 p1)), (2, .int (i2 p2))]) X rfl dX5_overall_1 rfl hl (by decide) rfl (fun ls hl => ?_)
  refine g_iconst X dX5_overall_2 ?_
  refine g_ist (v := 0) (lv' := [(4, .int (i2 0)), (3, .int (i2 0)), (0, .ref (ad 17)), (1, .int (i2 p1)), (2, .int (i2 p2))]) X rfl dX5_overall_3 hl (by decide) rfl (fun ls hl => ?_)
  refine g_iconst X dX5_overall_5 ?_
  refine g_ist (v := 0) (lv' := [(5, .int (i2 0)), (4, .int (i2 0)), (3, .int (i2 0)), (0, .ref (ad 17)), (1, .int (i2 p1)), (2, .int (i2 p2))]) X rfl dX5_overall_6 hl (by decide) rfl (fun ls hl => ?_)
  obtain ⟨q, hq, h1⟩ := obn_some hf
  exact l_X5_overall_8 X p1 hp1 p2 hp2 (out := q) (fun y3 y4 y5 H locs ls eq hy3 hy4 hy5 hl w => b_X5_overall_j44 X  HR y3 hy3 y4 hy4 (by subst eq; exact h1) (lv_sub hl [3, 4] rfl) w)  FU 0 0 0 hq (inL rfl) (inL rfl) (inL rfl) (lv_sub hl [3, 4, 5, 2, 1, 0] rfl) w
set_option maxRecDepth 100000 in
set_option maxHeartbeats 4000000 in
theorem k_X5_overall {l : Launch} {D : va_G} {aC : Nat → ClassId} {ad : Nat → Nat} {sg : SG} (hi : Inj ad) (p1 : Int) (hp1 : inR p1) (p2 : Int) (hp2 : inR p2) {M : Mem} (hM : inM M) {r : Int} (hf : f_X5_overall p1 p2 M = some r) : MetI l D aC ad sg yX5_overall cX5_overall 7 (some .int) rm_X5_overall 0 0 [.ref (ad 17), .int (i2 p1), .int (i2 p2)] M r M := by
  refine MetI.ofI (by decide +kernel) (nle rfl) hi hM (fun p e s m args below meth c Q H0 ls X hl w hret => ?_)
  exact b_X5_overall_0 X  (fun r1 H locs pc ls eo hP w dg => by cases eo; exact hret H locs pc ls hP w dg) p1 hp1 p2 hp2 hf hl w
set_option maxRecDepth 100000 in
set_option maxHeartbeats 4000000 in
theorem b_X5_level_0 (X : CX p s m args c cX5_level 4 RX5 D aC ad sg A H0) {M : Mem} {o : Int} (HR : ∀ (r : Int) (H : Heap) (locs : List Loc) (pc : Nat) (ls : Array Slot), o = r → inR r → WS D aC ad A H0 M H locs → decode cX5_level pc = .ok (.ireturn, 1) → W p l e rm_X5_level s m args below meth c H locs 0 0 Q (F0 m pc ls [.int (i2 r)])) (p1 : Int) (hp1 : inR p1) (p2 : Int) (hp2 : inR p2) (hf : f_X5_level p1 p2 M = some o) {H : Heap} {locs : List Loc} {ls : Array Slot} (hl : lv_has ls 4 [(0, .ref (ad 17)), (1, .int (i2 p1)), (2, .int (i2 p2))]) (w : WS D aC ad A H0 M H locs) : W p l e rm_X5_level s m args below meth c H locs 0 0 Q (F0 m 0 ls []) := by
  have hx := X.1.1
  have hb := X.1.2.1
  unfold f_X5_level at hf
  refine lv_aload_n hx hb dX5_level_0 rfl (lv_at hl 0 rfl) ?_
  refine lv_iload_n hx hb dX5_level_1 rfl (lv_at hl 1 rfl) ?_
  refine lv_iload_n hx hb dX5_level_2 rfl (lv_at hl 2 rfl) ?_
  obtain ⟨r, hc, hf⟩ := obn_some hf
  refine g_cvi (As := [.int (i2 p1), .int (i2 p2)]) (rest := []) X w (k_X5_overall X.2.2.1 p1 hp1 p2 hp2 w.2.2 hc) lk_X5_44 cl_5 KD_17 ⟨rfl, rfl⟩ ⟨nle rfl, nle rfl⟩ ⟨nle rfl, nle rfl⟩ hl.1 rfl (nle rfl) dX5_level_3 (fun hr H locs w => ?_)
  refine g_istn (v := r) (lv' := [(3, .int (i2 r)), (0, .ref (ad 17)), (1, .int (i2 p1)), (2, .int (i2 p2))]) X rfl dX5_level_6 rfl hl (by decide) rfl (fun ls hl => ?_)
  refine lv_iload_n hx hb dX5_level_7 rfl (lv_at hl 0 rfl) ?_
  refine g_iconst X dX5_level_8 ?_
  refine g_icmp_ne (tgt := 16) X hr (inL rfl) dX5_level_9 (by decide) (fun cd => ?_) (fun cd => ?_)
  · replace hf := ite_f cd hf
    refine lv_iload_n hx hb dX5_level_16 rfl (lv_at hl 0 rfl) ?_
    exact HR r _ _ _ _ (Option.some.inj hf).symm hr w dX5_level_17
  · replace hf := ite_t cd hf
    refine g_iconst X dX5_level_12 ?_
    refine lv_goto (tgt := 17) hx hb dX5_level_13 (by decide) ?_
    exact HR 5 _ _ _ _ (Option.some.inj hf).symm (inL rfl) w dX5_level_17
set_option maxRecDepth 100000 in
set_option maxHeartbeats 4000000 in
theorem k_X5_level {l : Launch} {D : va_G} {aC : Nat → ClassId} {ad : Nat → Nat} {sg : SG} (hi : Inj ad) (p1 : Int) (hp1 : inR p1) (p2 : Int) (hp2 : inR p2) {M : Mem} (hM : inM M) {r : Int} (hf : f_X5_level p1 p2 M = some r) : MetI l D aC ad sg yX5_level cX5_level 4 (some .int) rm_X5_level 0 0 [.ref (ad 17), .int (i2 p1), .int (i2 p2)] M r M := by
  refine MetI.ofI (by decide +kernel) (nle rfl) hi hM (fun p e s m args below meth c Q H0 ls X hl w hret => ?_)
  exact b_X5_level_0 X  (fun r1 H locs pc ls eo hP w dg => by cases eo; exact hret H locs pc ls hP w dg) p1 hp1 p2 hp2 hf hl w
set_option maxRecDepth 100000 in
set_option maxHeartbeats 4000000 in
theorem b_X5_add_0 (X : CX p s m args c cX5_add 6 RX5 D aC ad sg A H0) {o : Int × Mem} (HR : ∀ (r : Int) (M1 : Mem) (H : Heap) (locs : List Loc) (pc : Nat) (ls : Array Slot), o = (r, M1) → isZ r → WS D aC ad A H0 M1 H locs → decode cX5_add pc = .ok (.ireturn, 1) → W p l e rm_X5_add s m args below meth c H locs 0 0 Q (F0 m pc ls [.int (i2 r)])) (p1 : Int) (hp1 : inR p1) (p2 : Int) (hp2 : inR p2) (p3 : Int) (hp3 : inR p3) (p4 : Int) (hp4 : inR p4) (p5 : Int) (hp5 : inR p5) (M : Mem) (hf : f_X5_add p1 p2 p3 p4 p5 M = some o) {H : Heap} {locs : List Loc} {ls : Array Slot} (hl : lv_has ls 6 [(0, .ref (ad 17)), (1, .int (i2 p1)), (2, .int (i2 p2)), (3, .int (i2 p3)), (4, .int (i2 p4)), (5, .int (i2 p5))]) (w : WS D aC ad A H0 M H locs) : W p l e rm_X5_add s m args below meth c H locs 0 0 Q (F0 m 0 ls []) := by
  have hx := X.1.1
  have hb := X.1.2.1
  unfold f_X5_add at hf
  refine lv_aload_n hx hb dX5_add_0 rfl (lv_at hl 0 rfl) ?_
  refine g_geti X w fg_X5_30 KD_17 FR_17_0 dX5_add_1 ?_
  refine g_sipush X dX5_add_4 (by decide) ?_
  refine g_icmp_lt (tgt := 12) X (w.2.2 _ _) (inL rfl) dX5_add_7 (by decide) (fun cd => ?_) (fun cd => ?_)
  · replace hf := ite_t cd hf
    refine lv_aload_n hx hb dX5_add_12 rfl (lv_at hl 0 rfl) ?_
    refine g_getr X w fg_X5_11 KD_17 FR_17_1 dX5_add_13 ?_
    refine lv_aload_n hx hb dX5_add_16 rfl (lv_at hl 0 rfl) ?_
    refine g_geti X w fg_X5_30 KD_17 FR_17_0 dX5_add_17 ?_
    refine lv_iload_n hx hb dX5_add_20 rfl (lv_at hl 1 rfl) ?_
    obtain ⟨hg, hf⟩ := gd_some hf
    obtain ⟨M_2, eM_2, hf⟩ := lt_some hf
    refine g_iast X w KD_18 (w.2.2 _ _) hg hp1 dX5_add_21 (fun H locs w_M_2 => ?_)
    rw [← eM_2] at w_M_2
    refine lv_aload_n hx hb dX5_add_22 rfl (lv_at hl 0 rfl) ?_
    refine g_getr X w_M_2 fg_X5_15 KD_17 FR_17_2 dX5_add_23 ?_
    refine lv_aload_n hx hb dX5_add_26 rfl (lv_at hl 0 rfl) ?_
    refine g_geti X w_M_2 fg_X5_30 KD_17 FR_17_0 dX5_add_27 ?_
    refine lv_iload_n hx hb dX5_add_30 rfl (lv_at hl 2 rfl) ?_
    obtain ⟨hg_2, hf⟩ := gd_some hf
    obtain ⟨M_3, eM_3, hf⟩ := lt_some hf
    refine g_iast X w_M_2 KD_19 (w_M_2.2.2 _ _) hg_2 hp2 dX5_add_31 (fun H locs w_M_3 => ?_)
    rw [← eM_3] at w_M_3
    refine lv_aload_n hx hb dX5_add_32 rfl (lv_at hl 0 rfl) ?_
    refine g_getr X w_M_3 fg_X5_18 KD_17 FR_17_3 dX5_add_33 ?_
    refine lv_aload_n hx hb dX5_add_36 rfl (lv_at hl 0 rfl) ?_
    refine g_geti X w_M_3 fg_X5_30 KD_17 FR_17_0 dX5_add_37 ?_
    refine lv_iload_n hx hb dX5_add_40 rfl (lv_at hl 3 rfl) ?_
    obtain ⟨hg_3, hf⟩ := gd_some hf
    obtain ⟨M_4, eM_4, hf⟩ := lt_some hf
    refine g_iast X w_M_3 KD_20 (w_M_3.2.2 _ _) hg_3 hp3 dX5_add_41 (fun H locs w_M_4 => ?_)
    rw [← eM_4] at w_M_4
    refine lv_aload_n hx hb dX5_add_42 rfl (lv_at hl 0 rfl) ?_
    refine g_getr X w_M_4 fg_X5_21 KD_17 FR_17_4 dX5_add_43 ?_
    refine lv_aload_n hx hb dX5_add_46 rfl (lv_at hl 0 rfl) ?_
    refine g_geti X w_M_4 fg_X5_30 KD_17 FR_17_0 dX5_add_47 ?_
    refine lv_iload hx hb dX5_add_50 (lv_at hl 4 rfl) ?_
    obtain ⟨hg_4, hf⟩ := gd_some hf
    obtain ⟨M_5, eM_5, hf⟩ := lt_some hf
    refine g_iast X w_M_4 KD_21 (w_M_4.2.2 _ _) hg_4 hp4 dX5_add_52 (fun H locs w_M_5 => ?_)
    rw [← eM_5] at w_M_5
    refine lv_aload_n hx hb dX5_add_53 rfl (lv_at hl 0 rfl) ?_
    refine g_getr X w_M_5 fg_X5_24 KD_17 FR_17_5 dX5_add_54 ?_
    refine lv_aload_n hx hb dX5_add_57 rfl (lv_at hl 0 rfl) ?_
    refine g_geti X w_M_5 fg_X5_30 KD_17 FR_17_0 dX5_add_58 ?_
    refine lv_iload hx hb dX5_add_61 (lv_at hl 5 rfl) ?_
    obtain ⟨hg_5, hf⟩ := gd_some hf
    obtain ⟨M_6, eM_6, hf⟩ := lt_some hf
    refine g_iast X w_M_5 KD_22 (w_M_5.2.2 _ _) hg_5 hp5 dX5_add_63 (fun H locs w_M_6 => ?_)
    rw [← eM_6] at w_M_6
    refine lv_aload_n hx hb dX5_add_64 rfl (lv_at hl 0 rfl) ?_
    refine lv_dup hx hb dX5_add_65 rfl ?_
    refine g_geti X w_M_6 fg_X5_30 KD_17 FR_17_0 dX5_add_66 ?_
    refine g_iconst X dX5_add_69 ?_
    refine g_iadd X dX5_add_70 ?_
    obtain ⟨M_7, eM_7, hf⟩ := lt_some hf
    refine g_puti X w_M_6 fp_X5_30 KD_17 FR_17_0 (inR_wrap _) dX5_add_71 (fun H locs w_M_7 => ?_)
    rw [← eM_7] at w_M_7
    refine g_iconst X dX5_add_74 ?_
    exact HR 1 M_7 _ _ _ _ (Option.some.inj hf).symm (Or.inr rfl) w_M_7 dX5_add_75
  · replace hf := ite_f cd hf
    refine g_iconst X dX5_add_10 ?_
    exact HR 0 M _ _ _ _ (Option.some.inj hf).symm (Or.inl rfl) w dX5_add_11
set_option maxRecDepth 100000 in
set_option maxHeartbeats 4000000 in
theorem k_X5_add {l : Launch} {D : va_G} {aC : Nat → ClassId} {ad : Nat → Nat} {sg : SG} (hi : Inj ad) (p1 : Int) (hp1 : inR p1) (p2 : Int) (hp2 : inR p2) (p3 : Int) (hp3 : inR p3) (p4 : Int) (hp4 : inR p4) (p5 : Int) (hp5 : inR p5) {M : Mem} (hM : inM M) {r : Int} {M' : Mem} (hf : f_X5_add p1 p2 p3 p4 p5 M = some (r, M')) : MetI l D aC ad sg yX5_add cX5_add 6 (some .boolean) rm_X5_add 0 0 [.ref (ad 17), .int (i2 p1), .int (i2 p2), .int (i2 p3), .int (i2 p4), .int (i2 p5)] M r M' := by
  refine MetI.ofZ (by decide +kernel) (nle rfl) hi hM (fun p e s m args below meth c Q H0 ls X hl w hret => ?_)
  exact b_X5_add_0 X  (fun r1 M1 H locs pc ls eo hP w dg => by cases eo; exact hret H locs pc ls hP w dg) p1 hp1 p2 hp2 p3 hp3 p4 hp4 p5 hp5 M hf hl w
end
section
variable {p : Program} {l : Launch} {e : Env} {s : State} {m : MethodId} {args : Array Value} {below : List Frame} {meth : Method} {c : Code} {Q : State → Prop} {D : va_G} {aC : Nat → ClassId} {ad : Nat → Nat} {sg : SG} {A : Nat → Prop} {H0 : Heap}
set_option maxRecDepth 100000 in
set_option maxHeartbeats 4000000 in
theorem b_X7_twinsHow_s5 (X : CX p s m args c cX7_twinsHow 3 RX7 D aC ad sg A H0) (r0 : Int) (hr0 : isRu r0) {M : Mem} {o : (Int × Int) ⊕ (Int × Int)} (HC : ∀ (y1 : Int) (y2 : Int) (H : Heap) (locs : List Loc) (ls : Array Slot), o = .inl (y1, y2) → inR y1 → inR y2 → lv_has ls 3 [(0, .ref (ad r0.toNat)), (1, .int (i2 y1)), (2, .int (i2 y2))] → WS D aC ad A H0 M H locs → W p l e rm_X7_twinsHow s m args below meth c H locs 0 0 Q (F0 m 5 ls [])) (HE : ∀ (y1 : Int) (y2 : Int) (H : Heap) (locs : List Loc) (ls : Array Slot), o = .inr (y1, y2) → inR y1 → inR y2 → lv_has ls 3 [(0, .ref (ad r0.toNat)), (1, .int (i2 y1)), (2, .int (i2 y2))] → WS D aC ad A H0 M H locs → W p l e rm_X7_twinsHow s m args below meth c H locs 0 0 Q (F0 m 37 ls [])) (v1 : Int) (hv1 : inR v1) (v2 : Int) (hv2 : inR v2) (hf : f_X7_twinsHow_s5 r0 M v1 v2 = some o) {H : Heap} {locs : List Loc} {ls : Array Slot} (hl : lv_has ls 3 [(0, .ref (ad r0.toNat)), (1, .int (i2 v1)), (2, .int (i2 v2))]) (w : WS D aC ad A H0 M H locs) : W p l e rm_X7_twinsHow s m args below meth c H locs 0 0 Q (F0 m 5 ls []) := by
  have hx := X.1.1
  have hb := X.1.2.1
  unfold f_X7_twinsHow_s5 at hf
  refine lv_iload_n hx hb dX7_twinsHow_5 rfl (lv_at hl 2 rfl) ?_
  refine lv_aload_n hx hb dX7_twinsHow_6 rfl (lv_at hl 0 rfl) ?_
  refine g_geti X w fg_X7_37 (KD_ru hr0) (FR_ru_0 hr0) dX7_twinsHow_7 ?_
  refine g_icmp_ge (tgt := 37) X hv2 (w.2.2 _ _) dX7_twinsHow_10 (by decide) (fun cd => ?_) (fun cd => ?_)
  · replace hf := ite_t cd hf
    exact HE v1 v2 _ _ _ (Option.some.inj hf).symm hv1 hv2 hl w
  · replace hf := ite_f cd hf
    refine lv_aload_n hx hb dX7_twinsHow_13 rfl (lv_at hl 0 rfl) ?_
    refine g_getr X w fg_X7_11 (KD_ru hr0) (FR_ru_1 hr0) dX7_twinsHow_14 ?_
    refine lv_iload_n hx hb dX7_twinsHow_17 rfl (lv_at hl 2 rfl) ?_
    obtain ⟨hg, hf⟩ := gd_some hf
    refine g_iald X w (KD_ru_1 hr0) hv2 hg dX7_twinsHow_18 ?_
    refine g_bipush X dX7_twinsHow_19 (by decide) ?_
    refine g_icmp_ne (tgt := 31) X (w.2.2 _ _) (inL rfl) dX7_twinsHow_21 (by decide) (fun cd_2 => ?_) (fun cd_2 => ?_)
    · replace hf := ite_f cd_2 hf
      obtain ⟨v2_2, ev2_2, hf⟩ := lt_some hf
      have hv2_2 : inR v2_2 := inR_of ev2_2 (inR_wrap _)
      refine lv_iinc (v := i2 v2_2) (lv' := [(2, .int (i2 v2_2)), (0, .ref (ad r0.toNat)), (1, .int (i2 v1))]) hx hb dX7_twinsHow_31 hl (k := 2) rfl (by rw [ev2_2]; exact i2_add _ _) (by decide) rfl (fun ls hl => ?_)
      refine lv_goto (tgt := 5) hx hb dX7_twinsHow_34 (by decide) ?_
      exact HC v1 v2_2 _ _ _ (Option.some.inj hf).symm hv1 hv2_2 (lv_sub hl [1, 2, 0] rfl) w
    · replace hf := ite_t cd_2 hf
      refine lv_aload_n hx hb dX7_twinsHow_24 rfl (lv_at hl 0 rfl) ?_
      refine g_getr X w fg_X7_18 (KD_ru hr0) (FR_ru_3 hr0) dX7_twinsHow_25 ?_
      refine lv_iload_n hx hb dX7_twinsHow_28 rfl (lv_at hl 2 rfl) ?_
      obtain ⟨hg_2, hf⟩ := gd_some hf
      refine g_iald X w (KD_ru_3 hr0) hv2 hg_2 dX7_twinsHow_29 ?_
      obtain ⟨v1_2, ev1_2, hf⟩ := lt_some hf
      have hv1_2 : inR v1_2 := inR_of ev1_2 (w.2.2 _ _)
      refine g_istn (v := v1_2) (lv' := [(1, .int (i2 v1_2)), (0, .ref (ad r0.toNat)), (2, .int (i2 v2))]) X ev1_2 dX7_twinsHow_30 rfl hl (by decide) rfl (fun ls hl => ?_)
      obtain ⟨v2_3, ev2_3, hf⟩ := lt_some hf
      have hv2_3 : inR v2_3 := inR_of ev2_3 (inR_wrap _)
      refine lv_iinc (v := i2 v2_3) (lv' := [(2, .int (i2 v2_3)), (1, .int (i2 v1_2)), (0, .ref (ad r0.toNat))]) hx hb dX7_twinsHow_31 hl (k := 2) rfl (by rw [ev2_3]; exact i2_add _ _) (by decide) rfl (fun ls hl => ?_)
      refine lv_goto (tgt := 5) hx hb dX7_twinsHow_34 (by decide) ?_
      exact HC v1_2 v2_3 _ _ _ (Option.some.inj hf).symm hv1_2 hv2_3 (lv_sub hl [2, 1, 0] rfl) w
set_option maxRecDepth 100000 in
set_option maxHeartbeats 4000000 in
theorem l_X7_twinsHow_5 (X : CX p s m args c cX7_twinsHow 3 RX7 D aC ad sg A H0) (r0 : Int) (hr0 : isRu r0) {M : Mem} {out : Int × Int} (HE : ∀ (y1 : Int) (y2 : Int) (H : Heap) (locs : List Loc) (ls : Array Slot), out = (y1, y2) → inR y1 → inR y2 → lv_has ls 3 [(0, .ref (ad r0.toNat)), (1, .int (i2 y1)), (2, .int (i2 y2))] → WS D aC ad A H0 M H locs → W p l e rm_X7_twinsHow s m args below meth c H locs 0 0 Q (F0 m 37 ls [])) : ∀ (n : Nat) (v1 : Int) (v2 : Int), whl (fun s => f_X7_twinsHow_s5 r0 M s.1 s.2) n (v1, v2) = some out → inR v1 → inR v2 → ∀ {H : Heap} {locs : List Loc} {ls : Array Slot}, lv_has ls 3 [(0, .ref (ad r0.toNat)), (1, .int (i2 v1)), (2, .int (i2 v2))] → WS D aC ad A H0 M H locs → W p l e rm_X7_twinsHow s m args below meth c H locs 0 0 Q (F0 m 5 ls []) := by
  intro n
  induction n with
  | zero => intro v1 v2 hf; exact (whl_zero hf).elim
  | succ n ih =>
    intro v1 v2 hf hv1 hv2 H locs ls hl w
    obtain ⟨o, hf, hk1, hk2⟩ := whl_step hf
    exact b_X7_twinsHow_s5 X r0 hr0 (fun y1 y2 H locs ls eo hy1 hy2 hl w => ih y1 y2 (hk1 _ eo) hy1 hy2 hl w) (fun y1 y2 H locs ls eo hy1 hy2 hl w => HE y1 y2 H locs ls (hk2 _ eo).symm hy1 hy2 hl w) v1 hv1 v2 hv2 hf hl w
set_option maxRecDepth 100000 in
set_option maxHeartbeats 4000000 in
theorem b_X7_twinsHow_j37 (X : CX p s m args c cX7_twinsHow 3 RX7 D aC ad sg A H0) (r0 : Int) (hr0 : isRu r0) {M : Mem} {o : Int} (HR : ∀ (r : Int) (H : Heap) (locs : List Loc) (pc : Nat) (ls : Array Slot), o = r → inR r → WS D aC ad A H0 M H locs → decode cX7_twinsHow pc = .ok (.ireturn, 1) → W p l e rm_X7_twinsHow s m args below meth c H locs 0 0 Q (F0 m pc ls [.int (i2 r)])) (v1 : Int) (hv1 : inR v1) (hf : f_X7_twinsHow_j37 r0 v1 M = some o) {H : Heap} {locs : List Loc} {ls : Array Slot} (hl : lv_has ls 3 [(1, .int (i2 v1))]) (w : WS D aC ad A H0 M H locs) : W p l e rm_X7_twinsHow s m args below meth c H locs 0 0 Q (F0 m 37 ls []) := by
  have hx := X.1.1
  have hb := X.1.2.1
  unfold f_X7_twinsHow_j37 at hf
  refine lv_iload_n hx hb dX7_twinsHow_37 rfl (lv_at hl 0 rfl) ?_
  exact HR v1 _ _ _ _ (Option.some.inj hf).symm hv1 w dX7_twinsHow_38
set_option maxRecDepth 100000 in
set_option maxHeartbeats 4000000 in
theorem b_X7_twinsHow_0 (X : CX p s m args c cX7_twinsHow 3 RX7 D aC ad sg A H0) (r0 : Int) (hr0 : isRu r0) {M : Mem} {o : Int} (HR : ∀ (r : Int) (H : Heap) (locs : List Loc) (pc : Nat) (ls : Array Slot), o = r → inR r → WS D aC ad A H0 M H locs → decode cX7_twinsHow pc = .ok (.ireturn, 1) → W p l e rm_X7_twinsHow s m args below meth c H locs 0 0 Q (F0 m pc ls [.int (i2 r)])) (hf : f_X7_twinsHow r0 M = some o) {H : Heap} {locs : List Loc} {ls : Array Slot} (hl : lv_has ls 3 [(0, .ref (ad r0.toNat))]) (w : WS D aC ad A H0 M H locs) : W p l e rm_X7_twinsHow s m args below meth c H locs 0 0 Q (F0 m 0 ls []) := by
  have hx := X.1.1
  have hb := X.1.2.1
  unfold f_X7_twinsHow at hf
  refine g_bipush X dX7_twinsHow_0 (by decide) ?_
  refine g_istn (v := 18) (lv' := [(1, .int (i2 18)), (0, .ref (ad r0.toNat))]) X rfl dX7_twinsHow_2 rfl hl (by decide) rfl (fun ls hl => ?_)
  refine g_iconst X dX7_twinsHow_3 ?_
  refine g_istn (v := 0) (lv' := [(2, .int (i2 0)), (1, .int (i2 18)), (0, .ref (ad r0.toNat))]) X rfl dX7_twinsHow_4 rfl hl (by decide) rfl (fun ls hl => ?_)
  obtain ⟨q, hq, h1⟩ := obn_some hf
  exact l_X7_twinsHow_5 X r0 hr0 (out := q) (fun y1 y2 H locs ls eq hy1 hy2 hl w => b_X7_twinsHow_j37 X r0 hr0 HR y1 hy1 (by subst eq; exact h1) (lv_sub hl [1] rfl) w)  FU 18 0 hq (inL rfl) (inL rfl) (lv_sub hl [2, 1, 0] rfl) w
set_option maxRecDepth 100000 in
set_option maxHeartbeats 4000000 in
theorem k_X7_twinsHow {l : Launch} {D : va_G} {aC : Nat → ClassId} {ad : Nat → Nat} {sg : SG} (hi : Inj ad) (r0 : Int) (hr0 : isRu r0) {M : Mem} (hM : inM M) {r : Int} (hf : f_X7_twinsHow r0 M = some r) : MetI l D aC ad sg yX7_twinsHow cX7_twinsHow 3 (some .int) rm_X7_twinsHow 0 0 [.ref (ad r0.toNat)] M r M := by
  refine MetI.ofI (by decide +kernel) (nle rfl) hi hM (fun p e s m args below meth c Q H0 ls X hl w hret => ?_)
  exact b_X7_twinsHow_0 X r0 hr0 (fun r1 H locs pc ls eo hP w dg => by cases eo; exact hret H locs pc ls hP w dg)  hf hl w
set_option maxRecDepth 100000 in
set_option maxHeartbeats 4000000 in
theorem b_X7_termsUse_s2 (X : CX p s m args c cX7_termsUse 4 RX7 D aC ad sg A H0) (r0 : Int) (hr0 : isRu r0) (v1 : Int) (hv1 : inR v1) (v2 : Int) (hv2 : inR v2) {M : Mem} {o : (Int) ⊕ ((Int) ⊕ (Int))} (HC : ∀ (y3 : Int) (H : Heap) (locs : List Loc) (ls : Array Slot), o = .inl y3 → inR y3 → lv_has ls 4 [(0, .ref (ad r0.toNat)), (1, .int (i2 v1)), (2, .int (i2 v2)), (3, .int (i2 y3))] → WS D aC ad A H0 M H locs → W p l e rm_X7_termsUse s m args below meth c H locs 0 0 Q (F0 m 2 ls [])) (HE : ∀ (y3 : Int) (H : Heap) (locs : List Loc) (ls : Array Slot), o = .inr (.inl y3) → inR y3 → lv_has ls 4 [(0, .ref (ad r0.toNat)), (1, .int (i2 v1)), (2, .int (i2 v2)), (3, .int (i2 y3))] → WS D aC ad A H0 M H locs → W p l e rm_X7_termsUse s m args below meth c H locs 0 0 Q (F0 m 34 ls [])) (HR : ∀ (r : Int) (H : Heap) (locs : List Loc) (pc : Nat) (ls : Array Slot), o = .inr (.inr r) → isZ r → WS D aC ad A H0 M H locs → decode cX7_termsUse pc = .ok (.ireturn, 1) → W p l e rm_X7_termsUse s m args below meth c H locs 0 0 Q (F0 m pc ls [.int (i2 r)])) (v3 : Int) (hv3 : inR v3) (hf : f_X7_termsUse_s2 r0 v1 v2 M v3 = some o) {H : Heap} {locs : List Loc} {ls : Array Slot} (hl : lv_has ls 4 [(0, .ref (ad r0.toNat)), (1, .int (i2 v1)), (2, .int (i2 v2)), (3, .int (i2 v3))]) (w : WS D aC ad A H0 M H locs) : W p l e rm_X7_termsUse s m args below meth c H locs 0 0 Q (F0 m 2 ls []) := by
  have hx := X.1.1
  have hb := X.1.2.1
  unfold f_X7_termsUse_s2 at hf
  refine lv_iload_n hx hb dX7_termsUse_2 rfl (lv_at hl 3 rfl) ?_
  refine lv_aload_n hx hb dX7_termsUse_3 rfl (lv_at hl 0 rfl) ?_
  refine g_getr X w fg_X7_21 (KD_ru hr0) (FR_ru_4 hr0) dX7_termsUse_4 ?_
  refine lv_iload_n hx hb dX7_termsUse_7 rfl (lv_at hl 1 rfl) ?_
  obtain ⟨hg, hf⟩ := gd_some hf
  refine g_iald X w (KD_ru_4 hr0) hv1 hg dX7_termsUse_8 ?_
  refine g_icmp_ge (tgt := 34) X hv3 (w.2.2 _ _) dX7_termsUse_9 (by decide) (fun cd => ?_) (fun cd => ?_)
  · replace hf := ite_t cd hf
    exact HE v3 _ _ _ (Option.some.inj hf).symm hv3 hl w
  · replace hf := ite_f cd hf
    refine lv_aload_n hx hb dX7_termsUse_12 rfl (lv_at hl 0 rfl) ?_
    refine g_getr X w fg_X7_28 (KD_ru hr0) (FR_ru_6 hr0) dX7_termsUse_13 ?_
    refine lv_iload_n hx hb dX7_termsUse_16 rfl (lv_at hl 1 rfl) ?_
    refine g_iconst X dX7_termsUse_17 ?_
    refine g_imul X dX7_termsUse_18 ?_
    refine lv_iload_n hx hb dX7_termsUse_19 rfl (lv_at hl 3 rfl) ?_
    refine g_iadd X dX7_termsUse_20 ?_
    obtain ⟨hg_2, hf⟩ := gd_some hf
    refine g_iald X w (KD_ru_6 hr0) (inR_wrap _) hg_2 dX7_termsUse_21 ?_
    refine lv_iload_n hx hb dX7_termsUse_22 rfl (lv_at hl 2 rfl) ?_
    refine g_icmp_ne (tgt := 28) X (w.2.2 _ _) hv2 dX7_termsUse_23 (by decide) (fun cd_2 => ?_) (fun cd_2 => ?_)
    · replace hf := ite_f cd_2 hf
      obtain ⟨v3_2, ev3_2, hf⟩ := lt_some hf
      have hv3_2 : inR v3_2 := inR_of ev3_2 (inR_wrap _)
      refine lv_iinc (v := i2 v3_2) (lv' := [(3, .int (i2 v3_2)), (0, .ref (ad r0.toNat)), (1, .int (i2 v1)), (2, .int (i2 v2))]) hx hb dX7_termsUse_28 hl (k := 3) rfl (by rw [ev3_2]; exact i2_add _ _) (by decide) rfl (fun ls hl => ?_)
      refine lv_goto (tgt := 2) hx hb dX7_termsUse_31 (by decide) ?_
      exact HC v3_2 _ _ _ (Option.some.inj hf).symm hv3_2 (lv_sub hl [1, 2, 3, 0] rfl) w
    · replace hf := ite_t cd_2 hf
      refine g_iconst X dX7_termsUse_26 ?_
      exact HR 1 _ _ _ _ (Option.some.inj hf).symm (Or.inr rfl) w dX7_termsUse_27
set_option maxRecDepth 100000 in
set_option maxHeartbeats 4000000 in
theorem l_X7_termsUse_2 (X : CX p s m args c cX7_termsUse 4 RX7 D aC ad sg A H0) (r0 : Int) (hr0 : isRu r0) (v1 : Int) (hv1 : inR v1) (v2 : Int) (hv2 : inR v2) {M : Mem} {out : (Int) ⊕ (Int)} (HE : ∀ (y3 : Int) (H : Heap) (locs : List Loc) (ls : Array Slot), out = .inl y3 → inR y3 → lv_has ls 4 [(0, .ref (ad r0.toNat)), (1, .int (i2 v1)), (2, .int (i2 v2)), (3, .int (i2 y3))] → WS D aC ad A H0 M H locs → W p l e rm_X7_termsUse s m args below meth c H locs 0 0 Q (F0 m 34 ls [])) (HR : ∀ (r : Int) (H : Heap) (locs : List Loc) (pc : Nat) (ls : Array Slot), out = .inr r → isZ r → WS D aC ad A H0 M H locs → decode cX7_termsUse pc = .ok (.ireturn, 1) → W p l e rm_X7_termsUse s m args below meth c H locs 0 0 Q (F0 m pc ls [.int (i2 r)])) : ∀ (n : Nat) (v3 : Int), whl (fun s => f_X7_termsUse_s2 r0 v1 v2 M s) n v3 = some out → inR v3 → ∀ {H : Heap} {locs : List Loc} {ls : Array Slot}, lv_has ls 4 [(0, .ref (ad r0.toNat)), (1, .int (i2 v1)), (2, .int (i2 v2)), (3, .int (i2 v3))] → WS D aC ad A H0 M H locs → W p l e rm_X7_termsUse s m args below meth c H locs 0 0 Q (F0 m 2 ls []) := by
  intro n
  induction n with
  | zero => intro v3 hf; exact (whl_zero hf).elim
  | succ n ih =>
    intro v3 hf hv3 H locs ls hl w
    obtain ⟨o, hf, hk1, hk2⟩ := whl_step hf
    exact b_X7_termsUse_s2 X r0 hr0 v1 hv1 v2 hv2 (fun y3 H locs ls eo hy3 hl w => ih y3 (hk1 _ eo) hy3 hl w) (fun y3 H locs ls eo hy3 hl w => HE y3 H locs ls (hk2 _ eo).symm hy3 hl w) (fun r H locs pc ls eo hP w dg => HR r H locs pc ls (hk2 _ eo).symm hP w dg) v3 hv3 hf hl w
set_option maxRecDepth 100000 in
set_option maxHeartbeats 4000000 in
theorem b_X7_termsUse_j34 (X : CX p s m args c cX7_termsUse 4 RX7 D aC ad sg A H0) (r0 : Int) (hr0 : isRu r0) {M : Mem} {o : Int} (HR : ∀ (r : Int) (H : Heap) (locs : List Loc) (pc : Nat) (ls : Array Slot), o = r → isZ r → WS D aC ad A H0 M H locs → decode cX7_termsUse pc = .ok (.ireturn, 1) → W p l e rm_X7_termsUse s m args below meth c H locs 0 0 Q (F0 m pc ls [.int (i2 r)])) (hf : f_X7_termsUse_j34 r0 M = some o) {H : Heap} {locs : List Loc} {ls : Array Slot} (hl : lv_has ls 4 []) (w : WS D aC ad A H0 M H locs) : W p l e rm_X7_termsUse s m args below meth c H locs 0 0 Q (F0 m 34 ls []) := by
  have hx := X.1.1
  have hb := X.1.2.1
  unfold f_X7_termsUse_j34 at hf
  refine g_iconst X dX7_termsUse_34 ?_
  exact HR 0 _ _ _ _ (Option.some.inj hf).symm (Or.inl rfl) w dX7_termsUse_35
set_option maxRecDepth 100000 in
set_option maxHeartbeats 4000000 in
theorem b_X7_termsUse_0 (X : CX p s m args c cX7_termsUse 4 RX7 D aC ad sg A H0) (r0 : Int) (hr0 : isRu r0) {M : Mem} {o : Int} (HR : ∀ (r : Int) (H : Heap) (locs : List Loc) (pc : Nat) (ls : Array Slot), o = r → isZ r → WS D aC ad A H0 M H locs → decode cX7_termsUse pc = .ok (.ireturn, 1) → W p l e rm_X7_termsUse s m args below meth c H locs 0 0 Q (F0 m pc ls [.int (i2 r)])) (p1 : Int) (hp1 : inR p1) (p2 : Int) (hp2 : inR p2) (hf : f_X7_termsUse r0 p1 p2 M = some o) {H : Heap} {locs : List Loc} {ls : Array Slot} (hl : lv_has ls 4 [(0, .ref (ad r0.toNat)), (1, .int (i2 p1)), (2, .int (i2 p2))]) (w : WS D aC ad A H0 M H locs) : W p l e rm_X7_termsUse s m args below meth c H locs 0 0 Q (F0 m 0 ls []) := by
  have hx := X.1.1
  have hb := X.1.2.1
  unfold f_X7_termsUse at hf
  refine g_iconst X dX7_termsUse_0 ?_
  refine g_istn (v := 0) (lv' := [(3, .int (i2 0)), (0, .ref (ad r0.toNat)), (1, .int (i2 p1)), (2, .int (i2 p2))]) X rfl dX7_termsUse_1 rfl hl (by decide) rfl (fun ls hl => ?_)
  obtain ⟨q, hq, h1, h2⟩ := lpr_some hf
  exact l_X7_termsUse_2 X r0 hr0 p1 hp1 p2 hp2 (out := q) (fun y3 H locs ls eq hy3 hl w => b_X7_termsUse_j34 X r0 hr0 HR  (h1 _ eq) (lv_sub hl [] rfl) w) (fun r H locs pc ls eq hP w dg => HR r H locs pc ls (Option.some.inj (h2 _ eq)).symm hP w dg) FU 0 hq (inL rfl) (lv_sub hl [1, 2, 3, 0] rfl) w
set_option maxRecDepth 100000 in
set_option maxHeartbeats 4000000 in
theorem k_X7_termsUse {l : Launch} {D : va_G} {aC : Nat → ClassId} {ad : Nat → Nat} {sg : SG} (hi : Inj ad) (r0 : Int) (hr0 : isRu r0) (p1 : Int) (hp1 : inR p1) (p2 : Int) (hp2 : inR p2) {M : Mem} (hM : inM M) {r : Int} (hf : f_X7_termsUse r0 p1 p2 M = some r) : MetI l D aC ad sg yX7_termsUse cX7_termsUse 4 (some .boolean) rm_X7_termsUse 0 0 [.ref (ad r0.toNat), .int (i2 p1), .int (i2 p2)] M r M := by
  refine MetI.ofZ (by decide +kernel) (nle rfl) hi hM (fun p e s m args below meth c Q H0 ls X hl w hret => ?_)
  exact b_X7_termsUse_0 X r0 hr0 (fun r1 H locs pc ls eo hP w dg => by cases eo; exact hret H locs pc ls hP w dg) p1 hp1 p2 hp2 hf hl w
set_option maxRecDepth 100000 in
set_option maxHeartbeats 4000000 in
theorem b_X7_uses_s2 (X : CX p s m args c cX7_uses 3 RX7 D aC ad sg A H0) (r0 : Int) (hr0 : isRu r0) (v1 : Int) (hv1 : inR v1) {M : Mem} {o : (Int) ⊕ ((Int) ⊕ (Int))} (HC : ∀ (y2 : Int) (H : Heap) (locs : List Loc) (ls : Array Slot), o = .inl y2 → inR y2 → lv_has ls 3 [(0, .ref (ad r0.toNat)), (1, .int (i2 v1)), (2, .int (i2 y2))] → WS D aC ad A H0 M H locs → W p l e rm_X7_uses s m args below meth c H locs 0 0 Q (F0 m 2 ls [])) (HE : ∀ (y2 : Int) (H : Heap) (locs : List Loc) (ls : Array Slot), o = .inr (.inl y2) → inR y2 → lv_has ls 3 [(0, .ref (ad r0.toNat)), (1, .int (i2 v1)), (2, .int (i2 y2))] → WS D aC ad A H0 M H locs → W p l e rm_X7_uses s m args below meth c H locs 0 0 Q (F0 m 63 ls [])) (HR : ∀ (r : Int) (H : Heap) (locs : List Loc) (pc : Nat) (ls : Array Slot), o = .inr (.inr r) → isZ r → WS D aC ad A H0 M H locs → decode cX7_uses pc = .ok (.ireturn, 1) → W p l e rm_X7_uses s m args below meth c H locs 0 0 Q (F0 m pc ls [.int (i2 r)])) (v2 : Int) (hv2 : inR v2) (hf : f_X7_uses_s2 r0 v1 M v2 = some o) {H : Heap} {locs : List Loc} {ls : Array Slot} (hl : lv_has ls 3 [(0, .ref (ad r0.toNat)), (1, .int (i2 v1)), (2, .int (i2 v2))]) (w : WS D aC ad A H0 M H locs) : W p l e rm_X7_uses s m args below meth c H locs 0 0 Q (F0 m 2 ls []) := by
  have hx := X.1.1
  have hb := X.1.2.1
  unfold f_X7_uses_s2 at hf
  refine lv_iload_n hx hb dX7_uses_2 rfl (lv_at hl 2 rfl) ?_
  refine lv_aload_n hx hb dX7_uses_3 rfl (lv_at hl 0 rfl) ?_
  refine g_geti X w fg_X7_37 (KD_ru hr0) (FR_ru_0 hr0) dX7_uses_4 ?_
  refine g_icmp_ge (tgt := 63) X hv2 (w.2.2 _ _) dX7_uses_7 (by decide) (fun cd => ?_) (fun cd => ?_)
  · replace hf := ite_t cd hf
    exact HE v2 _ _ _ (Option.some.inj hf).symm hv2 hl w
  · replace hf := ite_f cd hf
    refine lv_aload_n hx hb dX7_uses_10 rfl (lv_at hl 0 rfl) ?_
    refine g_getr X w fg_X7_11 (KD_ru hr0) (FR_ru_1 hr0) dX7_uses_11 ?_
    refine lv_iload_n hx hb dX7_uses_14 rfl (lv_at hl 2 rfl) ?_
    obtain ⟨hg, hf⟩ := gd_some hf
    refine g_iald X w (KD_ru_1 hr0) hv2 hg dX7_uses_15 ?_
    refine g_bipush X dX7_uses_16 (by decide) ?_
    refine g_icmp_ne (tgt := 31) X (w.2.2 _ _) (inL rfl) dX7_uses_18 (by decide) (fun cd_2 => ?_) (fun cd_2 => ?_)
    · replace hf := ite_f cd_2 hf
      refine lv_aload_n hx hb dX7_uses_31 rfl (lv_at hl 0 rfl) ?_
      refine g_iconst X dX7_uses_32 ?_
      refine lv_iload_n hx hb dX7_uses_33 rfl (lv_at hl 2 rfl) ?_
      refine g_imul X dX7_uses_34 ?_
      refine lv_iload_n hx hb dX7_uses_35 rfl (lv_at hl 1 rfl) ?_
      obtain ⟨r, hc, hf⟩ := obn_some hf
      refine g_cvi (As := [.int (i2 (wrap (2 * v2))), .int (i2 v1)]) (rest := []) X w (k_X7_termsUse X.2.2.1 r0 hr0 (wrap (2 * v2)) (inR_wrap _) v1 hv1 w.2.2 hc) lk_X7_47 cl_7 (KD_ru hr0) ⟨rfl, rfl⟩ ⟨nle rfl, nle rfl⟩ ⟨nle rfl, nle rfl⟩ hl.1 rfl (nle rfl) dX7_uses_36 (fun hr H locs w => ?_)
      refine g_if_ne (tgt := 55) X hr dX7_uses_39 (by decide) (fun cd_3 => ?_) (fun cd_3 => ?_)
      · replace hf := ite_f cd_3 hf
        refine g_iconst X dX7_uses_55 ?_
        exact HR 1 _ _ _ _ (Option.some.inj hf).symm (Or.inr rfl) w dX7_uses_56
      · replace hf := ite_t cd_3 hf
        refine lv_aload_n hx hb dX7_uses_42 rfl (lv_at hl 0 rfl) ?_
        refine g_iconst X dX7_uses_43 ?_
        refine lv_iload_n hx hb dX7_uses_44 rfl (lv_at hl 2 rfl) ?_
        refine g_imul X dX7_uses_45 ?_
        refine g_iconst X dX7_uses_46 ?_
        refine g_iadd X dX7_uses_47 ?_
        refine lv_iload_n hx hb dX7_uses_48 rfl (lv_at hl 1 rfl) ?_
        obtain ⟨r_2, hc, hf⟩ := obn_some hf
        refine g_cvi (As := [.int (i2 (wrap ((wrap (2 * v2)) + 1))), .int (i2 v1)]) (rest := []) X w (k_X7_termsUse X.2.2.1 r0 hr0 (wrap ((wrap (2 * v2)) + 1)) (inR_wrap _) v1 hv1 w.2.2 hc) lk_X7_47 cl_7 (KD_ru hr0) ⟨rfl, rfl⟩ ⟨nle rfl, nle rfl⟩ ⟨nle rfl, nle rfl⟩ hl.1 rfl (nle rfl) dX7_uses_49 (fun hr_2 H locs w => ?_)
        refine g_if_eq (tgt := 57) X hr_2 dX7_uses_52 (by decide) (fun cd_4 => ?_) (fun cd_4 => ?_)
        · replace hf := ite_t cd_4 hf
          obtain ⟨v2_2, ev2_2, hf⟩ := lt_some hf
          have hv2_2 : inR v2_2 := inR_of ev2_2 (inR_wrap _)
          refine lv_iinc (v := i2 v2_2) (lv' := [(2, .int (i2 v2_2)), (0, .ref (ad r0.toNat)), (1, .int (i2 v1))]) hx hb dX7_uses_57 hl (k := 2) rfl (by rw [ev2_2]; exact i2_add _ _) (by decide) rfl (fun ls hl => ?_)
          refine lv_goto (tgt := 2) hx hb dX7_uses_60 (by decide) ?_
          exact HC v2_2 _ _ _ (Option.some.inj hf).symm hv2_2 (lv_sub hl [1, 2, 0] rfl) w
        · replace hf := ite_f cd_4 hf
          refine g_iconst X dX7_uses_55 ?_
          exact HR 1 _ _ _ _ (Option.some.inj hf).symm (Or.inr rfl) w dX7_uses_56
    · replace hf := ite_t cd_2 hf
      refine lv_aload_n hx hb dX7_uses_21 rfl (lv_at hl 0 rfl) ?_
      refine g_getr X w fg_X7_18 (KD_ru hr0) (FR_ru_3 hr0) dX7_uses_22 ?_
      refine lv_iload_n hx hb dX7_uses_25 rfl (lv_at hl 2 rfl) ?_
      obtain ⟨hg_2, hf⟩ := gd_some hf
      refine g_iald X w (KD_ru_3 hr0) hv2 hg_2 dX7_uses_26 ?_
      refine lv_iload_n hx hb dX7_uses_27 rfl (lv_at hl 1 rfl) ?_
      refine g_icmp_eq (tgt := 55) X (w.2.2 _ _) hv1 dX7_uses_28 (by decide) (fun cd_5 => ?_) (fun cd_5 => ?_)
      · replace hf := ite_t cd_5 hf
        refine g_iconst X dX7_uses_55 ?_
        exact HR 1 _ _ _ _ (Option.some.inj hf).symm (Or.inr rfl) w dX7_uses_56
      · replace hf := ite_f cd_5 hf
        refine lv_aload_n hx hb dX7_uses_31 rfl (lv_at hl 0 rfl) ?_
        refine g_iconst X dX7_uses_32 ?_
        refine lv_iload_n hx hb dX7_uses_33 rfl (lv_at hl 2 rfl) ?_
        refine g_imul X dX7_uses_34 ?_
        refine lv_iload_n hx hb dX7_uses_35 rfl (lv_at hl 1 rfl) ?_
        obtain ⟨r_3, hc, hf⟩ := obn_some hf
        refine g_cvi (As := [.int (i2 (wrap (2 * v2))), .int (i2 v1)]) (rest := []) X w (k_X7_termsUse X.2.2.1 r0 hr0 (wrap (2 * v2)) (inR_wrap _) v1 hv1 w.2.2 hc) lk_X7_47 cl_7 (KD_ru hr0) ⟨rfl, rfl⟩ ⟨nle rfl, nle rfl⟩ ⟨nle rfl, nle rfl⟩ hl.1 rfl (nle rfl) dX7_uses_36 (fun hr_3 H locs w => ?_)
        refine g_if_ne (tgt := 55) X hr_3 dX7_uses_39 (by decide) (fun cd_6 => ?_) (fun cd_6 => ?_)
        · replace hf := ite_f cd_6 hf
          refine g_iconst X dX7_uses_55 ?_
          exact HR 1 _ _ _ _ (Option.some.inj hf).symm (Or.inr rfl) w dX7_uses_56
        · replace hf := ite_t cd_6 hf
          refine lv_aload_n hx hb dX7_uses_42 rfl (lv_at hl 0 rfl) ?_
          refine g_iconst X dX7_uses_43 ?_
          refine lv_iload_n hx hb dX7_uses_44 rfl (lv_at hl 2 rfl) ?_
          refine g_imul X dX7_uses_45 ?_
          refine g_iconst X dX7_uses_46 ?_
          refine g_iadd X dX7_uses_47 ?_
          refine lv_iload_n hx hb dX7_uses_48 rfl (lv_at hl 1 rfl) ?_
          obtain ⟨r_4, hc, hf⟩ := obn_some hf
          refine g_cvi (As := [.int (i2 (wrap ((wrap (2 * v2)) + 1))), .int (i2 v1)]) (rest := []) X w (k_X7_termsUse X.2.2.1 r0 hr0 (wrap ((wrap (2 * v2)) + 1)) (inR_wrap _) v1 hv1 w.2.2 hc) lk_X7_47 cl_7 (KD_ru hr0) ⟨rfl, rfl⟩ ⟨nle rfl, nle rfl⟩ ⟨nle rfl, nle rfl⟩ hl.1 rfl (nle rfl) dX7_uses_49 (fun hr_4 H locs w => ?_)
          refine g_if_eq (tgt := 57) X hr_4 dX7_uses_52 (by decide) (fun cd_7 => ?_) (fun cd_7 => ?_)
          · replace hf := ite_t cd_7 hf
            obtain ⟨v2_3, ev2_3, hf⟩ := lt_some hf
            have hv2_3 : inR v2_3 := inR_of ev2_3 (inR_wrap _)
            refine lv_iinc (v := i2 v2_3) (lv' := [(2, .int (i2 v2_3)), (0, .ref (ad r0.toNat)), (1, .int (i2 v1))]) hx hb dX7_uses_57 hl (k := 2) rfl (by rw [ev2_3]; exact i2_add _ _) (by decide) rfl (fun ls hl => ?_)
            refine lv_goto (tgt := 2) hx hb dX7_uses_60 (by decide) ?_
            exact HC v2_3 _ _ _ (Option.some.inj hf).symm hv2_3 (lv_sub hl [1, 2, 0] rfl) w
          · replace hf := ite_f cd_7 hf
            refine g_iconst X dX7_uses_55 ?_
            exact HR 1 _ _ _ _ (Option.some.inj hf).symm (Or.inr rfl) w dX7_uses_56
set_option maxRecDepth 100000 in
set_option maxHeartbeats 4000000 in
theorem l_X7_uses_2 (X : CX p s m args c cX7_uses 3 RX7 D aC ad sg A H0) (r0 : Int) (hr0 : isRu r0) (v1 : Int) (hv1 : inR v1) {M : Mem} {out : (Int) ⊕ (Int)} (HE : ∀ (y2 : Int) (H : Heap) (locs : List Loc) (ls : Array Slot), out = .inl y2 → inR y2 → lv_has ls 3 [(0, .ref (ad r0.toNat)), (1, .int (i2 v1)), (2, .int (i2 y2))] → WS D aC ad A H0 M H locs → W p l e rm_X7_uses s m args below meth c H locs 0 0 Q (F0 m 63 ls [])) (HR : ∀ (r : Int) (H : Heap) (locs : List Loc) (pc : Nat) (ls : Array Slot), out = .inr r → isZ r → WS D aC ad A H0 M H locs → decode cX7_uses pc = .ok (.ireturn, 1) → W p l e rm_X7_uses s m args below meth c H locs 0 0 Q (F0 m pc ls [.int (i2 r)])) : ∀ (n : Nat) (v2 : Int), whl (fun s => f_X7_uses_s2 r0 v1 M s) n v2 = some out → inR v2 → ∀ {H : Heap} {locs : List Loc} {ls : Array Slot}, lv_has ls 3 [(0, .ref (ad r0.toNat)), (1, .int (i2 v1)), (2, .int (i2 v2))] → WS D aC ad A H0 M H locs → W p l e rm_X7_uses s m args below meth c H locs 0 0 Q (F0 m 2 ls []) := by
  intro n
  induction n with
  | zero => intro v2 hf; exact (whl_zero hf).elim
  | succ n ih =>
    intro v2 hf hv2 H locs ls hl w
    obtain ⟨o, hf, hk1, hk2⟩ := whl_step hf
    exact b_X7_uses_s2 X r0 hr0 v1 hv1 (fun y2 H locs ls eo hy2 hl w => ih y2 (hk1 _ eo) hy2 hl w) (fun y2 H locs ls eo hy2 hl w => HE y2 H locs ls (hk2 _ eo).symm hy2 hl w) (fun r H locs pc ls eo hP w dg => HR r H locs pc ls (hk2 _ eo).symm hP w dg) v2 hv2 hf hl w
set_option maxRecDepth 100000 in
set_option maxHeartbeats 4000000 in
theorem b_X7_uses_j63 (X : CX p s m args c cX7_uses 3 RX7 D aC ad sg A H0) (r0 : Int) (hr0 : isRu r0) {M : Mem} {o : Int} (HR : ∀ (r : Int) (H : Heap) (locs : List Loc) (pc : Nat) (ls : Array Slot), o = r → isZ r → WS D aC ad A H0 M H locs → decode cX7_uses pc = .ok (.ireturn, 1) → W p l e rm_X7_uses s m args below meth c H locs 0 0 Q (F0 m pc ls [.int (i2 r)])) (hf : f_X7_uses_j63 r0 M = some o) {H : Heap} {locs : List Loc} {ls : Array Slot} (hl : lv_has ls 3 []) (w : WS D aC ad A H0 M H locs) : W p l e rm_X7_uses s m args below meth c H locs 0 0 Q (F0 m 63 ls []) := by
  have hx := X.1.1
  have hb := X.1.2.1
  unfold f_X7_uses_j63 at hf
  refine g_iconst X dX7_uses_63 ?_
  exact HR 0 _ _ _ _ (Option.some.inj hf).symm (Or.inl rfl) w dX7_uses_64
set_option maxRecDepth 100000 in
set_option maxHeartbeats 4000000 in
theorem b_X7_uses_0 (X : CX p s m args c cX7_uses 3 RX7 D aC ad sg A H0) (r0 : Int) (hr0 : isRu r0) {M : Mem} {o : Int} (HR : ∀ (r : Int) (H : Heap) (locs : List Loc) (pc : Nat) (ls : Array Slot), o = r → isZ r → WS D aC ad A H0 M H locs → decode cX7_uses pc = .ok (.ireturn, 1) → W p l e rm_X7_uses s m args below meth c H locs 0 0 Q (F0 m pc ls [.int (i2 r)])) (p1 : Int) (hp1 : inR p1) (hf : f_X7_uses r0 p1 M = some o) {H : Heap} {locs : List Loc} {ls : Array Slot} (hl : lv_has ls 3 [(0, .ref (ad r0.toNat)), (1, .int (i2 p1))]) (w : WS D aC ad A H0 M H locs) : W p l e rm_X7_uses s m args below meth c H locs 0 0 Q (F0 m 0 ls []) := by
  have hx := X.1.1
  have hb := X.1.2.1
  unfold f_X7_uses at hf
  refine g_iconst X dX7_uses_0 ?_
  refine g_istn (v := 0) (lv' := [(2, .int (i2 0)), (0, .ref (ad r0.toNat)), (1, .int (i2 p1))]) X rfl dX7_uses_1 rfl hl (by decide) rfl (fun ls hl => ?_)
  obtain ⟨q, hq, h1, h2⟩ := lpr_some hf
  exact l_X7_uses_2 X r0 hr0 p1 hp1 (out := q) (fun y2 H locs ls eq hy2 hl w => b_X7_uses_j63 X r0 hr0 HR  (h1 _ eq) (lv_sub hl [] rfl) w) (fun r H locs pc ls eq hP w dg => HR r H locs pc ls (Option.some.inj (h2 _ eq)).symm hP w dg) FU 0 hq (inL rfl) (lv_sub hl [1, 2, 0] rfl) w
set_option maxRecDepth 100000 in
set_option maxHeartbeats 4000000 in
theorem k_X7_uses {l : Launch} {D : va_G} {aC : Nat → ClassId} {ad : Nat → Nat} {sg : SG} (hi : Inj ad) (r0 : Int) (hr0 : isRu r0) (p1 : Int) (hp1 : inR p1) {M : Mem} (hM : inM M) {r : Int} (hf : f_X7_uses r0 p1 M = some r) : MetI l D aC ad sg yX7_uses cX7_uses 3 (some .boolean) rm_X7_uses 0 0 [.ref (ad r0.toNat), .int (i2 p1)] M r M := by
  refine MetI.ofZ (by decide +kernel) (nle rfl) hi hM (fun p e s m args below meth c Q H0 ls X hl w hret => ?_)
  exact b_X7_uses_0 X r0 hr0 (fun r1 H locs pc ls eo hP w dg => by cases eo; exact hret H locs pc ls hP w dg) p1 hp1 hf hl w
set_option maxRecDepth 100000 in
set_option maxHeartbeats 4000000 in
theorem b_X7_clear_0 (X : CX p s m args c cX7_clear 1 RX7 D aC ad sg A H0) (r0 : Int) (hr0 : isRu r0) {o : Mem} (HR : ∀ (M1 : Mem) (H : Heap) (locs : List Loc) (pc : Nat) (ls : Array Slot), o = M1 → WS D aC ad A H0 M1 H locs → decode cX7_clear pc = .ok (.return_, 1) → W p l e rm_X7_clear s m args below meth c H locs 0 0 Q (F0 m pc ls [])) (M : Mem) (hf : f_X7_clear r0 M = some o) {H : Heap} {locs : List Loc} {ls : Array Slot} (hl : lv_has ls 1 [(0, .ref (ad r0.toNat))]) (w : WS D aC ad A H0 M H locs) : W p l e rm_X7_clear s m args below meth c H locs 0 0 Q (F0 m 0 ls []) := by
  have hx := X.1.1
  have hb := X.1.2.1
  unfold f_X7_clear at hf
  refine lv_aload_n hx hb dX7_clear_0 rfl (lv_at hl 0 rfl) ?_
  refine g_iconst X dX7_clear_1 ?_
  obtain ⟨M_2, eM_2, hf⟩ := lt_some hf
  refine g_puti X w fp_X7_37 (KD_ru hr0) (FR_ru_0 hr0) (inL rfl) dX7_clear_2 (fun H locs w_M_2 => ?_)
  rw [← eM_2] at w_M_2
  refine lv_aload_n hx hb dX7_clear_5 rfl (lv_at hl 0 rfl) ?_
  refine g_getr X w_M_2 fg_X7_21 (KD_ru hr0) (FR_ru_4 hr0) dX7_clear_6 ?_
  refine g_iconst X dX7_clear_9 ?_
  obtain ⟨M_3, hc, hf⟩ := obn_some hf
  refine g_csv (As := [.ref (ad (r0.toNat + 4)), .int (i2 0)]) (rest := []) X w_M_2 (k_J7_fill_53178 X.2.2.1 (r0.toNat + 4) (KA_ru_4 hr0) 0 (inL rfl) w_M_2.2.2 hc) lk_X7_41 ⟨rfl, rfl⟩ ⟨nle rfl, nle rfl⟩ ⟨nle rfl, nle rfl⟩ hl.1 rfl (nle rfl) dX7_clear_10 (fun H locs w_M_3 => ?_)
  exact HR M_3 _ _ _ _ (Option.some.inj hf).symm w_M_3 dX7_clear_13
set_option maxRecDepth 100000 in
set_option maxHeartbeats 4000000 in
theorem k_X7_clear {l : Launch} {D : va_G} {aC : Nat → ClassId} {ad : Nat → Nat} {sg : SG} (hi : Inj ad) (r0 : Int) (hr0 : isRu r0) {M : Mem} (hM : inM M) {M' : Mem} (hf : f_X7_clear r0 M = some M') : MetV l D aC ad sg yX7_clear cX7_clear 1 rm_X7_clear 0 0 [.ref (ad r0.toNat)] M M' := by
  refine MetV.of (by decide +kernel) (nle rfl) hi hM (fun p e s m args below meth c Q H0 ls X hl w hret => ?_)
  exact b_X7_clear_0 X r0 hr0 (fun M1 H locs pc ls eo w dg => by cases eo; exact hret H locs pc ls w dg) M hf hl w
set_option maxRecDepth 100000 in
set_option maxHeartbeats 4000000 in
theorem b_X7_takesTerms_0 (X : CX p s m args c cX7_takesTerms 3 RX7 D aC ad sg A H0) (r0 : Int) (hr0 : isRu r0) {M : Mem} {o : Int} (HR : ∀ (r : Int) (H : Heap) (locs : List Loc) (pc : Nat) (ls : Array Slot), o = r → isZ r → WS D aC ad A H0 M H locs → decode cX7_takesTerms pc = .ok (.ireturn, 1) → W p l e rm_X7_takesTerms s m args below meth c H locs 0 0 Q (F0 m pc ls [.int (i2 r)])) (p1 : Int) (hp1 : inR p1) (p2 : Int) (hp2 : inR p2) (hf : f_X7_takesTerms r0 p1 p2 M = some o) {H : Heap} {locs : List Loc} {ls : Array Slot} (hl : lv_has ls 3 [(0, .ref (ad r0.toNat)), (1, .int (i2 p1)), (2, .int (i2 p2))]) (w : WS D aC ad A H0 M H locs) : W p l e rm_X7_takesTerms s m args below meth c H locs 0 0 Q (F0 m 0 ls []) := by
  have hx := X.1.1
  have hb := X.1.2.1
  unfold f_X7_takesTerms at hf
  refine lv_aload_n hx hb dX7_takesTerms_0 rfl (lv_at hl 0 rfl) ?_
  refine g_getr X w fg_X7_11 (KD_ru hr0) (FR_ru_1 hr0) dX7_takesTerms_1 ?_
  refine lv_iload_n hx hb dX7_takesTerms_4 rfl (lv_at hl 1 rfl) ?_
  obtain ⟨hg, hf⟩ := gd_some hf
  refine g_iald X w (KD_ru_1 hr0) hp1 hg dX7_takesTerms_5 ?_
  by_cases cd : (M (r0.toNat + 1) p1.toNat) < 8 ∨ 15 < (M (r0.toNat + 1) p1.toNat)
  · replace hf := ite_t cd hf
    refine g_tout (tgt := 64) X (w.2.2 _ _) cd dX7_takesTerms_6 (by decide) ?_
    refine g_iconst X dX7_takesTerms_64 ?_
    exact HR 0 _ _ _ _ (Option.some.inj hf).symm (Or.inl rfl) w dX7_takesTerms_65
  · replace hf := ite_f cd hf
    by_cases cd_2 : (M (r0.toNat + 1) p1.toNat) = 8
    · replace hf := ite_t cd_2 hf
      refine g_tin (tgt := 54) (k := 8) (off := 48) X cd_2 (w.2.2 _ _) (by decide) (by decide) (by rfl) dX7_takesTerms_6 (by decide) ?_
      refine lv_iload_n hx hb dX7_takesTerms_54 rfl (lv_at hl 2 rfl) ?_
      refine g_if_ne (tgt := 62) X hp2 dX7_takesTerms_55 (by decide) (fun cd_3 => ?_) (fun cd_3 => ?_)
      · replace hf := ite_f cd_3 hf
        refine g_iconst X dX7_takesTerms_62 ?_
        exact HR 0 _ _ _ _ (Option.some.inj hf).symm (Or.inl rfl) w dX7_takesTerms_63
      · replace hf := ite_t cd_3 hf
        refine g_iconst X dX7_takesTerms_58 ?_
        refine lv_goto (tgt := 63) hx hb dX7_takesTerms_59 (by decide) ?_
        exact HR 1 _ _ _ _ (Option.some.inj hf).symm (Or.inr rfl) w dX7_takesTerms_63
    · replace hf := ite_f cd_2 hf
      by_cases cd_4 : (M (r0.toNat + 1) p1.toNat) = 9
      · replace hf := ite_t cd_4 hf
        refine g_tin (tgt := 64) (k := 9) (off := 58) X cd_4 (w.2.2 _ _) (by decide) (by decide) (by rfl) dX7_takesTerms_6 (by decide) ?_
        refine g_iconst X dX7_takesTerms_64 ?_
        exact HR 0 _ _ _ _ (Option.some.inj hf).symm (Or.inl rfl) w dX7_takesTerms_65
      · replace hf := ite_f cd_4 hf
        by_cases cd_5 : (M (r0.toNat + 1) p1.toNat) = 10
        · replace hf := ite_t cd_5 hf
          refine g_tin (tgt := 64) (k := 10) (off := 58) X cd_5 (w.2.2 _ _) (by decide) (by decide) (by rfl) dX7_takesTerms_6 (by decide) ?_
          refine g_iconst X dX7_takesTerms_64 ?_
          exact HR 0 _ _ _ _ (Option.some.inj hf).symm (Or.inl rfl) w dX7_takesTerms_65
        · replace hf := ite_f cd_5 hf
          by_cases cd_6 : (M (r0.toNat + 1) p1.toNat) = 11
          · replace hf := ite_t cd_6 hf
            refine g_tin (tgt := 54) (k := 11) (off := 48) X cd_6 (w.2.2 _ _) (by decide) (by decide) (by rfl) dX7_takesTerms_6 (by decide) ?_
            refine lv_iload_n hx hb dX7_takesTerms_54 rfl (lv_at hl 2 rfl) ?_
            refine g_if_ne (tgt := 62) X hp2 dX7_takesTerms_55 (by decide) (fun cd_7 => ?_) (fun cd_7 => ?_)
            · replace hf := ite_f cd_7 hf
              refine g_iconst X dX7_takesTerms_62 ?_
              exact HR 0 _ _ _ _ (Option.some.inj hf).symm (Or.inl rfl) w dX7_takesTerms_63
            · replace hf := ite_t cd_7 hf
              refine g_iconst X dX7_takesTerms_58 ?_
              refine lv_goto (tgt := 63) hx hb dX7_takesTerms_59 (by decide) ?_
              exact HR 1 _ _ _ _ (Option.some.inj hf).symm (Or.inr rfl) w dX7_takesTerms_63
          · replace hf := ite_f cd_6 hf
            by_cases cd_8 : (M (r0.toNat + 1) p1.toNat) = 12
            · replace hf := ite_t cd_8 hf
              refine g_tin (tgt := 64) (k := 12) (off := 58) X cd_8 (w.2.2 _ _) (by decide) (by decide) (by rfl) dX7_takesTerms_6 (by decide) ?_
              refine g_iconst X dX7_takesTerms_64 ?_
              exact HR 0 _ _ _ _ (Option.some.inj hf).symm (Or.inl rfl) w dX7_takesTerms_65
            · replace hf := ite_f cd_8 hf
              by_cases cd_9 : (M (r0.toNat + 1) p1.toNat) = 13
              · replace hf := ite_t cd_9 hf
                refine g_tin (tgt := 52) (k := 13) (off := 46) X cd_9 (w.2.2 _ _) (by decide) (by decide) (by rfl) dX7_takesTerms_6 (by decide) ?_
                refine g_iconst X dX7_takesTerms_52 ?_
                exact HR 1 _ _ _ _ (Option.some.inj hf).symm (Or.inr rfl) w dX7_takesTerms_53
              · replace hf := ite_f cd_9 hf
                by_cases cd_10 : (M (r0.toNat + 1) p1.toNat) = 14
                · replace hf := ite_t cd_10 hf
                  refine g_tin (tgt := 54) (k := 14) (off := 48) X cd_10 (w.2.2 _ _) (by decide) (by decide) (by rfl) dX7_takesTerms_6 (by decide) ?_
                  refine lv_iload_n hx hb dX7_takesTerms_54 rfl (lv_at hl 2 rfl) ?_
                  refine g_if_ne (tgt := 62) X hp2 dX7_takesTerms_55 (by decide) (fun cd_11 => ?_) (fun cd_11 => ?_)
                  · replace hf := ite_f cd_11 hf
                    refine g_iconst X dX7_takesTerms_62 ?_
                    exact HR 0 _ _ _ _ (Option.some.inj hf).symm (Or.inl rfl) w dX7_takesTerms_63
                  · replace hf := ite_t cd_11 hf
                    refine g_iconst X dX7_takesTerms_58 ?_
                    refine lv_goto (tgt := 63) hx hb dX7_takesTerms_59 (by decide) ?_
                    exact HR 1 _ _ _ _ (Option.some.inj hf).symm (Or.inr rfl) w dX7_takesTerms_63
                · replace hf := ite_f cd_10 hf
                  by_cases cd_12 : (M (r0.toNat + 1) p1.toNat) = 15
                  · replace hf := ite_t cd_12 hf
                    refine g_tin (tgt := 54) (k := 15) (off := 48) X cd_12 (w.2.2 _ _) (by decide) (by decide) (by rfl) dX7_takesTerms_6 (by decide) ?_
                    refine lv_iload_n hx hb dX7_takesTerms_54 rfl (lv_at hl 2 rfl) ?_
                    refine g_if_ne (tgt := 62) X hp2 dX7_takesTerms_55 (by decide) (fun cd_13 => ?_) (fun cd_13 => ?_)
                    · replace hf := ite_f cd_13 hf
                      refine g_iconst X dX7_takesTerms_62 ?_
                      exact HR 0 _ _ _ _ (Option.some.inj hf).symm (Or.inl rfl) w dX7_takesTerms_63
                    · replace hf := ite_t cd_13 hf
                      refine g_iconst X dX7_takesTerms_58 ?_
                      refine lv_goto (tgt := 63) hx hb dX7_takesTerms_59 (by decide) ?_
                      exact HR 1 _ _ _ _ (Option.some.inj hf).symm (Or.inr rfl) w dX7_takesTerms_63
                  · replace hf := ite_f cd_12 hf
                    cases hf
set_option maxRecDepth 100000 in
set_option maxHeartbeats 4000000 in
theorem k_X7_takesTerms {l : Launch} {D : va_G} {aC : Nat → ClassId} {ad : Nat → Nat} {sg : SG} (hi : Inj ad) (r0 : Int) (hr0 : isRu r0) (p1 : Int) (hp1 : inR p1) (p2 : Int) (hp2 : inR p2) {M : Mem} (hM : inM M) {r : Int} (hf : f_X7_takesTerms r0 p1 p2 M = some r) : MetI l D aC ad sg yX7_takesTerms cX7_takesTerms 3 (some .boolean) rm_X7_takesTerms 0 0 [.ref (ad r0.toNat), .int (i2 p1), .int (i2 p2)] M r M := by
  refine MetI.ofZ (by decide +kernel) (nle rfl) hi hM (fun p e s m args below meth c Q H0 ls X hl w hret => ?_)
  exact b_X7_takesTerms_0 X r0 hr0 (fun r1 H locs pc ls eo hP w dg => by cases eo; exact hret H locs pc ls hP w dg) p1 hp1 p2 hp2 hf hl w
end
