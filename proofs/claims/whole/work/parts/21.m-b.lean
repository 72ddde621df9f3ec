def f_X0_write_s3 (p1 : Nat) (v2 : Int) (v3 : Int) (v4 : Int) (M : Mem) : Option ((Int × Mem) ⊕ (Int × Mem)) :=
  if v2 ≤ v4 then
    some (.inr (v4, M))
  else
    if 400 ≤ (M 57 0) then
      some (.inr (v4, M))
    else
      gd (0 ≤ v4 ∧ v4 < (aln p1 : Int)) <|
      gd (0 ≤ v4 ∧ v4 < 14) <|
      if (M p1 v4.toNat) = (M 61 v4.toNat) then
        lt (wrap (v4 + 1)) fun v4_2 =>
        some (.inl (v4_2, M))
      else
        gd (0 ≤ (M 57 0) ∧ (M 57 0) < 400) <|
        lt (mup M 58 (M 57 0).toNat v4) fun M_2 =>
        gd (0 ≤ v4 ∧ v4 < (aln p1 : Int)) <|
        gd (0 ≤ (M_2 57 0) ∧ (M_2 57 0) < 400) <|
        lt (mup M_2 59 (M_2 57 0).toNat (M_2 p1 v4.toNat)) fun M_3 =>
        gd (0 ≤ (M_3 57 0) ∧ (M_3 57 0) < 400) <|
        lt (mup M_3 60 (M_3 57 0).toNat v3) fun M_4 =>
        gd (0 ≤ v4 ∧ v4 < (aln p1 : Int)) <|
        gd (0 ≤ v4 ∧ v4 < 14) <|
        lt (mup M_4 61 v4.toNat (M_4 p1 v4.toNat)) fun M_5 =>
        lt (mup M_5 57 0 (wrap ((M_5 57 0) + 1))) fun M_6 =>
        lt (wrap (v4 + 1)) fun v4_3 =>
        some (.inl (v4_3, M_6))
def f_X0_write_l3 (p1 : Nat) (v2 : Int) (v3 : Int) (v4 : Int) (M : Mem) : Option (Int × Mem) := whl (fun s => f_X0_write_s3 p1 v2 v3 s.1 s.2) FU (v4, M)
def f_X0_write_j94 (p1 : Nat) (M : Mem) : Option (Mem) :=
  some M
def f_X0_write (p1 : Nat) (p2 : Int) (p3 : Int) (M : Mem) : Option (Mem) :=
  obn (f_X0_write_l3 p1 p2 p3 0 M) fun s => f_X0_write_j94 p1 s.2
def rm_X0_write : Room := { frames := 0, cells := 0, slots := 0, locals := 0 }
def f_X0_seatAt_s5 (v1 : Int) (v2 : Int) (M : Mem) (v3 : Int) (v4 : Int) : Option ((Int × Int) ⊕ (Int × Int)) :=
  if (M 57 0) ≤ v4 then
    some (.inr (v3, v4))
  else
    gd (0 ≤ v4 ∧ v4 < 400) <|
    if (M 58 v4.toNat) = v1 then
      gd (0 ≤ v4 ∧ v4 < 400) <|
      if v2 < (M 60 v4.toNat) then
        lt (wrap (v4 + 1)) fun v4_3 =>
        some (.inl (v3, v4_3))
      else
        gd (0 ≤ v4 ∧ v4 < 400) <|
        lt (M 59 v4.toNat) fun v3_2 =>
        lt (wrap (v4 + 1)) fun v4_4 =>
        some (.inl (v3_2, v4_4))
    else
      lt (wrap (v4 + 1)) fun v4_2 =>
      some (.inl (v3, v4_2))
def f_X0_seatAt_l5 (v1 : Int) (v2 : Int) (M : Mem) (v3 : Int) (v4 : Int) : Option (Int × Int) := whl (fun s => f_X0_seatAt_s5 v1 v2 M s.1 s.2) FU (v3, v4)
def f_X0_seatAt_j50 (v3 : Int) (M : Mem) : Option (Int) :=
  some v3
def f_X0_seatAt (p1 : Int) (p2 : Int) (M : Mem) : Option (Int) :=
  obn (f_X0_seatAt_l5 p1 p2 M (-1) 0) fun s => f_X0_seatAt_j50 s.1 M
def rm_X0_seatAt : Room := { frames := 0, cells := 0, slots := 0, locals := 0 }
def f_X3_add (p1 : Int) (M : Mem) : Option (Int × Mem) :=
  if (M 51 0) < 6 then
    gd (0 ≤ (M 51 0) ∧ (M 51 0) < 6) <|
    lt (mup M 52 (M 51 0).toNat p1) fun M_2 =>
    lt (mup M_2 51 0 (wrap ((M_2 51 0) + 1))) fun M_3 =>
    some ((wrap ((M_3 51 0) - 1)), M_3)
  else
    some ((-1), M)
def rm_X3_add : Room := { frames := 0, cells := 0, slots := 0, locals := 0 }
def f_X3_clear (M : Mem) : Option (Mem) :=
  obn (f_J7_fill_53178 53 0 M) fun M_2 =>
  some M_2
def rm_X3_clear : Room := { frames := 1, cells := 0, slots := 0, locals := 23 }
def f_X3_addNeed (p1 : Int) (p2 : Int) (M : Mem) : Option (Mem) :=
  if p1 < 0 then
    some M
  else
    if 3 ≤ p1 then
      some M
    else
      gd (0 ≤ p1 ∧ p1 < 3) <|
      gd (0 ≤ p1 ∧ p1 < 3) <|
      lt (mup M 53 p1.toNat (wrap ((M 53 p1.toNat) + p2))) fun M_2 =>
      some M_2
def rm_X3_addNeed : Room := { frames := 0, cells := 0, slots := 0, locals := 0 }
def f_X3_lackOfWay_s24 (v2 : Int) (v3 : Int) (v4 : Int) (M : Mem) : Option ((Int × Int × Mem) ⊕ (Int × Int × Mem)) :=
  if v4 < 0 then
    some (.inr (v3, v4, M))
  else
    if v2 ≤ 0 then
      some (.inr (v3, v4, M))
    else
      gd (¬ v2 = 0) <|
      lt (jrem v3 v2) fun v5 =>
      gd (¬ v2 = 0) <|
      lt (jdiv v3 v2) fun v3_2 =>
      gd (0 ≤ v4 ∧ v4 < 6) <|
      lt (mup M 55 v4.toNat v5) fun M_2 =>
      gd (0 ≤ v5 ∧ v5 < 3) <|
      gd (0 ≤ v4 ∧ v4 < 6) <|
      gd (0 ≤ v5 ∧ v5 < 3) <|
      lt (mup M_2 54 v5.toNat (wrap ((M_2 54 v5.toNat) - (M_2 52 v4.toNat)))) fun M_3 =>
      lt (wrap (v4 + (-1))) fun v4_2 =>
      some (.inl (v3_2, v4_2, M_3))
def f_X3_lackOfWay_l24 (v2 : Int) (v3 : Int) (v4 : Int) (M : Mem) : Option (Int × Int × Mem) := whl (fun s => f_X3_lackOfWay_s24 v2 s.1 s.2.1 s.2.2) FU (v3, v4, M)
def f_X3_lackOfWay_s80 (M : Mem) (v4 : Int) (v5 : Int) : Option ((Int × Int) ⊕ (Int × Int)) :=
  if 3 ≤ v5 then
    some (.inr (v4, v5))
  else
    gd (0 ≤ v5 ∧ v5 < 3) <|
    lt (wrap (v4 + (if 0 < M 54 v5.toNat then M 54 v5.toNat else 0))) fun v4_2 =>
    lt (wrap (v5 + 1)) fun v5_2 =>
    some (.inl (v4_2, v5_2))
def f_X3_lackOfWay_l80 (M : Mem) (v4 : Int) (v5 : Int) : Option (Int × Int) := whl (fun s => f_X3_lackOfWay_s80 M s.1 s.2) FU (v4, v5)
def f_X3_lackOfWay_j108 (v4 : Int) (M : Mem) : Option (Int × Mem) :=
  some (v4, M)
def f_X3_lackOfWay_j74 (M : Mem) : Option (Int × Mem) :=
  obn (f_X3_lackOfWay_l80 M 0 0) fun s => f_X3_lackOfWay_j108 s.1 M
def f_X3_lackOfWay (p1 : Int) (p2 : Int) (M : Mem) : Option (Int × Mem) :=
  gd (0 ≤ 0 ∧ 0 ≤ 0 ∧ 0 ≤ 3 ∧ 0 + 3 ≤ 3 ∧ 0 + 3 ≤ 3) <|
  lt (mcp M 53 0 54 0 3) fun M_2 =>
  lt (wrap ((M_2 51 0) - 1)) fun v4 =>
  obn (f_X3_lackOfWay_l24 p2 p1 v4 M_2) fun s => f_X3_lackOfWay_j74 s.2.2
def rm_X3_lackOfWay : Room := { frames := 1, cells := 0, slots := 0, locals := 60 }
def f_X3_divide_s4 (v1 : Int) (M : Mem) (v2 : Int) (v3 : Int) : Option ((Int × Int) ⊕ (Int × Int)) :=
  if (M 51 0) ≤ v3 then
    some (.inr (v2, v3))
  else
    lt (wrap (v2 * v1)) fun v2_2 =>
    lt (wrap (v3 + 1)) fun v3_2 =>
    some (.inl (v2_2, v3_2))
def f_X3_divide_l4 (v1 : Int) (M : Mem) (v2 : Int) (v3 : Int) : Option (Int × Int) := whl (fun s => f_X3_divide_s4 v1 M s.1 s.2) FU (v2, v3)
def f_X3_divide_s24 (v1 : Int) (v2 : Int) (v3 : Int) (M : Mem) : Option ((Int × Mem) ⊕ (Int × Mem)) :=
  if v2 ≤ v3 then
    some (.inr (v3, M))
  else
    bnd (f_X3_lackOfWay v3 v1 M) fun r M_2 =>
    if v3 = 0 then
      lt (mup M_2 51 6 r) fun M_3 =>
      gd (0 ≤ 0 ∧ 0 ≤ 0 ∧ 0 ≤ M_3 51 0 ∧ 0 + M_3 51 0 ≤ 6 ∧ 0 + M_3 51 0 ≤ 6) <|
      lt (mcp M_3 55 0 56 0 (M_3 51 0)) fun M_4 =>
      lt (wrap (v3 + 1)) fun v3_2 =>
      some (.inl (v3_2, M_4))
    else
      if (M_2 51 6) ≤ r then
        lt (wrap (v3 + 1)) fun v3_3 =>
        some (.inl (v3_3, M_2))
      else
        lt (mup M_2 51 6 r) fun M_5 =>
        gd (0 ≤ 0 ∧ 0 ≤ 0 ∧ 0 ≤ M_5 51 0 ∧ 0 + M_5 51 0 ≤ 6 ∧ 0 + M_5 51 0 ≤ 6) <|
        lt (mcp M_5 55 0 56 0 (M_5 51 0)) fun M_6 =>
        lt (wrap (v3 + 1)) fun v3_4 =>
        some (.inl (v3_4, M_6))
def f_X3_divide_l24 (v1 : Int) (v2 : Int) (v3 : Int) (M : Mem) : Option (Int × Mem) := whl (fun s => f_X3_divide_s24 v1 v2 s.1 s.2) FU (v3, M)
def f_X3_divide_j79 (M : Mem) : Option (Mem) :=
  some M
def f_X3_divide_j22 (v1 : Int) (v2 : Int) (M : Mem) : Option (Mem) :=
  obn (f_X3_divide_l24 v1 v2 0 M) fun s => f_X3_divide_j79 s.2
def f_X3_divide (p1 : Int) (M : Mem) : Option (Mem) :=
  obn (f_X3_divide_l4 p1 M 1 0) fun s => f_X3_divide_j22 p1 s.1 M
def rm_X3_divide : Room := { frames := 2, cells := 0, slots := 0, locals := 85 }
def f_X9_hasSpace (p1 : Int) (M : Mem) : Option (Int) :=
  if 400 < (wrap ((M 24 0) + p1)) then
    some 0
  else
    some 1
def rm_X9_hasSpace : Room := { frames := 0, cells := 0, slots := 0, locals := 0 }
def f_X9_append_s3 (v1 : Int) (v2 : Int) (M : Mem) : Option ((Int × Mem) ⊕ (Int × Mem)) :=
  if v2 < 0 then
    some (.inr (v2, M))
  else
    if 400 ≤ (M 24 0) then
      some (.inr (v2, M))
    else
      gd (0 ≤ (M 24 0) ∧ (M 24 0) < 400) <|
      gd (0 ≤ (jchar (band (bshr v1 v2) 255)) ∧ (jchar (band (bshr v1 v2) 255)) < 65536) <|
      lt (mup M 25 (M 24 0).toNat (jchar (band (bshr v1 v2) 255))) fun M_2 =>
      lt (mup M_2 24 0 (wrap ((M_2 24 0) + 1))) fun M_3 =>
      lt (wrap (v2 + (-8))) fun v2_2 =>
      some (.inl (v2_2, M_3))
def f_X9_append_l3 (v1 : Int) (v2 : Int) (M : Mem) : Option (Int × Mem) := whl (fun s => f_X9_append_s3 v1 s.1 s.2) FU (v2, M)
def f_X9_append_j50 (M : Mem) : Option (Mem) :=
  some M
def f_X9_append (p1 : Int) (M : Mem) : Option (Mem) :=
  obn (f_X9_append_l3 p1 24 M) fun s => f_X9_append_j50 s.2
def rm_X9_append : Room := { frames := 0, cells := 0, slots := 0, locals := 0 }
def f_X9_isLetter (p0 : Int) (M : Mem) : Option (Int) :=
  if p0 < 97 then
    some 0
  else
    if 122 < p0 then
      some 0
    else
      some 1
def rm_X9_isLetter : Room := { frames := 0, cells := 0, slots := 0, locals := 0 }
def f_X9_wordCode_s8 (v1 : Int) (v2 : Int) (v3 : Int) (v4 : Int) (v5 : Int) (M : Mem) : Option ((Int × Int × Int × Mem) ⊕ ((Int × Int × Int × Mem) ⊕ (Int × Mem))) :=
  if (sLen 0 : Int) ≤ v5 then
    some (.inr (.inl (v3, v4, v5, M)))
  else
    gd (0 ≤ v5 ∧ v5 < (sLen 0 : Int)) <|
    lt (sAt 0 v5.toNat) fun v6 =>
    if v6 = 32 then
      if v4 = v2 then
        some (.inr (.inr (v3, M)))
      else
        lt (wrap (v3 + 1)) fun v3_2 =>
        lt (wrap (v5 + 1)) fun v5_6 =>
        some (.inl (v3_2, 0, v5_6, M))
    else
      if v4 < 0 then
        lt (wrap (v5 + 1)) fun v5_2 =>
        some (.inl (v3, (-1), v5_2, M))
      else
        if v2 ≤ v4 then
          lt (wrap (v5 + 1)) fun v5_3 =>
          some (.inl (v3, (-1), v5_3, M))
        else
          gd (0 ≤ (wrap (v1 + v4)) ∧ (wrap (v1 + v4)) < 400) <|
          if (M 25 (wrap (v1 + v4)).toNat) = v6 then
            lt (wrap (v4 + 1)) fun v4_2 =>
            lt (wrap (v5 + 1)) fun v5_5 =>
            some (.inl (v3, v4_2, v5_5, M))
          else
            lt (wrap (v5 + 1)) fun v5_4 =>
            some (.inl (v3, (-1), v5_4, M))
def f_X9_wordCode_l8 (v1 : Int) (v2 : Int) (v3 : Int) (v4 : Int) (v5 : Int) (M : Mem) : Option ((Int × Int × Int × Mem) ⊕ (Int × Mem)) := whl (fun s => f_X9_wordCode_s8 v1 v2 s.1 s.2.1 s.2.2.1 s.2.2.2) FU (v3, v4, v5, M)
def f_X9_wordCode_j91 (M : Mem) : Option (Int × Mem) :=
  some ((-2), M)
def f_X9_wordCode (p1 : Int) (p2 : Int) (M : Mem) : Option (Int × Mem) :=
  lpr (f_X9_wordCode_l8 p1 p2 0 0 0 M) (fun s => f_X9_wordCode_j91 s.2.2.2) (fun q => some q)
def rm_X9_wordCode : Room := { frames := 6, cells := 0, slots := 0, locals := 200 }
def f_X9_add (p1 : Int) (p2 : Int) (p3 : Int) (M : Mem) : Option (Mem) :=
  if 401 ≤ (M 24 2) then
    some M
  else
    gd (0 ≤ (M 24 2) ∧ (M 24 2) < 401) <|
    lt (mup M 26 (M 24 2).toNat p1) fun M_2 =>
    gd (0 ≤ (M_2 24 2) ∧ (M_2 24 2) < 401) <|
    lt (mup M_2 27 (M_2 24 2).toNat p2) fun M_3 =>
    gd (0 ≤ (M_3 24 2) ∧ (M_3 24 2) < 401) <|
    lt (mup M_3 28 (M_3 24 2).toNat p3) fun M_4 =>
    lt (mup M_4 24 2 (wrap ((M_4 24 2) + 1))) fun M_5 =>
    some M_5
def rm_X9_add : Room := { frames := 0, cells := 0, slots := 0, locals := 0 }
def f_X9_isDigit (p0 : Int) (M : Mem) : Option (Int) :=
  if p0 < 48 then
    some 0
  else
    if 57 < p0 then
      some 0
    else
      some 1
def rm_X9_isDigit : Room := { frames := 0, cells := 0, slots := 0, locals := 0 }
def f_X9_scanNumber_s4 (v1 : Int) (M : Mem) (v2 : Int) (v3 : Int) : Option ((Int × Int) ⊕ (Int × Int)) :=
  if (M 24 0) ≤ v3 then
    some (.inr (v2, v3))
  else
    gd (0 ≤ v3 ∧ v3 < 400) <|
    obn (f_X9_isDigit (M 25 v3.toNat) M) fun r =>
    if r = 0 then
      some (.inr (v2, v3))
    else
      if (wrap (v1 + 2)) ≤ v3 then
        lt (wrap (v3 + 1)) fun v3_2 =>
        some (.inl (v2, v3_2))
      else
        gd (0 ≤ v3 ∧ v3 < 400) <|
        lt (wrap ((wrap ((wrap (10 * v2)) + (M 25 v3.toNat))) - 48)) fun v2_2 =>
        lt (wrap (v3 + 1)) fun v3_3 =>
        some (.inl (v2_2, v3_3))
def f_X9_scanNumber_l4 (v1 : Int) (M : Mem) (v2 : Int) (v3 : Int) : Option (Int × Int) := whl (fun s => f_X9_scanNumber_s4 v1 M s.1 s.2) FU (v2, v3)
def f_X9_scanNumber_j52 (v1 : Int) (v2 : Int) (v3 : Int) (M : Mem) : Option (Int × Mem) :=
  if v3 ≤ (wrap (v1 + 2)) then
    obn (f_X9_add (-3) v1 v2 M) fun M_2 =>
    some ((wrap (v3 - v1)), M_2)
  else
    obn (f_X9_add (-2) v1 v2 M) fun M_3 =>
    some ((wrap (v3 - v1)), M_3)
def f_X9_scanNumber (p1 : Int) (M : Mem) : Option (Int × Mem) :=
  obn (f_X9_scanNumber_l4 p1 M 0 p1) fun s => f_X9_scanNumber_j52 p1 s.1 s.2 M
def rm_X9_scanNumber : Room := { frames := 1, cells := 0, slots := 0, locals := 23 }
def f_X9_scanToken_j108 (v1 : Int) (v2 : Int) (s0 : Int) (M : Mem) : Option (Int × Mem) :=
  if s0 = 0 then
    obn (f_X9_add (-2) v1 0 M) fun M_2 =>
    some (1, M_2)
  else
    obn (f_X9_add v2 v1 0 M) fun M_3 =>
    some (1, M_3)
def f_X9_scanToken_s16 (v1 : Int) (M : Mem) (v3 : Int) : Option ((Int) ⊕ (Int)) :=
  if (M 24 0) ≤ v3 then
    some (.inr v3)
  else
    gd (0 ≤ v3 ∧ v3 < 400) <|
    obn (f_X9_isLetter (M 25 v3.toNat) M) fun r =>
    if r = 0 then
      some (.inr v3)
    else
      lt (wrap (v3 + 1)) fun v3_2 =>
      some (.inl v3_2)
def f_X9_scanToken_l16 (v1 : Int) (M : Mem) (v3 : Int) : Option (Int) := whl (fun s => f_X9_scanToken_s16 v1 M s) FU v3
def f_X9_scanToken_j42 (v1 : Int) (v3 : Int) (M : Mem) : Option (Int × Mem) :=
  bnd (f_X9_wordCode v1 (wrap (v3 - v1)) M) fun r M_2 =>
  obn (f_X9_add r v1 0 M_2) fun M_3 =>
  some ((wrap (v3 - v1)), M_3)
def f_X9_scanToken (p1 : Int) (M : Mem) : Option (Int × Mem) :=
  gd (0 ≤ p1 ∧ p1 < 400) <|
  lt (M 25 p1.toNat) fun v2 =>
  obn (f_X9_isLetter v2 M) fun r =>
  if r = 0 then
    obn (f_X9_isDigit v2 M) fun r_2 =>
    if r_2 = 0 then
      if v2 = 59 then
        f_X9_scanToken_j108 p1 v2 1 M
      else
        if v2 = 58 then
          f_X9_scanToken_j108 p1 v2 1 M
        else
          if v2 = 60 then
            f_X9_scanToken_j108 p1 v2 1 M
          else
            if v2 = 61 then
              f_X9_scanToken_j108 p1 v2 1 M
            else
              if v2 = 62 then
                f_X9_scanToken_j108 p1 v2 1 M
              else
                f_X9_scanToken_j108 p1 v2 0 M
    else
      bnd (f_X9_scanNumber p1 M) fun r_3 M_2 =>
      some (r_3, M_2)
  else
    obn (f_X9_scanToken_l16 p1 M p1) fun s => f_X9_scanToken_j42 p1 s M
def rm_X9_scanToken : Room := { frames := 7, cells := 0, slots := 0, locals := 226 }
def f_X9_scan_j44k9 (v2 : Int) (s0 : Int) (M : Mem) : Option ((Int × Mem) ⊕ (Int × Mem)) :=
  if s0 = 0 then
    bnd (f_X9_scanToken v2 M) fun r M_2 =>
    lt (wrap (v2 + (if 1 < r then r else 1))) fun v2_2 =>
    some (.inl (v2_2, M_2))
  else
    lt (wrap (v2 + (if 1 < 1 then 1 else 1))) fun v2_3 =>
    some (.inl (v2_3, M))
def f_X9_scan_s9 (v2 : Int) (M : Mem) : Option ((Int × Mem) ⊕ (Int × Mem)) :=
  if (M 24 0) ≤ v2 then
    some (.inr (v2, M))
  else
    gd (0 ≤ v2 ∧ v2 < 400) <|
    if (M 25 v2.toNat) = 32 then
      f_X9_scan_j44k9 v2 1 M
    else
      gd (0 ≤ v2 ∧ v2 < 400) <|
      if (M 25 v2.toNat) = 10 then
        f_X9_scan_j44k9 v2 1 M
      else
        f_X9_scan_j44k9 v2 0 M
def f_X9_scan_l9 (v2 : Int) (M : Mem) : Option (Int × Mem) := whl (fun s => f_X9_scan_s9 s.1 s.2) FU (v2, M)
def f_X9_scan_j70 (M : Mem) : Option (Mem) :=
  obn (f_X9_add (-1) (M 24 0) 0 M) fun M_2 =>
  some M_2
def f_X9_scan (M : Mem) : Option (Mem) :=
  lt (mup M 24 2 0) fun M_2 =>
  obn (f_X9_scan_l9 0 M_2) fun s => f_X9_scan_j70 s.2
def rm_X9_scan : Room := { frames := 8, cells := 0, slots := 0, locals := 249 }
section
variable {p : Program} {l : Launch} {e : Env} {s : State} {m : MethodId} {args : Array Value} {below : List Frame} {meth : Method} {c : Code} {Q : State → Prop} {D : va_G} {aC : Nat → ClassId} {ad : Nat → Nat} {sg : SG} {A : Nat → Prop} {H0 : Heap}
set_option maxRecDepth 100000 in
set_option maxHeartbeats 4000000 in
theorem b_X0_write_s3 (X : CX p s m args c cX0_write 5 RX0 D aC ad sg A H0) (p1 : Nat) (hp1 : KD[p1]? = some (.inr (0, aln p1))) (v2 : Int) (hv2 : inR v2) (v3 : Int) (hv3 : inR v3) {o : (Int × Mem) ⊕ (Int × Mem)} (HC : ∀ (y4 : Int) (M1 : Mem) (H : Heap) (locs : List Loc) (ls : Array Slot), o = .inl (y4, M1) → inR y4 → lv_has ls 5 [(0, .ref (ad 57)), (1, .ref (ad p1)), (2, .int (i2 v2)), (3, .int (i2 v3)), (4, .int (i2 y4))] → WS D aC ad A H0 M1 H locs → W p l e rm_X0_write s m args below meth c H locs 0 0 Q (F0 m 3 ls [])) (HE : ∀ (y4 : Int) (M1 : Mem) (H : Heap) (locs : List Loc) (ls : Array Slot), o = .inr (y4, M1) → inR y4 → lv_has ls 5 [(0, .ref (ad 57)), (1, .ref (ad p1)), (2, .int (i2 v2)), (3, .int (i2 v3)), (4, .int (i2 y4))] → WS D aC ad A H0 M1 H locs → W p l e rm_X0_write s m args below meth c H locs 0 0 Q (F0 m 94 ls [])) (v4 : Int) (hv4 : inR v4) (M : Mem) (hf : f_X0_write_s3 p1 v2 v3 v4 M = some o) {H : Heap} {locs : List Loc} {ls : Array Slot} (hl : lv_has ls 5 [(0, .ref (ad 57)), (1, .ref (ad p1)), (2, .int (i2 v2)), (3, .int (i2 v3)), (4, .int (i2 v4))]) (w : WS D aC ad A H0 M H locs) : W p l e rm_X0_write s m args below meth c H locs 0 0 Q (F0 m 3 ls []) := by
  have hx := X.1.1
  have hb := X.1.2.1
  unfold f_X0_write_s3 at hf
  refine lv_iload hx hb dX0_write_3 (lv_at hl 4 rfl) ?_
  refine lv_iload_n hx hb dX0_write_5 rfl (lv_at hl 2 rfl) ?_
  refine g_icmp_ge (tgt := 94) X hv4 hv2 dX0_write_6 (by decide) (fun cd => ?_) (fun cd => ?_)
  · replace hf := ite_t cd hf
    exact HE v4 M _ _ _ (Option.some.inj hf).symm hv4 hl w
  · replace hf := ite_f cd hf
    refine lv_aload_n hx hb dX0_write_9 rfl (lv_at hl 0 rfl) ?_
    refine g_geti X w fg_X0_30 KD_57 FR_57_0 dX0_write_10 ?_
    refine g_sipush X dX0_write_13 (by decide) ?_
    refine g_icmp_ge (tgt := 94) X (w.2.2 _ _) (inL rfl) dX0_write_16 (by decide) (fun cd_2 => ?_) (fun cd_2 => ?_)
    · replace hf := ite_t cd_2 hf
      exact HE v4 M _ _ _ (Option.some.inj hf).symm hv4 hl w
    · replace hf := ite_f cd_2 hf
      refine lv_aload_n hx hb dX0_write_19 rfl (lv_at hl 1 rfl) ?_
      refine lv_iload hx hb dX0_write_20 (lv_at hl 4 rfl) ?_
      obtain ⟨hg, hf⟩ := gd_some hf
      refine g_iald X w hp1 hv4 hg dX0_write_22 ?_
      refine lv_aload_n hx hb dX0_write_23 rfl (lv_at hl 0 rfl) ?_
      refine g_getr X w fg_X0_21 KD_57 FR_57_4 dX0_write_24 ?_
      refine lv_iload hx hb dX0_write_27 (lv_at hl 4 rfl) ?_
      obtain ⟨hg_2, hf⟩ := gd_some hf
      refine g_iald X w KD_61 hv4 hg_2 dX0_write_29 ?_
      refine g_icmp_eq (tgt := 88) X (w.2.2 _ _) (w.2.2 _ _) dX0_write_30 (by decide) (fun cd_3 => ?_) (fun cd_3 => ?_)
      · replace hf := ite_t cd_3 hf
        obtain ⟨v4_2, ev4_2, hf⟩ := lt_some hf
        have hv4_2 : inR v4_2 := inR_of ev4_2 (inR_wrap _)
        refine lv_iinc (v := i2 v4_2) (lv' := [(4, .int (i2 v4_2)), (0, .ref (ad 57)), (1, .ref (ad p1)), (2, .int (i2 v2)), (3, .int (i2 v3))]) hx hb dX0_write_88 hl (k := 4) rfl (by rw [ev4_2]; exact i2_add _ _) (by decide) rfl (fun ls hl => ?_)
        refine lv_goto (tgt := 3) hx hb dX0_write_91 (by decide) ?_
        exact HC v4_2 M _ _ _ (Option.some.inj hf).symm hv4_2 (lv_sub hl [1, 2, 3, 4, 0] rfl) w
      · replace hf := ite_f cd_3 hf
        refine lv_aload_n hx hb dX0_write_33 rfl (lv_at hl 0 rfl) ?_
        refine g_getr X w fg_X0_11 KD_57 FR_57_1 dX0_write_34 ?_
        refine lv_aload_n hx hb dX0_write_37 rfl (lv_at hl 0 rfl) ?_
        refine g_geti X w fg_X0_30 KD_57 FR_57_0 dX0_write_38 ?_
        refine lv_iload hx hb dX0_write_41 (lv_at hl 4 rfl) ?_
        obtain ⟨hg_3, hf⟩ := gd_some hf
        obtain ⟨M_2, eM_2, hf⟩ := lt_some hf
        refine g_iast X w KD_58 (w.2.2 _ _) hg_3 hv4 dX0_write_43 (fun H locs w_M_2 => ?_)
        rw [← eM_2] at w_M_2
        refine lv_aload_n hx hb dX0_write_44 rfl (lv_at hl 0 rfl) ?_
        refine g_getr X w_M_2 fg_X0_15 KD_57 FR_57_2 dX0_write_45 ?_
        refine lv_aload_n hx hb dX0_write_48 rfl (lv_at hl 0 rfl) ?_
        refine g_geti X w_M_2 fg_X0_30 KD_57 FR_57_0 dX0_write_49 ?_
        refine lv_aload_n hx hb dX0_write_52 rfl (lv_at hl 1 rfl) ?_
        refine lv_iload hx hb dX0_write_53 (lv_at hl 4 rfl) ?_
        obtain ⟨hg_4, hf⟩ := gd_some hf
        refine g_iald X w_M_2 hp1 hv4 hg_4 dX0_write_55 ?_
        obtain ⟨hg_5, hf⟩ := gd_some hf
        obtain ⟨M_3, eM_3, hf⟩ := lt_some hf
        refine g_iast X w_M_2 KD_59 (w_M_2.2.2 _ _) hg_5 (w_M_2.2.2 _ _) dX0_write_56 (fun H locs w_M_3 => ?_)
        rw [← eM_3] at w_M_3
        refine lv_aload_n hx hb dX0_write_57 rfl (lv_at hl 0 rfl) ?_
        refine g_getr X w_M_3 fg_X0_18 KD_57 FR_57_3 dX0_write_58 ?_
        refine lv_aload_n hx hb dX0_write_61 rfl (lv_at hl 0 rfl) ?_
        refine g_geti X w_M_3 fg_X0_30 KD_57 FR_57_0 dX0_write_62 ?_
        refine lv_iload_n hx hb dX0_write_65 rfl (lv_at hl 3 rfl) ?_
        obtain ⟨hg_6, hf⟩ := gd_some hf
        obtain ⟨M_4, eM_4, hf⟩ := lt_some hf
        refine g_iast X w_M_3 KD_60 (w_M_3.2.2 _ _) hg_6 hv3 dX0_write_66 (fun H locs w_M_4 => ?_)
        rw [← eM_4] at w_M_4
        refine lv_aload_n hx hb dX0_write_67 rfl (lv_at hl 0 rfl) ?_
        refine g_getr X w_M_4 fg_X0_21 KD_57 FR_57_4 dX0_write_68 ?_
        refine lv_iload hx hb dX0_write_71 (lv_at hl 4 rfl) ?_
        refine lv_aload_n hx hb dX0_write_73 rfl (lv_at hl 1 rfl) ?_
        refine lv_iload hx hb dX0_write_74 (lv_at hl 4 rfl) ?_
        obtain ⟨hg_7, hf⟩ := gd_some hf
        refine g_iald X w_M_4 hp1 hv4 hg_7 dX0_write_76 ?_
        obtain ⟨hg_8, hf⟩ := gd_some hf
        obtain ⟨M_5, eM_5, hf⟩ := lt_some hf
        refine g_iast X w_M_4 KD_61 hv4 hg_8 (w_M_4.2.2 _ _) dX0_write_77 (fun H locs w_M_5 => ?_)
        rw [← eM_5] at w_M_5
        refine lv_aload_n hx hb dX0_write_78 rfl (lv_at hl 0 rfl) ?_
        refine lv_dup hx hb dX0_write_79 rfl ?_
        refine g_geti X w_M_5 fg_X0_30 KD_57 FR_57_0 dX0_write_80 ?_
        refine g_iconst X dX0_write_83 ?_
        refine g_iadd X dX0_write_84 ?_
        obtain ⟨M_6, eM_6, hf⟩ := lt_some hf
        refine g_puti X w_M_5 fp_X0_30 KD_57 FR_57_0 (inR_wrap _) dX0_write_85 (fun H locs w_M_6 => ?_)
        rw [← eM_6] at w_M_6
        obtain ⟨v4_3, ev4_3, hf⟩ := lt_some hf
        have hv4_3 : inR v4_3 := inR_of ev4_3 (inR_wrap _)
        refine lv_iinc (v := i2 v4_3) (lv' := [(4, .int (i2 v4_3)), (0, .ref (ad 57)), (1, .ref (ad p1)), (2, .int (i2 v2)), (3, .int (i2 v3))]) hx hb dX0_write_88 hl (k := 4) rfl (by rw [ev4_3]; exact i2_add _ _) (by decide) rfl (fun ls hl => ?_)
        refine lv_goto (tgt := 3) hx hb dX0_write_91 (by decide) ?_
        exact HC v4_3 M_6 _ _ _ (Option.some.inj hf).symm hv4_3 (lv_sub hl [1, 2, 3, 4, 0] rfl) w_M_6
set_option maxRecDepth 100000 in
set_option maxHeartbeats 4000000 in
theorem l_X0_write_3 (X : CX p s m args c cX0_write 5 RX0 D aC ad sg A H0) (p1 : Nat) (hp1 : KD[p1]? = some (.inr (0, aln p1))) (v2 : Int) (hv2 : inR v2) (v3 : Int) (hv3 : inR v3) {out : Int × Mem} (HE : ∀ (y4 : Int) (M1 : Mem) (H : Heap) (locs : List Loc) (ls : Array Slot), out = (y4, M1) → inR y4 → lv_has ls 5 [(0, .ref (ad 57)), (1, .ref (ad p1)), (2, .int (i2 v2)), (3, .int (i2 v3)), (4, .int (i2 y4))] → WS D aC ad A H0 M1 H locs → W p l e rm_X0_write s m args below meth c H locs 0 0 Q (F0 m 94 ls [])) : ∀ (n : Nat) (v4 : Int) (M : Mem), whl (fun s => f_X0_write_s3 p1 v2 v3 s.1 s.2) n (v4, M) = some out → inR v4 → ∀ {H : Heap} {locs : List Loc} {ls : Array Slot}, lv_has ls 5 [(0, .ref (ad 57)), (1, .ref (ad p1)), (2, .int (i2 v2)), (3, .int (i2 v3)), (4, .int (i2 v4))] → WS D aC ad A H0 M H locs → W p l e rm_X0_write s m args below meth c H locs 0 0 Q (F0 m 3 ls []) := by
  intro n
  induction n with
  | zero => intro v4 M hf; exact (whl_zero hf).elim
  | succ n ih =>
    intro v4 M hf hv4 H locs ls hl w
    obtain ⟨o, hf, hk1, hk2⟩ := whl_step hf
    exact b_X0_write_s3 X p1 hp1 v2 hv2 v3 hv3 (fun y4 M1 H locs ls eo hy4 hl w => ih y4 M1 (hk1 _ eo) hy4 hl w) (fun y4 M1 H locs ls eo hy4 hl w => HE y4 M1 H locs ls (hk2 _ eo).symm hy4 hl w) v4 hv4 M hf hl w
set_option maxRecDepth 100000 in
set_option maxHeartbeats 4000000 in
theorem b_X0_write_j94 (X : CX p s m args c cX0_write 5 RX0 D aC ad sg A H0) (p1 : Nat) (hp1 : KD[p1]? = some (.inr (0, aln p1))) {o : Mem} (HR : ∀ (M1 : Mem) (H : Heap) (locs : List Loc) (pc : Nat) (ls : Array Slot), o = M1 → WS D aC ad A H0 M1 H locs → decode cX0_write pc = .ok (.return_, 1) → W p l e rm_X0_write s m args below meth c H locs 0 0 Q (F0 m pc ls [])) (M : Mem) (hf : f_X0_write_j94 p1 M = some o) {H : Heap} {locs : List Loc} {ls : Array Slot} (hl : lv_has ls 5 []) (w : WS D aC ad A H0 M H locs) : W p l e rm_X0_write s m args below meth c H locs 0 0 Q (F0 m 94 ls []) := by
  have hx := X.1.1
  have hb := X.1.2.1
  unfold f_X0_write_j94 at hf
  exact HR M _ _ _ _ (Option.some.inj hf).symm w dX0_write_94
set_option maxRecDepth 100000 in
set_option maxHeartbeats 4000000 in
theorem b_X0_write_0 (X : CX p s m args c cX0_write 5 RX0 D aC ad sg A H0) (p1 : Nat) (hp1 : KD[p1]? = some (.inr (0, aln p1))) {o : Mem} (HR : ∀ (M1 : Mem) (H : Heap) (locs : List Loc) (pc : Nat) (ls : Array Slot), o = M1 → WS D aC ad A H0 M1 H locs → decode cX0_write pc = .ok (.return_, 1) → W p l e rm_X0_write s m args below meth c H locs 0 0 Q (F0 m pc ls [])) (p2 : Int) (hp2 : inR p2) (p3 : Int) (hp3 : inR p3) (M : Mem) (hf : f_X0_write p1 p2 p3 M = some o) {H : Heap} {locs : List Loc} {ls : Array Slot} (hl : lv_has ls 5 [(0, .ref (ad 57)), (1, .ref (ad p1)), (2, .int (i2 p2)), (3, .int (i2 p3))]) (w : WS D aC ad A H0 M H locs) : W p l e rm_X0_write s m args below meth c H locs 0 0 Q (F0 m 0 ls []) := by
  have hx := X.1.1
  have hb := X.1.2.1
  unfold f_X0_write at hf
  refine g_iconst X dX0_write_0 ?_
  refine g_ist (v := 0) (lv' := [(4, .int (i2 0)), (0, .ref (ad 57)), (1, .ref (ad p1)), (2, .int (i2 p2)), (3, .int (i2 p3))]) X rfl dX0_write_1 hl (by decide) rfl (fun ls hl => ?_)
  obtain ⟨q, hq, h1⟩ := obn_some hf
  exact l_X0_write_3 X p1 hp1 p2 hp2 p3 hp3 (out := q) (fun y4 M1 H locs ls eq hy4 hl w => b_X0_write_j94 X p1 hp1 HR M1 (by subst eq; exact h1) (lv_sub hl [] rfl) w)  FU 0 M hq (inL rfl) (lv_sub hl [1, 2, 3, 4, 0] rfl) w
set_option maxRecDepth 100000 in
set_option maxHeartbeats 4000000 in
theorem k_X0_write {l : Launch} {D : va_G} {aC : Nat → ClassId} {ad : Nat → Nat} {sg : SG} (hi : Inj ad) (p1 : Nat) (hp1 : KD[p1]? = some (.inr (0, aln p1))) (p2 : Int) (hp2 : inR p2) (p3 : Int) (hp3 : inR p3) {M : Mem} (hM : inM M) {M' : Mem} (hf : f_X0_write p1 p2 p3 M = some M') : MetV l D aC ad sg yX0_write cX0_write 5 rm_X0_write 0 0 [.ref (ad 57), .ref (ad p1), .int (i2 p2), .int (i2 p3)] M M' := by
  refine MetV.of (by decide +kernel) (nle rfl) hi hM (fun p e s m args below meth c Q H0 ls X hl w hret => ?_)
  exact b_X0_write_0 X p1 hp1 (fun M1 H locs pc ls eo w dg => by cases eo; exact hret H locs pc ls w dg) p2 hp2 p3 hp3 M hf hl w
set_option maxRecDepth 100000 in
set_option maxHeartbeats 4000000 in
theorem b_X0_seatAt_s5 (X : CX p s m args c cX0_seatAt 5 RX0 D aC ad sg A H0) (v1 : Int) (hv1 : inR v1) (v2 : Int) (hv2 : inR v2) {M : Mem} {o : (Int × Int) ⊕ (Int × Int)} (HC : ∀ (y3 : Int) (y4 : Int) (H : Heap) (locs : List Loc) (ls : Array Slot), o = .inl (y3, y4) → inR y3 → inR y4 → lv_has ls 5 [(0, .ref (ad 57)), (1, .int (i2 v1)), (2, .int (i2 v2)), (3, .int (i2 y3)), (4, .int (i2 y4))] → WS D aC ad A H0 M H locs → W p l e rm_X0_seatAt s m args below meth c H locs 0 0 Q (F0 m 5 ls [])) (HE : ∀ (y3 : Int) (y4 : Int) (H : Heap) (locs : List Loc) (ls : Array Slot), o = .inr (y3, y4) → inR y3 → inR y4 → lv_has ls 5 [(0, .ref (ad 57)), (1, .int (i2 v1)), (2, .int (i2 v2)), (3, .int (i2 y3)), (4, .int (i2 y4))] → WS D aC ad A H0 M H locs → W p l e rm_X0_seatAt s m args below meth c H locs 0 0 Q (F0 m 50 ls [])) (v3 : Int) (hv3 : inR v3) (v4 : Int) (hv4 : inR v4) (hf : f_X0_seatAt_s5 v1 v2 M v3 v4 = some o) {H : Heap} {locs : List Loc} {ls : Array Slot} (hl : lv_has ls 5 [(0, .ref (ad 57)), (1, .int (i2 v1)), (2, .int (i2 v2)), (3, .int (i2 v3)), (4, .int (i2 v4))]) (w : WS D aC ad A H0 M H locs) : W p l e rm_X0_seatAt s m args below meth c H locs 0 0 Q (F0 m 5 ls []) := by
  have hx := X.1.1
  have hb := X.1.2.1
  unfold f_X0_seatAt_s5 at hf
  refine lv_iload hx hb dX0_seatAt_5 (lv_at hl 4 rfl) ?_
  refine lv_aload_n hx hb dX0_seatAt_7 rfl (lv_at hl 0 rfl) ?_
  refine g_geti X w fg_X0_30 KD_57 FR_57_0 dX0_seatAt_8 ?_
  refine g_icmp_ge (tgt := 50) X hv4 (w.2.2 _ _) dX0_seatAt_11 (by decide) (fun cd => ?_) (fun cd => ?_)
  · replace hf := ite_t cd hf
    exact HE v3 v4 _ _ _ (Option.some.inj hf).symm hv3 hv4 hl w
  · replace hf := ite_f cd hf
    refine lv_aload_n hx hb dX0_seatAt_14 rfl (lv_at hl 0 rfl) ?_
    refine g_getr X w fg_X0_11 KD_57 FR_57_1 dX0_seatAt_15 ?_
    refine lv_iload hx hb dX0_seatAt_18 (lv_at hl 4 rfl) ?_
    obtain ⟨hg, hf⟩ := gd_some hf
    refine g_iald X w KD_58 hv4 hg dX0_seatAt_20 ?_
    refine lv_iload_n hx hb dX0_seatAt_21 rfl (lv_at hl 1 rfl) ?_
    refine g_icmp_ne (tgt := 44) X (w.2.2 _ _) hv1 dX0_seatAt_22 (by decide) (fun cd_2 => ?_) (fun cd_2 => ?_)
    · replace hf := ite_f cd_2 hf
      obtain ⟨v4_2, ev4_2, hf⟩ := lt_some hf
      have hv4_2 : inR v4_2 := inR_of ev4_2 (inR_wrap _)
      refine lv_iinc (v := i2 v4_2) (lv' := [(4, .int (i2 v4_2)), (0, .ref (ad 57)), (1, .int (i2 v1)), (2, .int (i2 v2)), (3, .int (i2 v3))]) hx hb dX0_seatAt_44 hl (k := 4) rfl (by rw [ev4_2]; exact i2_add _ _) (by decide) rfl (fun ls hl => ?_)
      refine lv_goto (tgt := 5) hx hb dX0_seatAt_47 (by decide) ?_
      exact HC v3 v4_2 _ _ _ (Option.some.inj hf).symm hv3 hv4_2 (lv_sub hl [1, 2, 3, 4, 0] rfl) w
    · replace hf := ite_t cd_2 hf
      refine lv_aload_n hx hb dX0_seatAt_25 rfl (lv_at hl 0 rfl) ?_
      refine g_getr X w fg_X0_18 KD_57 FR_57_3 dX0_seatAt_26 ?_
      refine lv_iload hx hb dX0_seatAt_29 (lv_at hl 4 rfl) ?_
      obtain ⟨hg_2, hf⟩ := gd_some hf
      refine g_iald X w KD_60 hv4 hg_2 dX0_seatAt_31 ?_
      refine lv_iload_n hx hb dX0_seatAt_32 rfl (lv_at hl 2 rfl) ?_
      refine g_icmp_gt (tgt := 44) X (w.2.2 _ _) hv2 dX0_seatAt_33 (by decide) (fun cd_3 => ?_) (fun cd_3 => ?_)
      · replace hf := ite_t cd_3 hf
        obtain ⟨v4_3, ev4_3, hf⟩ := lt_some hf
        have hv4_3 : inR v4_3 := inR_of ev4_3 (inR_wrap _)
        refine lv_iinc (v := i2 v4_3) (lv' := [(4, .int (i2 v4_3)), (0, .ref (ad 57)), (1, .int (i2 v1)), (2, .int (i2 v2)), (3, .int (i2 v3))]) hx hb dX0_seatAt_44 hl (k := 4) rfl (by rw [ev4_3]; exact i2_add _ _) (by decide) rfl (fun ls hl => ?_)
        refine lv_goto (tgt := 5) hx hb dX0_seatAt_47 (by decide) ?_
        exact HC v3 v4_3 _ _ _ (Option.some.inj hf).symm hv3 hv4_3 (lv_sub hl [1, 2, 3, 4, 0] rfl) w
      · replace hf := ite_f cd_3 hf
        refine lv_aload_n hx hb dX0_seatAt_36 rfl (lv_at hl 0 rfl) ?_
        refine g_getr X w fg_X0_15 KD_57 FR_57_2 dX0_seatAt_37 ?_
        refine lv_iload hx hb dX0_seatAt_40 (lv_at hl 4 rfl) ?_
        obtain ⟨hg_3, hf⟩ := gd_some hf
        refine g_iald X w KD_59 hv4 hg_3 dX0_seatAt_42 ?_
        obtain ⟨v3_2, ev3_2, hf⟩ := lt_some hf
        have hv3_2 : inR v3_2 := inR_of ev3_2 (w.2.2 _ _)
        refine g_istn (v := v3_2) (lv' := [(3, .int (i2 v3_2)), (0, .ref (ad 57)), (1, .int (i2 v1)), (2, .int (i2 v2)), (4, .int (i2 v4))]) X ev3_2 dX0_seatAt_43 rfl hl (by decide) rfl (fun ls hl => ?_)
        obtain ⟨v4_4, ev4_4, hf⟩ := lt_some hf
        have hv4_4 : inR v4_4 := inR_of ev4_4 (inR_wrap _)
        refine lv_iinc (v := i2 v4_4) (lv' := [(4, .int (i2 v4_4)), (3, .int (i2 v3_2)), (0, .ref (ad 57)), (1, .int (i2 v1)), (2, .int (i2 v2))]) hx hb dX0_seatAt_44 hl (k := 4) rfl (by rw [ev4_4]; exact i2_add _ _) (by decide) rfl (fun ls hl => ?_)
        refine lv_goto (tgt := 5) hx hb dX0_seatAt_47 (by decide) ?_
        exact HC v3_2 v4_4 _ _ _ (Option.some.inj hf).symm hv3_2 hv4_4 (lv_sub hl [2, 3, 4, 1, 0] rfl) w
set_option maxRecDepth 100000 in
set_option maxHeartbeats 4000000 in
theorem l_X0_seatAt_5 (X : CX p s m args c cX0_seatAt 5 RX0 D aC ad sg A H0) (v1 : Int) (hv1 : inR v1) (v2 : Int) (hv2 : inR v2) {M : Mem} {out : Int × Int} (HE : ∀ (y3 : Int) (y4 : Int) (H : Heap) (locs : List Loc) (ls : Array Slot), out = (y3, y4) → inR y3 → inR y4 → lv_has ls 5 [(0, .ref (ad 57)), (1, .int (i2 v1)), (2, .int (i2 v2)), (3, .int (i2 y3)), (4, .int (i2 y4))] → WS D aC ad A H0 M H locs → W p l e rm_X0_seatAt s m args below meth c H locs 0 0 Q (F0 m 50 ls [])) : ∀ (n : Nat) (v3 : Int) (v4 : Int), whl (fun s => f_X0_seatAt_s5 v1 v2 M s.1 s.2) n (v3, v4) = some out → inR v3 → inR v4 → ∀ {H : Heap} {locs : List Loc} {ls : Array Slot}, lv_has ls 5 [(0, .ref (ad 57)), (1, .int (i2 v1)), (2, .int (i2 v2)), (3, .int (i2 v3)), (4, .int (i2 v4))] → WS D aC ad A H0 M H locs → W p l e rm_X0_seatAt s m args below meth c H locs 0 0 Q (F0 m 5 ls []) := by
  intro n
  induction n with
  | zero => intro v3 v4 hf; exact (whl_zero hf).elim
  | succ n ih =>
    intro v3 v4 hf hv3 hv4 H locs ls hl w
    obtain ⟨o, hf, hk1, hk2⟩ := whl_step hf
    exact b_X0_seatAt_s5 X v1 hv1 v2 hv2 (fun y3 y4 H locs ls eo hy3 hy4 hl w => ih y3 y4 (hk1 _ eo) hy3 hy4 hl w) (fun y3 y4 H locs ls eo hy3 hy4 hl w => HE y3 y4 H locs ls (hk2 _ eo).symm hy3 hy4 hl w) v3 hv3 v4 hv4 hf hl w
set_option maxRecDepth 100000 in
set_option maxHeartbeats 4000000 in
theorem b_X0_seatAt_j50 (X : CX p s m args c cX0_seatAt 5 RX0 D aC ad sg A H0) {M : Mem} {o : Int} (HR : ∀ (r : Int) (H : Heap) (locs : List Loc) (pc : Nat) (ls : Array Slot), o = r → inR r → WS D aC ad A H0 M H locs → decode cX0_seatAt pc = .ok (.ireturn, 1) → W p l e rm_X0_seatAt s m args below meth c H locs 0 0 Q (F0 m pc ls [.int (i2 r)])) (v3 : Int) (hv3 : inR v3) (hf : f_X0_seatAt_j50 v3 M = some o) {H : Heap} {locs : List Loc} {ls : Array Slot} (hl : lv_has ls 5 [(3, .int (i2 v3))]) (w : WS D aC ad A H0 M H locs) : W p l e rm_X0_seatAt s m args below meth c H locs 0 0 Q (F0 m 50 ls []) := by
  have hx := X.1.1
  have hb := X.1.2.1
  unfold f_X0_seatAt_j50 at hf
  refine lv_iload_n hx hb dX0_seatAt_50 rfl (lv_at hl 0 rfl) ?_
  exact HR v3 _ _ _ _ (Option.some.inj hf).symm hv3 w dX0_seatAt_51
set_option maxRecDepth 100000 in
set_option maxHeartbeats 4000000 in
theorem b_X0_seatAt_0 (X : CX p s m args c cX0_seatAt 5 RX0 D aC ad sg A H0) {M : Mem} {o : Int} (HR : ∀ (r : Int) (H : Heap) (locs : List Loc) (pc : Nat) (ls : Array Slot), o = r → inR r → WS D aC ad A H0 M H locs → decode cX0_seatAt pc = .ok (.ireturn, 1) → W p l e rm_X0_seatAt s m args below meth c H locs 0 0 Q (F0 m pc ls [.int (i2 r)])) (p1 : Int) (hp1 : inR p1) (p2 : Int) (hp2 : inR p2) (hf : f_X0_seatAt p1 p2 M = some o) {H : Heap} {locs : List Loc} {ls : Array Slot} (hl : lv_has ls 5 [(0, .ref (ad 57)), (1, .int (i2 p1)), (2, .int (i2 p2))]) (w : WS D aC ad A H0 M H locs) : W p l e rm_X0_seatAt s m args below meth c H locs 0 0 Q (F0 m 0 ls []) := by
  have hx := X.1.1
  have hb := X.1.2.1
  unfold f_X0_seatAt at hf
  refine g_iconst X dX0_seatAt_0 ?_
  refine g_istn (v := (-1)) (lv' := [(3, .int (i2 (-1))), (0, .ref (ad 57)), (1, .int (i2 p1)), (2, .int (i2 p2))]) X rfl dX0_seatAt_1 rfl hl (by decide) rfl (fun ls hl => ?_)
  refine g_iconst X dX0_seatAt_2 ?_
  refine g_ist (v := 0) (lv' := [(4, .int (i2 0)), (3, .int (i2 (-1))), (0, .ref (ad 57)), (1, .int (i2 p1)), (2, .int (i2 p2))]) X rfl dX0_seatAt_3 hl (by decide) rfl (fun ls hl => ?_)
  obtain ⟨q, hq, h1⟩ := obn_some hf
  exact l_X0_seatAt_5 X p1 hp1 p2 hp2 (out := q) (fun y3 y4 H locs ls eq hy3 hy4 hl w => b_X0_seatAt_j50 X  HR y3 hy3 (by subst eq; exact h1) (lv_sub hl [3] rfl) w)  FU (-1) 0 hq (inL rfl) (inL rfl) (lv_sub hl [2, 3, 4, 1, 0] rfl) w
set_option maxRecDepth 100000 in
set_option maxHeartbeats 4000000 in
theorem k_X0_seatAt {l : Launch} {D : va_G} {aC : Nat → ClassId} {ad : Nat → Nat} {sg : SG} (hi : Inj ad) (p1 : Int) (hp1 : inR p1) (p2 : Int) (hp2 : inR p2) {M : Mem} (hM : inM M) {r : Int} (hf : f_X0_seatAt p1 p2 M = some r) : MetI l D aC ad sg yX0_seatAt cX0_seatAt 5 (some .int) rm_X0_seatAt 0 0 [.ref (ad 57), .int (i2 p1), .int (i2 p2)] M r M := by
  refine MetI.ofI (by decide +kernel) (nle rfl) hi hM (fun p e s m args below meth c Q H0 ls X hl w hret => ?_)
  exact b_X0_seatAt_0 X  (fun r1 H locs pc ls eo hP w dg => by cases eo; exact hret H locs pc ls hP w dg) p1 hp1 p2 hp2 hf hl w
end
section
variable {p : Program} {l : Launch} {e : Env} {s : State} {m : MethodId} {args : Array Value} {below : List Frame} {meth : Method} {c : Code} {Q : State → Prop} {D : va_G} {aC : Nat → ClassId} {ad : Nat → Nat} {sg : SG} {A : Nat → Prop} {H0 : Heap}
set_option maxRecDepth 100000 in
set_option maxHeartbeats 4000000 in
theorem b_X3_add_0 (X : CX p s m args c cX3_add 2 RX3 D aC ad sg A H0) {o : Int × Mem} (HR : ∀ (r : Int) (M1 : Mem) (H : Heap) (locs : List Loc) (pc : Nat) (ls : Array Slot), o = (r, M1) → inR r → WS D aC ad A H0 M1 H locs → decode cX3_add pc = .ok (.ireturn, 1) → W p l e rm_X3_add s m args below meth c H locs 0 0 Q (F0 m pc ls [.int (i2 r)])) (p1 : Int) (hp1 : inR p1) (M : Mem) (hf : f_X3_add p1 M = some o) {H : Heap} {locs : List Loc} {ls : Array Slot} (hl : lv_has ls 2 [(0, .ref (ad 51)), (1, .int (i2 p1))]) (w : WS D aC ad A H0 M H locs) : W p l e rm_X3_add s m args below meth c H locs 0 0 Q (F0 m 0 ls []) := by
  have hx := X.1.1
  have hb := X.1.2.1
  unfold f_X3_add at hf
  refine lv_aload_n hx hb dX3_add_0 rfl (lv_at hl 0 rfl) ?_
  refine g_geti X w fg_X3_27 KD_51 FR_51_0 dX3_add_1 ?_
  refine g_bipush X dX3_add_4 (by decide) ?_
  refine g_icmp_lt (tgt := 11) X (w.2.2 _ _) (inL rfl) dX3_add_6 (by decide) (fun cd => ?_) (fun cd => ?_)
  · replace hf := ite_t cd hf
    refine lv_aload_n hx hb dX3_add_11 rfl (lv_at hl 0 rfl) ?_
    refine g_getr X w fg_X3_11 KD_51 FR_51_1 dX3_add_12 ?_
    refine lv_aload_n hx hb dX3_add_15 rfl (lv_at hl 0 rfl) ?_
    refine g_geti X w fg_X3_27 KD_51 FR_51_0 dX3_add_16 ?_
    refine lv_iload_n hx hb dX3_add_19 rfl (lv_at hl 1 rfl) ?_
    obtain ⟨hg, hf⟩ := gd_some hf
    obtain ⟨M_2, eM_2, hf⟩ := lt_some hf
    refine g_iast X w KD_52 (w.2.2 _ _) hg hp1 dX3_add_20 (fun H locs w_M_2 => ?_)
    rw [← eM_2] at w_M_2
    refine lv_aload_n hx hb dX3_add_21 rfl (lv_at hl 0 rfl) ?_
    refine lv_dup hx hb dX3_add_22 rfl ?_
    refine g_geti X w_M_2 fg_X3_27 KD_51 FR_51_0 dX3_add_23 ?_
    refine g_iconst X dX3_add_26 ?_
    refine g_iadd X dX3_add_27 ?_
    obtain ⟨M_3, eM_3, hf⟩ := lt_some hf
    refine g_puti X w_M_2 fp_X3_27 KD_51 FR_51_0 (inR_wrap _) dX3_add_28 (fun H locs w_M_3 => ?_)
    rw [← eM_3] at w_M_3
    refine lv_aload_n hx hb dX3_add_31 rfl (lv_at hl 0 rfl) ?_
    refine g_geti X w_M_3 fg_X3_27 KD_51 FR_51_0 dX3_add_32 ?_
    refine g_iconst X dX3_add_35 ?_
    refine g_isub X dX3_add_36 ?_
    exact HR (wrap ((M_3 51 0) - 1)) M_3 _ _ _ _ (Option.some.inj hf).symm (inR_wrap _) w_M_3 dX3_add_37
  · replace hf := ite_f cd hf
    refine g_iconst X dX3_add_9 ?_
    exact HR (-1) M _ _ _ _ (Option.some.inj hf).symm (inL rfl) w dX3_add_10
set_option maxRecDepth 100000 in
set_option maxHeartbeats 4000000 in
theorem k_X3_add {l : Launch} {D : va_G} {aC : Nat → ClassId} {ad : Nat → Nat} {sg : SG} (hi : Inj ad) (p1 : Int) (hp1 : inR p1) {M : Mem} (hM : inM M) {r : Int} {M' : Mem} (hf : f_X3_add p1 M = some (r, M')) : MetI l D aC ad sg yX3_add cX3_add 2 (some .int) rm_X3_add 0 0 [.ref (ad 51), .int (i2 p1)] M r M' := by
  refine MetI.ofI (by decide +kernel) (nle rfl) hi hM (fun p e s m args below meth c Q H0 ls X hl w hret => ?_)
  exact b_X3_add_0 X  (fun r1 M1 H locs pc ls eo hP w dg => by cases eo; exact hret H locs pc ls hP w dg) p1 hp1 M hf hl w
set_option maxRecDepth 100000 in
set_option maxHeartbeats 4000000 in
theorem b_X3_clear_0 (X : CX p s m args c cX3_clear 1 RX3 D aC ad sg A H0) {o : Mem} (HR : ∀ (M1 : Mem) (H : Heap) (locs : List Loc) (pc : Nat) (ls : Array Slot), o = M1 → WS D aC ad A H0 M1 H locs → decode cX3_clear pc = .ok (.return_, 1) → W p l e rm_X3_clear s m args below meth c H locs 0 0 Q (F0 m pc ls [])) (M : Mem) (hf : f_X3_clear M = some o) {H : Heap} {locs : List Loc} {ls : Array Slot} (hl : lv_has ls 1 [(0, .ref (ad 51))]) (w : WS D aC ad A H0 M H locs) : W p l e rm_X3_clear s m args below meth c H locs 0 0 Q (F0 m 0 ls []) := by
  have hx := X.1.1
  have hb := X.1.2.1
  unfold f_X3_clear at hf
  refine lv_aload_n hx hb dX3_clear_0 rfl (lv_at hl 0 rfl) ?_
  refine g_getr X w fg_X3_15 KD_51 FR_51_2 dX3_clear_1 ?_
  refine g_iconst X dX3_clear_4 ?_
  obtain ⟨M_2, hc, hf⟩ := obn_some hf
  refine g_csv (As := [.ref (ad 53), .int (i2 0)]) (rest := []) X w (k_J7_fill_53178 X.2.2.1 53 KA_53 0 (inL rfl) w.2.2 hc) lk_X3_31 ⟨rfl, rfl⟩ ⟨nle rfl, nle rfl⟩ ⟨nle rfl, nle rfl⟩ hl.1 rfl (nle rfl) dX3_clear_5 (fun H locs w_M_2 => ?_)
  exact HR M_2 _ _ _ _ (Option.some.inj hf).symm w_M_2 dX3_clear_8
set_option maxRecDepth 100000 in
set_option maxHeartbeats 4000000 in
theorem k_X3_clear {l : Launch} {D : va_G} {aC : Nat → ClassId} {ad : Nat → Nat} {sg : SG} (hi : Inj ad)  {M : Mem} (hM : inM M) {M' : Mem} (hf : f_X3_clear M = some M') : MetV l D aC ad sg yX3_clear cX3_clear 1 rm_X3_clear 0 0 [.ref (ad 51)] M M' := by
  refine MetV.of (by decide +kernel) (nle rfl) hi hM (fun p e s m args below meth c Q H0 ls X hl w hret => ?_)
  exact b_X3_clear_0 X  (fun M1 H locs pc ls eo w dg => by cases eo; exact hret H locs pc ls w dg) M hf hl w
set_option maxRecDepth 100000 in
set_option maxHeartbeats 4000000 in
theorem b_X3_addNeed_0 (X : CX p s m args c cX3_addNeed 3 RX3 D aC ad sg A H0) {o : Mem} (HR : ∀ (M1 : Mem) (H : Heap) (locs : List Loc) (pc : Nat) (ls : Array Slot), o = M1 → WS D aC ad A H0 M1 H locs → decode cX3_addNeed pc = .ok (.return_, 1) → W p l e rm_X3_addNeed s m args below meth c H locs 0 0 Q (F0 m pc ls [])) (p1 : Int) (hp1 : inR p1) (p2 : Int) (hp2 : inR p2) (M : Mem) (hf : f_X3_addNeed p1 p2 M = some o) {H : Heap} {locs : List Loc} {ls : Array Slot} (hl : lv_has ls 3 [(0, .ref (ad 51)), (1, .int (i2 p1)), (2, .int (i2 p2))]) (w : WS D aC ad A H0 M H locs) : W p l e rm_X3_addNeed s m args below meth c H locs 0 0 Q (F0 m 0 ls []) := by
  have hx := X.1.1
  have hb := X.1.2.1
  unfold f_X3_addNeed at hf
  refine lv_iload_n hx hb dX3_addNeed_0 rfl (lv_at hl 1 rfl) ?_
  refine g_if_lt (tgt := 19) X hp1 dX3_addNeed_1 (by decide) (fun cd => ?_) (fun cd => ?_)
  · replace hf := ite_t cd hf
    exact HR M _ _ _ _ (Option.some.inj hf).symm w dX3_addNeed_19
  · replace hf := ite_f cd hf
    refine lv_iload_n hx hb dX3_addNeed_4 rfl (lv_at hl 1 rfl) ?_
    refine g_iconst X dX3_addNeed_5 ?_
    refine g_icmp_ge (tgt := 19) X hp1 (inL rfl) dX3_addNeed_6 (by decide) (fun cd_2 => ?_) (fun cd_2 => ?_)
    · replace hf := ite_t cd_2 hf
      exact HR M _ _ _ _ (Option.some.inj hf).symm w dX3_addNeed_19
    · replace hf := ite_f cd_2 hf
      refine lv_aload_n hx hb dX3_addNeed_9 rfl (lv_at hl 0 rfl) ?_
      refine g_getr X w fg_X3_15 KD_51 FR_51_2 dX3_addNeed_10 ?_
      refine lv_iload_n hx hb dX3_addNeed_13 rfl (lv_at hl 1 rfl) ?_
      refine lv_dup2_11 hx hb dX3_addNeed_14 rfl rfl ?_
      obtain ⟨hg, hf⟩ := gd_some hf
      refine g_iald X w KD_53 hp1 hg dX3_addNeed_15 ?_
      refine lv_iload_n hx hb dX3_addNeed_16 rfl (lv_at hl 2 rfl) ?_
      refine g_iadd X dX3_addNeed_17 ?_
      obtain ⟨hg_2, hf⟩ := gd_some hf
      obtain ⟨M_2, eM_2, hf⟩ := lt_some hf
      refine g_iast X w KD_53 hp1 hg_2 (inR_wrap _) dX3_addNeed_18 (fun H locs w_M_2 => ?_)
      rw [← eM_2] at w_M_2
      exact HR M_2 _ _ _ _ (Option.some.inj hf).symm w_M_2 dX3_addNeed_19
set_option maxRecDepth 100000 in
set_option maxHeartbeats 4000000 in
theorem k_X3_addNeed {l : Launch} {D : va_G} {aC : Nat → ClassId} {ad : Nat → Nat} {sg : SG} (hi : Inj ad) (p1 : Int) (hp1 : inR p1) (p2 : Int) (hp2 : inR p2) {M : Mem} (hM : inM M) {M' : Mem} (hf : f_X3_addNeed p1 p2 M = some M') : MetV l D aC ad sg yX3_addNeed cX3_addNeed 3 rm_X3_addNeed 0 0 [.ref (ad 51), .int (i2 p1), .int (i2 p2)] M M' := by
  refine MetV.of (by decide +kernel) (nle rfl) hi hM (fun p e s m args below meth c Q H0 ls X hl w hret => ?_)
  exact b_X3_addNeed_0 X  (fun M1 H locs pc ls eo w dg => by cases eo; exact hret H locs pc ls w dg) p1 hp1 p2 hp2 M hf hl w
set_option maxRecDepth 100000 in
set_option maxHeartbeats 4000000 in
theorem b_X3_lackOfWay_s24 (X : CX p s m args c cX3_lackOfWay 6 RX3 D aC ad sg A H0) (v2 : Int) (hv2 : inR v2) {o : (Int × Int × Mem) ⊕ (Int × Int × Mem)} (HC : ∀ (y3 : Int) (y4 : Int) (M1 : Mem) (H : Heap) (locs : List Loc) (ls : Array Slot), o = .inl (y3, y4, M1) → inR y3 → inR y4 → lv_has ls 6 [(0, .ref (ad 51)), (2, .int (i2 v2)), (3, .int (i2 y3)), (4, .int (i2 y4))] → WS D aC ad A H0 M1 H locs → W p l e rm_X3_lackOfWay s m args below meth c H locs 0 0 Q (F0 m 24 ls [])) (HE : ∀ (y3 : Int) (y4 : Int) (M1 : Mem) (H : Heap) (locs : List Loc) (ls : Array Slot), o = .inr (y3, y4, M1) → inR y3 → inR y4 → lv_has ls 6 [(0, .ref (ad 51)), (2, .int (i2 v2)), (3, .int (i2 y3)), (4, .int (i2 y4))] → WS D aC ad A H0 M1 H locs → W p l e rm_X3_lackOfWay s m args below meth c H locs 0 0 Q (F0 m 74 ls [])) (v3 : Int) (hv3 : inR v3) (v4 : Int) (hv4 : inR v4) (M : Mem) (hf : f_X3_lackOfWay_s24 v2 v3 v4 M = some o) {H : Heap} {locs : List Loc} {ls : Array Slot} (hl : lv_has ls 6 [(0, .ref (ad 51)), (2, .int (i2 v2)), (3, .int (i2 v3)), (4, .int (i2 v4))]) (w : WS D aC ad A H0 M H locs) : W p l e rm_X3_lackOfWay s m args below meth c H locs 0 0 Q (F0 m 24 ls []) := by
  have hx := X.1.1
  have hb := X.1.2.1
  unfold f_X3_lackOfWay_s24 at hf
  refine lv_iload hx hb dX3_lackOfWay_24 (lv_at hl 3 rfl) ?_
  refine g_if_lt (tgt := 74) X hv4 dX3_lackOfWay_26 (by decide) (fun cd => ?_) (fun cd => ?_)
  · replace hf := ite_t cd hf
    exact HE v3 v4 M _ _ _ (Option.some.inj hf).symm hv3 hv4 hl w
  · replace hf := ite_f cd hf
    refine lv_iload_n hx hb dX3_lackOfWay_29 rfl (lv_at hl 1 rfl) ?_
    refine g_if_le (tgt := 74) X hv2 dX3_lackOfWay_30 (by decide) (fun cd_2 => ?_) (fun cd_2 => ?_)
    · replace hf := ite_t cd_2 hf
      exact HE v3 v4 M _ _ _ (Option.some.inj hf).symm hv3 hv4 hl w
    · replace hf := ite_f cd_2 hf
      refine lv_iload_n hx hb dX3_lackOfWay_33 rfl (lv_at hl 2 rfl) ?_
      refine lv_iload_n hx hb dX3_lackOfWay_34 rfl (lv_at hl 1 rfl) ?_
      obtain ⟨hg, hf⟩ := gd_some hf
      refine g_irem X hv2 hg dX3_lackOfWay_35 ?_
      obtain ⟨v5, ev5, hf⟩ := lt_some hf
      have hv5 : inR v5 := inR_of ev5 (inR_toInt _)
      refine g_ist (v := v5) (lv' := [(5, .int (i2 v5)), (0, .ref (ad 51)), (2, .int (i2 v2)), (3, .int (i2 v3)), (4, .int (i2 v4))]) X ev5 dX3_lackOfWay_36 hl (by decide) rfl (fun ls hl => ?_)
      refine lv_iload_n hx hb dX3_lackOfWay_38 rfl (lv_at hl 3 rfl) ?_
      refine lv_iload_n hx hb dX3_lackOfWay_39 rfl (lv_at hl 2 rfl) ?_
      obtain ⟨hg_2, hf⟩ := gd_some hf
      refine g_idiv X hv2 hg_2 dX3_lackOfWay_40 ?_
      obtain ⟨v3_2, ev3_2, hf⟩ := lt_some hf
      have hv3_2 : inR v3_2 := inR_of ev3_2 (inR_toInt _)
      refine g_istn (v := v3_2) (lv' := [(3, .int (i2 v3_2)), (5, .int (i2 v5)), (0, .ref (ad 51)), (2, .int (i2 v2)), (4, .int (i2 v4))]) X ev3_2 dX3_lackOfWay_41 rfl hl (by decide) rfl (fun ls hl => ?_)
      refine lv_aload_n hx hb dX3_lackOfWay_42 rfl (lv_at hl 2 rfl) ?_
      refine g_getr X w fg_X3_21 KD_51 FR_51_4 dX3_lackOfWay_43 ?_
      refine lv_iload hx hb dX3_lackOfWay_46 (lv_at hl 4 rfl) ?_
      refine lv_iload hx hb dX3_lackOfWay_48 (lv_at hl 1 rfl) ?_
      obtain ⟨hg_3, hf⟩ := gd_some hf
      obtain ⟨M_2, eM_2, hf⟩ := lt_some hf
      refine g_iast X w KD_55 hv4 hg_3 hv5 dX3_lackOfWay_50 (fun H locs w_M_2 => ?_)
      rw [← eM_2] at w_M_2
      refine lv_aload_n hx hb dX3_lackOfWay_51 rfl (lv_at hl 2 rfl) ?_
      refine g_getr X w_M_2 fg_X3_18 KD_51 FR_51_3 dX3_lackOfWay_52 ?_
      refine lv_iload hx hb dX3_lackOfWay_55 (lv_at hl 1 rfl) ?_
      refine lv_dup2_11 hx hb dX3_lackOfWay_57 rfl rfl ?_
      obtain ⟨hg_4, hf⟩ := gd_some hf
      refine g_iald X w_M_2 KD_54 hv5 hg_4 dX3_lackOfWay_58 ?_
      refine lv_aload_n hx hb dX3_lackOfWay_59 rfl (lv_at hl 2 rfl) ?_
      refine g_getr X w_M_2 fg_X3_11 KD_51 FR_51_1 dX3_lackOfWay_60 ?_
      refine lv_iload hx hb dX3_lackOfWay_63 (lv_at hl 4 rfl) ?_
      obtain ⟨hg_5, hf⟩ := gd_some hf
      refine g_iald X w_M_2 KD_52 hv4 hg_5 dX3_lackOfWay_65 ?_
      refine g_isub X dX3_lackOfWay_66 ?_
      obtain ⟨hg_6, hf⟩ := gd_some hf
      obtain ⟨M_3, eM_3, hf⟩ := lt_some hf
      refine g_iast X w_M_2 KD_54 hv5 hg_6 (inR_wrap _) dX3_lackOfWay_67 (fun H locs w_M_3 => ?_)
      rw [← eM_3] at w_M_3
      obtain ⟨v4_2, ev4_2, hf⟩ := lt_some hf
      have hv4_2 : inR v4_2 := inR_of ev4_2 (inR_wrap _)
      refine lv_iinc (v := i2 v4_2) (lv' := [(4, .int (i2 v4_2)), (3, .int (i2 v3_2)), (5, .int (i2 v5)), (0, .ref (ad 51)), (2, .int (i2 v2))]) hx hb dX3_lackOfWay_68 hl (k := 4) rfl (by rw [ev4_2]; exact i2_add _ _) (by decide) rfl (fun ls hl => ?_)
      refine lv_goto (tgt := 24) hx hb dX3_lackOfWay_71 (by decide) ?_
      exact HC v3_2 v4_2 M_3 _ _ _ (Option.some.inj hf).symm hv3_2 hv4_2 (lv_sub hl [3, 4, 1, 0] rfl) w_M_3
set_option maxRecDepth 100000 in
set_option maxHeartbeats 4000000 in
theorem l_X3_lackOfWay_24 (X : CX p s m args c cX3_lackOfWay 6 RX3 D aC ad sg A H0) (v2 : Int) (hv2 : inR v2) {out : Int × Int × Mem} (HE : ∀ (y3 : Int) (y4 : Int) (M1 : Mem) (H : Heap) (locs : List Loc) (ls : Array Slot), out = (y3, y4, M1) → inR y3 → inR y4 → lv_has ls 6 [(0, .ref (ad 51)), (2, .int (i2 v2)), (3, .int (i2 y3)), (4, .int (i2 y4))] → WS D aC ad A H0 M1 H locs → W p l e rm_X3_lackOfWay s m args below meth c H locs 0 0 Q (F0 m 74 ls [])) : ∀ (n : Nat) (v3 : Int) (v4 : Int) (M : Mem), whl (fun s => f_X3_lackOfWay_s24 v2 s.1 s.2.1 s.2.2) n (v3, v4, M) = some out → inR v3 → inR v4 → ∀ {H : Heap} {locs : List Loc} {ls : Array Slot}, lv_has ls 6 [(0, .ref (ad 51)), (2, .int (i2 v2)), (3, .int (i2 v3)), (4, .int (i2 v4))] → WS D aC ad A H0 M H locs → W p l e rm_X3_lackOfWay s m args below meth c H locs 0 0 Q (F0 m 24 ls []) := by
  intro n
  induction n with
  | zero => intro v3 v4 M hf; exact (whl_zero hf).elim
  | succ n ih =>
    intro v3 v4 M hf hv3 hv4 H locs ls hl w
    obtain ⟨o, hf, hk1, hk2⟩ := whl_step hf
    exact b_X3_lackOfWay_s24 X v2 hv2 (fun y3 y4 M1 H locs ls eo hy3 hy4 hl w => ih y3 y4 M1 (hk1 _ eo) hy3 hy4 hl w) (fun y3 y4 M1 H locs ls eo hy3 hy4 hl w => HE y3 y4 M1 H locs ls (hk2 _ eo).symm hy3 hy4 hl w) v3 hv3 v4 hv4 M hf hl w
set_option maxRecDepth 100000 in
set_option maxHeartbeats 4000000 in
theorem b_X3_lackOfWay_s80 (X : CX p s m args c cX3_lackOfWay 6 RX3 D aC ad sg A H0) {M : Mem} {o : (Int × Int) ⊕ (Int × Int)} (HC : ∀ (y4 : Int) (y5 : Int) (H : Heap) (locs : List Loc) (ls : Array Slot), o = .inl (y4, y5) → inR y4 → inR y5 → lv_has ls 6 [(0, .ref (ad 51)), (4, .int (i2 y4)), (5, .int (i2 y5))] → WS D aC ad A H0 M H locs → W p l e rm_X3_lackOfWay s m args below meth c H locs 0 0 Q (F0 m 80 ls [])) (HE : ∀ (y4 : Int) (y5 : Int) (H : Heap) (locs : List Loc) (ls : Array Slot), o = .inr (y4, y5) → inR y4 → inR y5 → lv_has ls 6 [(0, .ref (ad 51)), (4, .int (i2 y4)), (5, .int (i2 y5))] → WS D aC ad A H0 M H locs → W p l e rm_X3_lackOfWay s m args below meth c H locs 0 0 Q (F0 m 108 ls [])) (v4 : Int) (hv4 : inR v4) (v5 : Int) (hv5 : inR v5) (hf : f_X3_lackOfWay_s80 M v4 v5 = some o) {H : Heap} {locs : List Loc} {ls : Array Slot} (hl : lv_has ls 6 [(0, .ref (ad 51)), (4, .int (i2 v4)), (5, .int (i2 v5))]) (w : WS D aC ad A H0 M H locs) : W p l e rm_X3_lackOfWay s m args below meth c H locs 0 0 Q (F0 m 80 ls []) := by
  have hx := X.1.1
  have hb := X.1.2.1
  unfold f_X3_lackOfWay_s80 at hf
  refine lv_iload hx hb dX3_lackOfWay_80 (lv_at hl 2 rfl) ?_
  refine g_iconst X dX3_lackOfWay_82 ?_
  refine g_icmp_ge (tgt := 108) X hv5 (inL rfl) dX3_lackOfWay_83 (by decide) (fun cd => ?_) (fun cd => ?_)
  · replace hf := ite_t cd hf
    exact HE v4 v5 _ _ _ (Option.some.inj hf).symm hv4 hv5 hl w
  · replace hf := ite_f cd hf
    refine lv_iload hx hb dX3_lackOfWay_86 (lv_at hl 1 rfl) ?_
    refine g_iconst X dX3_lackOfWay_88 ?_
    refine lv_aload_n hx hb dX3_lackOfWay_89 rfl (lv_at hl 0 rfl) ?_
    refine g_getr X w fg_X3_18 KD_51 FR_51_3 dX3_lackOfWay_90 ?_
    refine lv_iload hx hb dX3_lackOfWay_93 (lv_at hl 2 rfl) ?_
    obtain ⟨hg, hf⟩ := gd_some hf
    refine g_iald X w KD_54 hv5 hg dX3_lackOfWay_95 ?_
    refine g_max X (inL rfl) (w.2.2 _ _) hl.1 mw_X3_50 ⟨nle rfl, nle rfl⟩ (nle rfl) (nle rfl) (nle rfl) dX3_lackOfWay_96 ?_
    refine g_iadd X dX3_lackOfWay_99 ?_
    obtain ⟨v4_2, ev4_2, hf⟩ := lt_some hf
    have hv4_2 : inR v4_2 := inR_of ev4_2 (inR_wrap _)
    refine g_ist (v := v4_2) (lv' := [(4, .int (i2 v4_2)), (0, .ref (ad 51)), (5, .int (i2 v5))]) X ev4_2 dX3_lackOfWay_100 hl (by decide) rfl (fun ls hl => ?_)
    obtain ⟨v5_2, ev5_2, hf⟩ := lt_some hf
    have hv5_2 : inR v5_2 := inR_of ev5_2 (inR_wrap _)
    refine lv_iinc (v := i2 v5_2) (lv' := [(5, .int (i2 v5_2)), (4, .int (i2 v4_2)), (0, .ref (ad 51))]) hx hb dX3_lackOfWay_102 hl (k := 2) rfl (by rw [ev5_2]; exact i2_add _ _) (by decide) rfl (fun ls hl => ?_)
    refine lv_goto (tgt := 80) hx hb dX3_lackOfWay_105 (by decide) ?_
    exact HC v4_2 v5_2 _ _ _ (Option.some.inj hf).symm hv4_2 hv5_2 (lv_sub hl [2, 1, 0] rfl) w
set_option maxRecDepth 100000 in
set_option maxHeartbeats 4000000 in
theorem l_X3_lackOfWay_80 (X : CX p s m args c cX3_lackOfWay 6 RX3 D aC ad sg A H0) {M : Mem} {out : Int × Int} (HE : ∀ (y4 : Int) (y5 : Int) (H : Heap) (locs : List Loc) (ls : Array Slot), out = (y4, y5) → inR y4 → inR y5 → lv_has ls 6 [(0, .ref (ad 51)), (4, .int (i2 y4)), (5, .int (i2 y5))] → WS D aC ad A H0 M H locs → W p l e rm_X3_lackOfWay s m args below meth c H locs 0 0 Q (F0 m 108 ls [])) : ∀ (n : Nat) (v4 : Int) (v5 : Int), whl (fun s => f_X3_lackOfWay_s80 M s.1 s.2) n (v4, v5) = some out → inR v4 → inR v5 → ∀ {H : Heap} {locs : List Loc} {ls : Array Slot}, lv_has ls 6 [(0, .ref (ad 51)), (4, .int (i2 v4)), (5, .int (i2 v5))] → WS D aC ad A H0 M H locs → W p l e rm_X3_lackOfWay s m args below meth c H locs 0 0 Q (F0 m 80 ls []) := by
  intro n
  induction n with
  | zero => intro v4 v5 hf; exact (whl_zero hf).elim
  | succ n ih =>
    intro v4 v5 hf hv4 hv5 H locs ls hl w
    obtain ⟨o, hf, hk1, hk2⟩ := whl_step hf
    exact b_X3_lackOfWay_s80 X  (fun y4 y5 H locs ls eo hy4 hy5 hl w => ih y4 y5 (hk1 _ eo) hy4 hy5 hl w) (fun y4 y5 H locs ls eo hy4 hy5 hl w => HE y4 y5 H locs ls (hk2 _ eo).symm hy4 hy5 hl w) v4 hv4 v5 hv5 hf hl w
set_option maxRecDepth 100000 in
set_option maxHeartbeats 4000000 in
theorem b_X3_lackOfWay_j108 (X : CX p s m args c cX3_lackOfWay 6 RX3 D aC ad sg A H0) {o : Int × Mem} (HR : ∀ (r : Int) (M1 : Mem) (H : Heap) (locs : List Loc) (pc : Nat) (ls : Array Slot), o = (r, M1) → inR r → WS D aC ad A H0 M1 H locs → decode cX3_lackOfWay pc = .ok (.ireturn, 1) → W p l e rm_X3_lackOfWay s m args below meth c H locs 0 0 Q (F0 m pc ls [.int (i2 r)])) (v4 : Int) (hv4 : inR v4) (M : Mem) (hf : f_X3_lackOfWay_j108 v4 M = some o) {H : Heap} {locs : List Loc} {ls : Array Slot} (hl : lv_has ls 6 [(4, .int (i2 v4))]) (w : WS D aC ad A H0 M H locs) : W p l e rm_X3_lackOfWay s m args below meth c H locs 0 0 Q (F0 m 108 ls []) := by
  have hx := X.1.1
  have hb := X.1.2.1
  unfold f_X3_lackOfWay_j108 at hf
  refine lv_iload hx hb dX3_lackOfWay_108 (lv_at hl 0 rfl) ?_
  exact HR v4 M _ _ _ _ (Option.some.inj hf).symm hv4 w dX3_lackOfWay_110
set_option maxRecDepth 100000 in
set_option maxHeartbeats 4000000 in
theorem b_X3_lackOfWay_j74 (X : CX p s m args c cX3_lackOfWay 6 RX3 D aC ad sg A H0) {o : Int × Mem} (HR : ∀ (r : Int) (M1 : Mem) (H : Heap) (locs : List Loc) (pc : Nat) (ls : Array Slot), o = (r, M1) → inR r → WS D aC ad A H0 M1 H locs → decode cX3_lackOfWay pc = .ok (.ireturn, 1) → W p l e rm_X3_lackOfWay s m args below meth c H locs 0 0 Q (F0 m pc ls [.int (i2 r)])) (M : Mem) (hf : f_X3_lackOfWay_j74 M = some o) {H : Heap} {locs : List Loc} {ls : Array Slot} (hl : lv_has ls 6 [(0, .ref (ad 51))]) (w : WS D aC ad A H0 M H locs) : W p l e rm_X3_lackOfWay s m args below meth c H locs 0 0 Q (F0 m 74 ls []) := by
  have hx := X.1.1
  have hb := X.1.2.1
  unfold f_X3_lackOfWay_j74 at hf
  refine g_iconst X dX3_lackOfWay_74 ?_
  refine g_ist (v := 0) (lv' := [(4, .int (i2 0)), (0, .ref (ad 51))]) X rfl dX3_lackOfWay_75 hl (by decide) rfl (fun ls hl => ?_)
  refine g_iconst X dX3_lackOfWay_77 ?_
  refine g_ist (v := 0) (lv' := [(5, .int (i2 0)), (4, .int (i2 0)), (0, .ref (ad 51))]) X rfl dX3_lackOfWay_78 hl (by decide) rfl (fun ls hl => ?_)
  obtain ⟨q, hq, h1⟩ := obn_some hf
  exact l_X3_lackOfWay_80 X  (out := q) (fun y4 y5 H locs ls eq hy4 hy5 hl w => b_X3_lackOfWay_j108 X  HR y4 hy4 M (by subst eq; exact h1) (lv_sub hl [1] rfl) w)  FU 0 0 hq (inL rfl) (inL rfl) (lv_sub hl [2, 1, 0] rfl) w
set_option maxRecDepth 100000 in
set_option maxHeartbeats 4000000 in
theorem b_X3_lackOfWay_0 (X : CX p s m args c cX3_lackOfWay 6 RX3 D aC ad sg A H0) {o : Int × Mem} (HR : ∀ (r : Int) (M1 : Mem) (H : Heap) (locs : List Loc) (pc : Nat) (ls : Array Slot), o = (r, M1) → inR r → WS D aC ad A H0 M1 H locs → decode cX3_lackOfWay pc = .ok (.ireturn, 1) → W p l e rm_X3_lackOfWay s m args below meth c H locs 0 0 Q (F0 m pc ls [.int (i2 r)])) (p1 : Int) (hp1 : inR p1) (p2 : Int) (hp2 : inR p2) (M : Mem) (hf : f_X3_lackOfWay p1 p2 M = some o) {H : Heap} {locs : List Loc} {ls : Array Slot} (hl : lv_has ls 6 [(0, .ref (ad 51)), (1, .int (i2 p1)), (2, .int (i2 p2))]) (w : WS D aC ad A H0 M H locs) : W p l e rm_X3_lackOfWay s m args below meth c H locs 0 0 Q (F0 m 0 ls []) := by
  have hx := X.1.1
  have hb := X.1.2.1
  unfold f_X3_lackOfWay at hf
  refine lv_aload_n hx hb dX3_lackOfWay_0 rfl (lv_at hl 0 rfl) ?_
  refine g_getr X w fg_X3_15 KD_51 FR_51_2 dX3_lackOfWay_1 ?_
  refine g_iconst X dX3_lackOfWay_4 ?_
  refine lv_aload_n hx hb dX3_lackOfWay_5 rfl (lv_at hl 0 rfl) ?_
  refine g_getr X w fg_X3_18 KD_51 FR_51_3 dX3_lackOfWay_6 ?_
  refine g_iconst X dX3_lackOfWay_9 ?_
  refine g_iconst X dX3_lackOfWay_10 ?_
  obtain ⟨hg, hf⟩ := gd_some hf
  obtain ⟨M_2, eM_2, hf⟩ := lt_some hf
  refine g_copy X w KD_53 KD_54 (inL rfl) (inL rfl) (inL rfl) hg hl.1 aw_X3_44 ⟨nle rfl, nle rfl⟩ (nle rfl) dX3_lackOfWay_11 (fun H locs w_M_2 => ?_)
  rw [← eM_2] at w_M_2
  refine lv_iload_n hx hb dX3_lackOfWay_14 rfl (lv_at hl 1 rfl) ?_
  refine g_istn (v := p1) (lv' := [(3, .int (i2 p1)), (0, .ref (ad 51)), (1, .int (i2 p1)), (2, .int (i2 p2))]) X rfl dX3_lackOfWay_15 rfl hl (by decide) rfl (fun ls hl => ?_)
  refine lv_aload_n hx hb dX3_lackOfWay_16 rfl (lv_at hl 1 rfl) ?_
  refine g_geti X w_M_2 fg_X3_27 KD_51 FR_51_0 dX3_lackOfWay_17 ?_
  refine g_iconst X dX3_lackOfWay_20 ?_
  refine g_isub X dX3_lackOfWay_21 ?_
  obtain ⟨v4, ev4, hf⟩ := lt_some hf
  have hv4 : inR v4 := inR_of ev4 (inR_wrap _)
  refine g_ist (v := v4) (lv' := [(4, .int (i2 v4)), (3, .int (i2 p1)), (0, .ref (ad 51)), (1, .int (i2 p1)), (2, .int (i2 p2))]) X ev4 dX3_lackOfWay_22 hl (by decide) rfl (fun ls hl => ?_)
  obtain ⟨q, hq, h1⟩ := obn_some hf
  exact l_X3_lackOfWay_24 X p2 hp2 (out := q) (fun y3 y4 M1 H locs ls eq hy3 hy4 hl w => b_X3_lackOfWay_j74 X  HR M1 (by subst eq; exact h1) (lv_sub hl [0] rfl) w)  FU p1 v4 M_2 hq hp1 hv4 (lv_sub hl [2, 4, 1, 0] rfl) w_M_2
set_option maxRecDepth 100000 in
set_option maxHeartbeats 4000000 in
theorem k_X3_lackOfWay {l : Launch} {D : va_G} {aC : Nat → ClassId} {ad : Nat → Nat} {sg : SG} (hi : Inj ad) (p1 : Int) (hp1 : inR p1) (p2 : Int) (hp2 : inR p2) {M : Mem} (hM : inM M) {r : Int} {M' : Mem} (hf : f_X3_lackOfWay p1 p2 M = some (r, M')) : MetI l D aC ad sg yX3_lackOfWay cX3_lackOfWay 6 (some .int) rm_X3_lackOfWay 0 0 [.ref (ad 51), .int (i2 p1), .int (i2 p2)] M r M' := by
  refine MetI.ofI (by decide +kernel) (nle rfl) hi hM (fun p e s m args below meth c Q H0 ls X hl w hret => ?_)
  exact b_X3_lackOfWay_0 X  (fun r1 M1 H locs pc ls eo hP w dg => by cases eo; exact hret H locs pc ls hP w dg) p1 hp1 p2 hp2 M hf hl w
set_option maxRecDepth 100000 in
set_option maxHeartbeats 4000000 in
theorem b_X3_divide_s4 (X : CX p s m args c cX3_divide 5 RX3 D aC ad sg A H0) (v1 : Int) (hv1 : inR v1) {M : Mem} {o : (Int × Int) ⊕ (Int × Int)} (HC : ∀ (y2 : Int) (y3 : Int) (H : Heap) (locs : List Loc) (ls : Array Slot), o = .inl (y2, y3) → inR y2 → inR y3 → lv_has ls 5 [(0, .ref (ad 51)), (1, .int (i2 v1)), (2, .int (i2 y2)), (3, .int (i2 y3))] → WS D aC ad A H0 M H locs → W p l e rm_X3_divide s m args below meth c H locs 0 0 Q (F0 m 4 ls [])) (HE : ∀ (y2 : Int) (y3 : Int) (H : Heap) (locs : List Loc) (ls : Array Slot), o = .inr (y2, y3) → inR y2 → inR y3 → lv_has ls 5 [(0, .ref (ad 51)), (1, .int (i2 v1)), (2, .int (i2 y2)), (3, .int (i2 y3))] → WS D aC ad A H0 M H locs → W p l e rm_X3_divide s m args below meth c H locs 0 0 Q (F0 m 22 ls [])) (v2 : Int) (hv2 : inR v2) (v3 : Int) (hv3 : inR v3) (hf : f_X3_divide_s4 v1 M v2 v3 = some o) {H : Heap} {locs : List Loc} {ls : Array Slot} (hl : lv_has ls 5 [(0, .ref (ad 51)), (1, .int (i2 v1)), (2, .int (i2 v2)), (3, .int (i2 v3))]) (w : WS D aC ad A H0 M H locs) : W p l e rm_X3_divide s m args below meth c H locs 0 0 Q (F0 m 4 ls []) := by
  have hx := X.1.1
  have hb := X.1.2.1
  unfold f_X3_divide_s4 at hf
  refine lv_iload_n hx hb dX3_divide_4 rfl (lv_at hl 3 rfl) ?_
  refine lv_aload_n hx hb dX3_divide_5 rfl (lv_at hl 0 rfl) ?_
  refine g_geti X w fg_X3_27 KD_51 FR_51_0 dX3_divide_6 ?_
  refine g_icmp_ge (tgt := 22) X hv3 (w.2.2 _ _) dX3_divide_9 (by decide) (fun cd => ?_) (fun cd => ?_)
  · replace hf := ite_t cd hf
    exact HE v2 v3 _ _ _ (Option.some.inj hf).symm hv2 hv3 hl w
  · replace hf := ite_f cd hf
    refine lv_iload_n hx hb dX3_divide_12 rfl (lv_at hl 2 rfl) ?_
    refine lv_iload_n hx hb dX3_divide_13 rfl (lv_at hl 1 rfl) ?_
    refine g_imul X dX3_divide_14 ?_
    obtain ⟨v2_2, ev2_2, hf⟩ := lt_some hf
    have hv2_2 : inR v2_2 := inR_of ev2_2 (inR_wrap _)
    refine g_istn (v := v2_2) (lv' := [(2, .int (i2 v2_2)), (0, .ref (ad 51)), (1, .int (i2 v1)), (3, .int (i2 v3))]) X ev2_2 dX3_divide_15 rfl hl (by decide) rfl (fun ls hl => ?_)
    obtain ⟨v3_2, ev3_2, hf⟩ := lt_some hf
    have hv3_2 : inR v3_2 := inR_of ev3_2 (inR_wrap _)
    refine lv_iinc (v := i2 v3_2) (lv' := [(3, .int (i2 v3_2)), (2, .int (i2 v2_2)), (0, .ref (ad 51)), (1, .int (i2 v1))]) hx hb dX3_divide_16 hl (k := 3) rfl (by rw [ev3_2]; exact i2_add _ _) (by decide) rfl (fun ls hl => ?_)
    refine lv_goto (tgt := 4) hx hb dX3_divide_19 (by decide) ?_
    exact HC v2_2 v3_2 _ _ _ (Option.some.inj hf).symm hv2_2 hv3_2 (lv_sub hl [2, 3, 1, 0] rfl) w
set_option maxRecDepth 100000 in
set_option maxHeartbeats 4000000 in
theorem l_X3_divide_4 (X : CX p s m args c cX3_divide 5 RX3 D aC ad sg A H0) (v1 : Int) (hv1 : inR v1) {M : Mem} {out : Int × Int} (HE : ∀ (y2 : Int) (y3 : Int) (H : Heap) (locs : List Loc) (ls : Array Slot), out = (y2, y3) → inR y2 → inR y3 → lv_has ls 5 [(0, .ref (ad 51)), (1, .int (i2 v1)), (2, .int (i2 y2)), (3, .int (i2 y3))] → WS D aC ad A H0 M H locs → W p l e rm_X3_divide s m args below meth c H locs 0 0 Q (F0 m 22 ls [])) : ∀ (n : Nat) (v2 : Int) (v3 : Int), whl (fun s => f_X3_divide_s4 v1 M s.1 s.2) n (v2, v3) = some out → inR v2 → inR v3 → ∀ {H : Heap} {locs : List Loc} {ls : Array Slot}, lv_has ls 5 [(0, .ref (ad 51)), (1, .int (i2 v1)), (2, .int (i2 v2)), (3, .int (i2 v3))] → WS D aC ad A H0 M H locs → W p l e rm_X3_divide s m args below meth c H locs 0 0 Q (F0 m 4 ls []) := by
  intro n
  induction n with
  | zero => intro v2 v3 hf; exact (whl_zero hf).elim
  | succ n ih =>
    intro v2 v3 hf hv2 hv3 H locs ls hl w
    obtain ⟨o, hf, hk1, hk2⟩ := whl_step hf
    exact b_X3_divide_s4 X v1 hv1 (fun y2 y3 H locs ls eo hy2 hy3 hl w => ih y2 y3 (hk1 _ eo) hy2 hy3 hl w) (fun y2 y3 H locs ls eo hy2 hy3 hl w => HE y2 y3 H locs ls (hk2 _ eo).symm hy2 hy3 hl w) v2 hv2 v3 hv3 hf hl w
set_option maxRecDepth 100000 in
set_option maxHeartbeats 4000000 in
theorem b_X3_divide_s24 (X : CX p s m args c cX3_divide 5 RX3 D aC ad sg A H0) (v1 : Int) (hv1 : inR v1) (v2 : Int) (hv2 : inR v2) {o : (Int × Mem) ⊕ (Int × Mem)} (HC : ∀ (y3 : Int) (M1 : Mem) (H : Heap) (locs : List Loc) (ls : Array Slot), o = .inl (y3, M1) → inR y3 → lv_has ls 5 [(0, .ref (ad 51)), (1, .int (i2 v1)), (2, .int (i2 v2)), (3, .int (i2 y3))] → WS D aC ad A H0 M1 H locs → W p l e rm_X3_divide s m args below meth c H locs 0 0 Q (F0 m 24 ls [])) (HE : ∀ (y3 : Int) (M1 : Mem) (H : Heap) (locs : List Loc) (ls : Array Slot), o = .inr (y3, M1) → inR y3 → lv_has ls 5 [(0, .ref (ad 51)), (1, .int (i2 v1)), (2, .int (i2 v2)), (3, .int (i2 y3))] → WS D aC ad A H0 M1 H locs → W p l e rm_X3_divide s m args below meth c H locs 0 0 Q (F0 m 79 ls [])) (v3 : Int) (hv3 : inR v3) (M : Mem) (hf : f_X3_divide_s24 v1 v2 v3 M = some o) {H : Heap} {locs : List Loc} {ls : Array Slot} (hl : lv_has ls 5 [(0, .ref (ad 51)), (1, .int (i2 v1)), (2, .int (i2 v2)), (3, .int (i2 v3))]) (w : WS D aC ad A H0 M H locs) : W p l e rm_X3_divide s m args below meth c H locs 0 0 Q (F0 m 24 ls []) := by
  have hx := X.1.1
  have hb := X.1.2.1
  unfold f_X3_divide_s24 at hf
  refine lv_iload_n hx hb dX3_divide_24 rfl (lv_at hl 3 rfl) ?_
  refine lv_iload_n hx hb dX3_divide_25 rfl (lv_at hl 2 rfl) ?_
  refine g_icmp_ge (tgt := 79) X hv3 hv2 dX3_divide_26 (by decide) (fun cd => ?_) (fun cd => ?_)
  · replace hf := ite_t cd hf
    exact HE v3 M _ _ _ (Option.some.inj hf).symm hv3 hl w
  · replace hf := ite_f cd hf
    refine lv_aload_n hx hb dX3_divide_29 rfl (lv_at hl 0 rfl) ?_
    refine lv_iload_n hx hb dX3_divide_30 rfl (lv_at hl 3 rfl) ?_
    refine lv_iload_n hx hb dX3_divide_31 rfl (lv_at hl 1 rfl) ?_
    obtain ⟨r, M_2, hc, hf⟩ := bnd_some hf
    refine g_cvi (As := [.int (i2 v3), .int (i2 v1)]) (rest := []) X w (k_X3_lackOfWay X.2.2.1 v3 hv3 v1 hv1 w.2.2 hc) lk_X3_37 cl_3 KD_51 ⟨rfl, rfl⟩ ⟨nle rfl, nle rfl⟩ ⟨nle rfl, nle rfl⟩ hl.1 rfl (nle rfl) dX3_divide_32 (fun hr H locs w_M_2 => ?_)
    refine g_ist (v := r) (lv' := [(4, .int (i2 r)), (0, .ref (ad 51)), (1, .int (i2 v1)), (2, .int (i2 v2)), (3, .int (i2 v3))]) X rfl dX3_divide_35 hl (by decide) rfl (fun ls hl => ?_)
    refine lv_iload_n hx hb dX3_divide_37 rfl (lv_at hl 4 rfl) ?_
    refine g_if_eq (tgt := 50) X hv3 dX3_divide_38 (by decide) (fun cd_2 => ?_) (fun cd_2 => ?_)
    · replace hf := ite_t cd_2 hf
      refine lv_aload_n hx hb dX3_divide_50 rfl (lv_at hl 1 rfl) ?_
      refine lv_iload hx hb dX3_divide_51 (lv_at hl 0 rfl) ?_
      obtain ⟨M_3, eM_3, hf⟩ := lt_some hf
      refine g_puti X w_M_2 fp_X3_41 KD_51 FR_51_6 hr dX3_divide_53 (fun H locs w_M_3 => ?_)
      rw [← eM_3] at w_M_3
      refine lv_aload_n hx hb dX3_divide_56 rfl (lv_at hl 1 rfl) ?_
      refine g_getr X w_M_3 fg_X3_21 KD_51 FR_51_4 dX3_divide_57 ?_
      refine g_iconst X dX3_divide_60 ?_
      refine lv_aload_n hx hb dX3_divide_61 rfl (lv_at hl 1 rfl) ?_
      refine g_getr X w_M_3 fg_X3_24 KD_51 FR_51_5 dX3_divide_62 ?_
      refine g_iconst X dX3_divide_65 ?_
      refine lv_aload_n hx hb dX3_divide_66 rfl (lv_at hl 1 rfl) ?_
      refine g_geti X w_M_3 fg_X3_27 KD_51 FR_51_0 dX3_divide_67 ?_
      obtain ⟨hg, hf⟩ := gd_some hf
      obtain ⟨M_4, eM_4, hf⟩ := lt_some hf
      refine g_copy X w_M_3 KD_55 KD_56 (inL rfl) (inL rfl) (w_M_3.2.2 _ _) hg hl.1 aw_X3_44 ⟨nle rfl, nle rfl⟩ (nle rfl) dX3_divide_70 (fun H locs w_M_4 => ?_)
      rw [← eM_4] at w_M_4
      obtain ⟨v3_2, ev3_2, hf⟩ := lt_some hf
      have hv3_2 : inR v3_2 := inR_of ev3_2 (inR_wrap _)
      refine lv_iinc (v := i2 v3_2) (lv' := [(3, .int (i2 v3_2)), (4, .int (i2 r)), (0, .ref (ad 51)), (1, .int (i2 v1)), (2, .int (i2 v2))]) hx hb dX3_divide_73 hl (k := 4) rfl (by rw [ev3_2]; exact i2_add _ _) (by decide) rfl (fun ls hl => ?_)
      refine lv_goto (tgt := 24) hx hb dX3_divide_76 (by decide) ?_
      exact HC v3_2 M_4 _ _ _ (Option.some.inj hf).symm hv3_2 (lv_sub hl [2, 3, 4, 0] rfl) w_M_4
    · replace hf := ite_f cd_2 hf
      refine lv_iload hx hb dX3_divide_41 (lv_at hl 0 rfl) ?_
      refine lv_aload_n hx hb dX3_divide_43 rfl (lv_at hl 1 rfl) ?_
      refine g_geti X w_M_2 fg_X3_41 KD_51 FR_51_6 dX3_divide_44 ?_
      refine g_icmp_ge (tgt := 73) X hr (w_M_2.2.2 _ _) dX3_divide_47 (by decide) (fun cd_3 => ?_) (fun cd_3 => ?_)
      · replace hf := ite_t cd_3 hf
        obtain ⟨v3_3, ev3_3, hf⟩ := lt_some hf
        have hv3_3 : inR v3_3 := inR_of ev3_3 (inR_wrap _)
        refine lv_iinc (v := i2 v3_3) (lv' := [(3, .int (i2 v3_3)), (4, .int (i2 r)), (0, .ref (ad 51)), (1, .int (i2 v1)), (2, .int (i2 v2))]) hx hb dX3_divide_73 hl (k := 4) rfl (by rw [ev3_3]; exact i2_add _ _) (by decide) rfl (fun ls hl => ?_)
        refine lv_goto (tgt := 24) hx hb dX3_divide_76 (by decide) ?_
        exact HC v3_3 M_2 _ _ _ (Option.some.inj hf).symm hv3_3 (lv_sub hl [2, 3, 4, 0] rfl) w_M_2
      · replace hf := ite_f cd_3 hf
        refine lv_aload_n hx hb dX3_divide_50 rfl (lv_at hl 1 rfl) ?_
        refine lv_iload hx hb dX3_divide_51 (lv_at hl 0 rfl) ?_
        obtain ⟨M_5, eM_5, hf⟩ := lt_some hf
        refine g_puti X w_M_2 fp_X3_41 KD_51 FR_51_6 hr dX3_divide_53 (fun H locs w_M_5 => ?_)
        rw [← eM_5] at w_M_5
        refine lv_aload_n hx hb dX3_divide_56 rfl (lv_at hl 1 rfl) ?_
        refine g_getr X w_M_5 fg_X3_21 KD_51 FR_51_4 dX3_divide_57 ?_
        refine g_iconst X dX3_divide_60 ?_
        refine lv_aload_n hx hb dX3_divide_61 rfl (lv_at hl 1 rfl) ?_
        refine g_getr X w_M_5 fg_X3_24 KD_51 FR_51_5 dX3_divide_62 ?_
        refine g_iconst X dX3_divide_65 ?_
        refine lv_aload_n hx hb dX3_divide_66 rfl (lv_at hl 1 rfl) ?_
        refine g_geti X w_M_5 fg_X3_27 KD_51 FR_51_0 dX3_divide_67 ?_
        obtain ⟨hg_2, hf⟩ := gd_some hf
        obtain ⟨M_6, eM_6, hf⟩ := lt_some hf
        refine g_copy X w_M_5 KD_55 KD_56 (inL rfl) (inL rfl) (w_M_5.2.2 _ _) hg_2 hl.1 aw_X3_44 ⟨nle rfl, nle rfl⟩ (nle rfl) dX3_divide_70 (fun H locs w_M_6 => ?_)
        rw [← eM_6] at w_M_6
        obtain ⟨v3_4, ev3_4, hf⟩ := lt_some hf
        have hv3_4 : inR v3_4 := inR_of ev3_4 (inR_wrap _)
        refine lv_iinc (v := i2 v3_4) (lv' := [(3, .int (i2 v3_4)), (4, .int (i2 r)), (0, .ref (ad 51)), (1, .int (i2 v1)), (2, .int (i2 v2))]) hx hb dX3_divide_73 hl (k := 4) rfl (by rw [ev3_4]; exact i2_add _ _) (by decide) rfl (fun ls hl => ?_)
        refine lv_goto (tgt := 24) hx hb dX3_divide_76 (by decide) ?_
        exact HC v3_4 M_6 _ _ _ (Option.some.inj hf).symm hv3_4 (lv_sub hl [2, 3, 4, 0] rfl) w_M_6
set_option maxRecDepth 100000 in
set_option maxHeartbeats 4000000 in
theorem l_X3_divide_24 (X : CX p s m args c cX3_divide 5 RX3 D aC ad sg A H0) (v1 : Int) (hv1 : inR v1) (v2 : Int) (hv2 : inR v2) {out : Int × Mem} (HE : ∀ (y3 : Int) (M1 : Mem) (H : Heap) (locs : List Loc) (ls : Array Slot), out = (y3, M1) → inR y3 → lv_has ls 5 [(0, .ref (ad 51)), (1, .int (i2 v1)), (2, .int (i2 v2)), (3, .int (i2 y3))] → WS D aC ad A H0 M1 H locs → W p l e rm_X3_divide s m args below meth c H locs 0 0 Q (F0 m 79 ls [])) : ∀ (n : Nat) (v3 : Int) (M : Mem), whl (fun s => f_X3_divide_s24 v1 v2 s.1 s.2) n (v3, M) = some out → inR v3 → ∀ {H : Heap} {locs : List Loc} {ls : Array Slot}, lv_has ls 5 [(0, .ref (ad 51)), (1, .int (i2 v1)), (2, .int (i2 v2)), (3, .int (i2 v3))] → WS D aC ad A H0 M H locs → W p l e rm_X3_divide s m args below meth c H locs 0 0 Q (F0 m 24 ls []) := by
  intro n
  induction n with
  | zero => intro v3 M hf; exact (whl_zero hf).elim
  | succ n ih =>
    intro v3 M hf hv3 H locs ls hl w
    obtain ⟨o, hf, hk1, hk2⟩ := whl_step hf
    exact b_X3_divide_s24 X v1 hv1 v2 hv2 (fun y3 M1 H locs ls eo hy3 hl w => ih y3 M1 (hk1 _ eo) hy3 hl w) (fun y3 M1 H locs ls eo hy3 hl w => HE y3 M1 H locs ls (hk2 _ eo).symm hy3 hl w) v3 hv3 M hf hl w
set_option maxRecDepth 100000 in
set_option maxHeartbeats 4000000 in
theorem b_X3_divide_j79 (X : CX p s m args c cX3_divide 5 RX3 D aC ad sg A H0) {o : Mem} (HR : ∀ (M1 : Mem) (H : Heap) (locs : List Loc) (pc : Nat) (ls : Array Slot), o = M1 → WS D aC ad A H0 M1 H locs → decode cX3_divide pc = .ok (.return_, 1) → W p l e rm_X3_divide s m args below meth c H locs 0 0 Q (F0 m pc ls [])) (M : Mem) (hf : f_X3_divide_j79 M = some o) {H : Heap} {locs : List Loc} {ls : Array Slot} (hl : lv_has ls 5 []) (w : WS D aC ad A H0 M H locs) : W p l e rm_X3_divide s m args below meth c H locs 0 0 Q (F0 m 79 ls []) := by
  have hx := X.1.1
  have hb := X.1.2.1
  unfold f_X3_divide_j79 at hf
  exact HR M _ _ _ _ (Option.some.inj hf).symm w dX3_divide_79
set_option maxRecDepth 100000 in
set_option maxHeartbeats 4000000 in
theorem b_X3_divide_j22 (X : CX p s m args c cX3_divide 5 RX3 D aC ad sg A H0) {o : Mem} (HR : ∀ (M1 : Mem) (H : Heap) (locs : List Loc) (pc : Nat) (ls : Array Slot), o = M1 → WS D aC ad A H0 M1 H locs → decode cX3_divide pc = .ok (.return_, 1) → W p l e rm_X3_divide s m args below meth c H locs 0 0 Q (F0 m pc ls [])) (v1 : Int) (hv1 : inR v1) (v2 : Int) (hv2 : inR v2) (M : Mem) (hf : f_X3_divide_j22 v1 v2 M = some o) {H : Heap} {locs : List Loc} {ls : Array Slot} (hl : lv_has ls 5 [(0, .ref (ad 51)), (1, .int (i2 v1)), (2, .int (i2 v2))]) (w : WS D aC ad A H0 M H locs) : W p l e rm_X3_divide s m args below meth c H locs 0 0 Q (F0 m 22 ls []) := by
  have hx := X.1.1
  have hb := X.1.2.1
  unfold f_X3_divide_j22 at hf
  refine g_iconst X dX3_divide_22 ?_
  refine g_istn (v := 0) (lv' := [(3, .int (i2 0)), (0, .ref (ad 51)), (1, .int (i2 v1)), (2, .int (i2 v2))]) X rfl dX3_divide_23 rfl hl (by decide) rfl (fun ls hl => ?_)
  obtain ⟨q, hq, h1⟩ := obn_some hf
  exact l_X3_divide_24 X v1 hv1 v2 hv2 (out := q) (fun y3 M1 H locs ls eq hy3 hl w => b_X3_divide_j79 X  HR M1 (by subst eq; exact h1) (lv_sub hl [] rfl) w)  FU 0 M hq (inL rfl) (lv_sub hl [1, 2, 3, 0] rfl) w
set_option maxRecDepth 100000 in
set_option maxHeartbeats 4000000 in
theorem b_X3_divide_0 (X : CX p s m args c cX3_divide 5 RX3 D aC ad sg A H0) {o : Mem} (HR : ∀ (M1 : Mem) (H : Heap) (locs : List Loc) (pc : Nat) (ls : Array Slot), o = M1 → WS D aC ad A H0 M1 H locs → decode cX3_divide pc = .ok (.return_, 1) → W p l e rm_X3_divide s m args below meth c H locs 0 0 Q (F0 m pc ls [])) (p1 : Int) (hp1 : inR p1) (M : Mem) (hf : f_X3_divide p1 M = some o) {H : Heap} {locs : List Loc} {ls : Array Slot} (hl : lv_has ls 5 [(0, .ref (ad 51)), (1, .int (i2 p1))]) (w : WS D aC ad A H0 M H locs) : W p l e rm_X3_divide s m args below meth c H locs 0 0 Q (F0 m 0 ls []) := by
  have hx := X.1.1
  have hb := X.1.2.1
  unfold f_X3_divide at hf
  refine g_iconst X dX3_divide_0 ?_
  refine g_istn (v := 1) (lv' := [(2, .int (i2 1)), (0, .ref (ad 51)), (1, .int (i2 p1))]) X rfl dX3_divide_1 rfl hl (by decide) rfl (fun ls hl => ?_)
  refine g_iconst X dX3_divide_2 ?_
  refine g_istn (v := 0) (lv' := [(3, .int (i2 0)), (2, .int (i2 1)), (0, .ref (ad 51)), (1, .int (i2 p1))]) X rfl dX3_divide_3 rfl hl (by decide) rfl (fun ls hl => ?_)
  obtain ⟨q, hq, h1⟩ := obn_some hf
  exact l_X3_divide_4 X p1 hp1 (out := q) (fun y2 y3 H locs ls eq hy2 hy3 hl w => b_X3_divide_j22 X  HR p1 hp1 y2 hy2 M (by subst eq; exact h1) (lv_sub hl [0, 1, 2] rfl) w)  FU 1 0 hq (inL rfl) (inL rfl) (lv_sub hl [2, 3, 1, 0] rfl) w
set_option maxRecDepth 100000 in
set_option maxHeartbeats 4000000 in
theorem k_X3_divide {l : Launch} {D : va_G} {aC : Nat → ClassId} {ad : Nat → Nat} {sg : SG} (hi : Inj ad) (p1 : Int) (hp1 : inR p1) {M : Mem} (hM : inM M) {M' : Mem} (hf : f_X3_divide p1 M = some M') : MetV l D aC ad sg yX3_divide cX3_divide 5 rm_X3_divide 0 0 [.ref (ad 51), .int (i2 p1)] M M' := by
  refine MetV.of (by decide +kernel) (nle rfl) hi hM (fun p e s m args below meth c Q H0 ls X hl w hret => ?_)
  exact b_X3_divide_0 X  (fun M1 H locs pc ls eo w dg => by cases eo; exact hret H locs pc ls w dg) p1 hp1 M hf hl w
end
section
variable {p : Program} {l : Launch} {e : Env} {s : State} {m : MethodId} {args : Array Value} {below : List Frame} {meth : Method} {c : Code} {Q : State → Prop} {D : va_G} {aC : Nat → ClassId} {ad : Nat → Nat} {sg : SG} {A : Nat → Prop} {H0 : Heap}
set_option maxRecDepth 100000 in
set_option maxHeartbeats 4000000 in
theorem b_X9_hasSpace_0 (X : CX p s m args c cX9_hasSpace 2 RX9 D aC ad sg A H0) {M : Mem} {o : Int} (HR : ∀ (r : Int) (H : Heap) (locs : List Loc) (pc : Nat) (ls : Array Slot), o = r → isZ r → WS D aC ad A H0 M H locs → decode cX9_hasSpace pc = .ok (.ireturn, 1) → W p l e rm_X9_hasSpace s m args below meth c H locs 0 0 Q (F0 m pc ls [.int (i2 r)])) (p1 : Int) (hp1 : inR p1) (hf : f_X9_hasSpace p1 M = some o) {H : Heap} {locs : List Loc} {ls : Array Slot} (hl : lv_has ls 2 [(0, .ref (ad 24)), (1, .int (i2 p1))]) (w : WS D aC ad A H0 M H locs) : W p l e rm_X9_hasSpace s m args below meth c H locs 0 0 Q (F0 m 0 ls []) := by
  have hx := X.1.1
  have hb := X.1.2.1
  unfold f_X9_hasSpace at hf
  refine lv_aload_n hx hb dX9_hasSpace_0 rfl (lv_at hl 0 rfl) ?_
  refine g_geti X w fg_X9_25 KD_24 FR_24_0 dX9_hasSpace_1 ?_
  refine lv_iload_n hx hb dX9_hasSpace_4 rfl (lv_at hl 1 rfl) ?_
  refine g_iadd X dX9_hasSpace_5 ?_
  refine g_sipush X dX9_hasSpace_6 (by decide) ?_
  refine g_icmp_gt (tgt := 16) X (inR_wrap _) (inL rfl) dX9_hasSpace_9 (by decide) (fun cd => ?_) (fun cd => ?_)
  · replace hf := ite_t cd hf
    refine g_iconst X dX9_hasSpace_16 ?_
    exact HR 0 _ _ _ _ (Option.some.inj hf).symm (Or.inl rfl) w dX9_hasSpace_17
  · replace hf := ite_f cd hf
    refine g_iconst X dX9_hasSpace_12 ?_
    refine lv_goto (tgt := 17) hx hb dX9_hasSpace_13 (by decide) ?_
    exact HR 1 _ _ _ _ (Option.some.inj hf).symm (Or.inr rfl) w dX9_hasSpace_17
set_option maxRecDepth 100000 in
set_option maxHeartbeats 4000000 in
theorem k_X9_hasSpace {l : Launch} {D : va_G} {aC : Nat → ClassId} {ad : Nat → Nat} {sg : SG} (hi : Inj ad) (p1 : Int) (hp1 : inR p1) {M : Mem} (hM : inM M) {r : Int} (hf : f_X9_hasSpace p1 M = some r) : MetI l D aC ad sg yX9_hasSpace cX9_hasSpace 2 (some .boolean) rm_X9_hasSpace 0 0 [.ref (ad 24), .int (i2 p1)] M r M := by
  refine MetI.ofZ (by decide +kernel) (nle rfl) hi hM (fun p e s m args below meth c Q H0 ls X hl w hret => ?_)
  exact b_X9_hasSpace_0 X  (fun r1 H locs pc ls eo hP w dg => by cases eo; exact hret H locs pc ls hP w dg) p1 hp1 hf hl w
set_option maxRecDepth 100000 in
set_option maxHeartbeats 4000000 in
theorem b_X9_append_s3 (X : CX p s m args c cX9_append 3 RX9 D aC ad sg A H0) (v1 : Int) (hv1 : inR v1) {o : (Int × Mem) ⊕ (Int × Mem)} (HC : ∀ (y2 : Int) (M1 : Mem) (H : Heap) (locs : List Loc) (ls : Array Slot), o = .inl (y2, M1) → inR y2 → lv_has ls 3 [(0, .ref (ad 24)), (1, .int (i2 v1)), (2, .int (i2 y2))] → WS D aC ad A H0 M1 H locs → W p l e rm_X9_append s m args below meth c H locs 0 0 Q (F0 m 3 ls [])) (HE : ∀ (y2 : Int) (M1 : Mem) (H : Heap) (locs : List Loc) (ls : Array Slot), o = .inr (y2, M1) → inR y2 → lv_has ls 3 [(0, .ref (ad 24)), (1, .int (i2 v1)), (2, .int (i2 y2))] → WS D aC ad A H0 M1 H locs → W p l e rm_X9_append s m args below meth c H locs 0 0 Q (F0 m 50 ls [])) (v2 : Int) (hv2 : inR v2) (M : Mem) (hf : f_X9_append_s3 v1 v2 M = some o) {H : Heap} {locs : List Loc} {ls : Array Slot} (hl : lv_has ls 3 [(0, .ref (ad 24)), (1, .int (i2 v1)), (2, .int (i2 v2))]) (w : WS D aC ad A H0 M H locs) : W p l e rm_X9_append s m args below meth c H locs 0 0 Q (F0 m 3 ls []) := by
  have hx := X.1.1
  have hb := X.1.2.1
  unfold f_X9_append_s3 at hf
  refine lv_iload_n hx hb dX9_append_3 rfl (lv_at hl 2 rfl) ?_
  refine g_if_lt (tgt := 50) X hv2 dX9_append_4 (by decide) (fun cd => ?_) (fun cd => ?_)
  · replace hf := ite_t cd hf
    exact HE v2 M _ _ _ (Option.some.inj hf).symm hv2 hl w
  · replace hf := ite_f cd hf
    refine lv_aload_n hx hb dX9_append_7 rfl (lv_at hl 0 rfl) ?_
    refine g_geti X w fg_X9_25 KD_24 FR_24_0 dX9_append_8 ?_
    refine g_sipush X dX9_append_11 (by decide) ?_
    refine g_icmp_ge (tgt := 50) X (w.2.2 _ _) (inL rfl) dX9_append_14 (by decide) (fun cd_2 => ?_) (fun cd_2 => ?_)
    · replace hf := ite_t cd_2 hf
      exact HE v2 M _ _ _ (Option.some.inj hf).symm hv2 hl w
    · replace hf := ite_f cd_2 hf
      refine lv_aload_n hx hb dX9_append_17 rfl (lv_at hl 0 rfl) ?_
      refine g_getr X w fg_X9_11 KD_24 FR_24_1 dX9_append_18 ?_
      refine lv_aload_n hx hb dX9_append_21 rfl (lv_at hl 0 rfl) ?_
      refine g_geti X w fg_X9_25 KD_24 FR_24_0 dX9_append_22 ?_
      refine lv_iload_n hx hb dX9_append_25 rfl (lv_at hl 1 rfl) ?_
      refine lv_iload_n hx hb dX9_append_26 rfl (lv_at hl 2 rfl) ?_
      refine g_ishr X dX9_append_27 ?_
      refine g_sipush X dX9_append_28 (by decide) ?_
      refine g_iand X dX9_append_31 ?_
      refine g_i2c X dX9_append_32 ?_
      obtain ⟨hg, hf⟩ := gd_some hf
      obtain ⟨hz, hf⟩ := gd_some hf
      obtain ⟨M_2, eM_2, hf⟩ := lt_some hf
      refine g_cast X w KD_25 (w.2.2 _ _) hg hz dX9_append_33 (fun H locs w_M_2 => ?_)
      rw [← eM_2] at w_M_2
      refine lv_aload_n hx hb dX9_append_34 rfl (lv_at hl 0 rfl) ?_
      refine lv_dup hx hb dX9_append_35 rfl ?_
      refine g_geti X w_M_2 fg_X9_25 KD_24 FR_24_0 dX9_append_36 ?_
      refine g_iconst X dX9_append_39 ?_
      refine g_iadd X dX9_append_40 ?_
      obtain ⟨M_3, eM_3, hf⟩ := lt_some hf
      refine g_puti X w_M_2 fp_X9_25 KD_24 FR_24_0 (inR_wrap _) dX9_append_41 (fun H locs w_M_3 => ?_)
      rw [← eM_3] at w_M_3
      obtain ⟨v2_2, ev2_2, hf⟩ := lt_some hf
      have hv2_2 : inR v2_2 := inR_of ev2_2 (inR_wrap _)
      refine lv_iinc (v := i2 v2_2) (lv' := [(2, .int (i2 v2_2)), (0, .ref (ad 24)), (1, .int (i2 v1))]) hx hb dX9_append_44 hl (k := 2) rfl (by rw [ev2_2]; exact i2_add _ _) (by decide) rfl (fun ls hl => ?_)
      refine lv_goto (tgt := 3) hx hb dX9_append_47 (by decide) ?_
      exact HC v2_2 M_3 _ _ _ (Option.some.inj hf).symm hv2_2 (lv_sub hl [1, 2, 0] rfl) w_M_3
set_option maxRecDepth 100000 in
set_option maxHeartbeats 4000000 in
theorem l_X9_append_3 (X : CX p s m args c cX9_append 3 RX9 D aC ad sg A H0) (v1 : Int) (hv1 : inR v1) {out : Int × Mem} (HE : ∀ (y2 : Int) (M1 : Mem) (H : Heap) (locs : List Loc) (ls : Array Slot), out = (y2, M1) → inR y2 → lv_has ls 3 [(0, .ref (ad 24)), (1, .int (i2 v1)), (2, .int (i2 y2))] → WS D aC ad A H0 M1 H locs → W p l e rm_X9_append s m args below meth c H locs 0 0 Q (F0 m 50 ls [])) : ∀ (n : Nat) (v2 : Int) (M : Mem), whl (fun s => f_X9_append_s3 v1 s.1 s.2) n (v2, M) = some out → inR v2 → ∀ {H : Heap} {locs : List Loc} {ls : Array Slot}, lv_has ls 3 [(0, .ref (ad 24)), (1, .int (i2 v1)), (2, .int (i2 v2))] → WS D aC ad A H0 M H locs → W p l e rm_X9_append s m args below meth c H locs 0 0 Q (F0 m 3 ls []) := by
  intro n
  induction n with
  | zero => intro v2 M hf; exact (whl_zero hf).elim
  | succ n ih =>
    intro v2 M hf hv2 H locs ls hl w
    obtain ⟨o, hf, hk1, hk2⟩ := whl_step hf
    exact b_X9_append_s3 X v1 hv1 (fun y2 M1 H locs ls eo hy2 hl w => ih y2 M1 (hk1 _ eo) hy2 hl w) (fun y2 M1 H locs ls eo hy2 hl w => HE y2 M1 H locs ls (hk2 _ eo).symm hy2 hl w) v2 hv2 M hf hl w
set_option maxRecDepth 100000 in
set_option maxHeartbeats 4000000 in
theorem b_X9_append_j50 (X : CX p s m args c cX9_append 3 RX9 D aC ad sg A H0) {o : Mem} (HR : ∀ (M1 : Mem) (H : Heap) (locs : List Loc) (pc : Nat) (ls : Array Slot), o = M1 → WS D aC ad A H0 M1 H locs → decode cX9_append pc = .ok (.return_, 1) → W p l e rm_X9_append s m args below meth c H locs 0 0 Q (F0 m pc ls [])) (M : Mem) (hf : f_X9_append_j50 M = some o) {H : Heap} {locs : List Loc} {ls : Array Slot} (hl : lv_has ls 3 []) (w : WS D aC ad A H0 M H locs) : W p l e rm_X9_append s m args below meth c H locs 0 0 Q (F0 m 50 ls []) := by
  have hx := X.1.1
  have hb := X.1.2.1
  unfold f_X9_append_j50 at hf
  exact HR M _ _ _ _ (Option.some.inj hf).symm w dX9_append_50
set_option maxRecDepth 100000 in
set_option maxHeartbeats 4000000 in
theorem b_X9_append_0 (X : CX p s m args c cX9_append 3 RX9 D aC ad sg A H0) {o : Mem} (HR : ∀ (M1 : Mem) (H : Heap) (locs : List Loc) (pc : Nat) (ls : Array Slot), o = M1 → WS D aC ad A H0 M1 H locs → decode cX9_append pc = .ok (.return_, 1) → W p l e rm_X9_append s m args below meth c H locs 0 0 Q (F0 m pc ls [])) (p1 : Int) (hp1 : inR p1) (M : Mem) (hf : f_X9_append p1 M = some o) {H : Heap} {locs : List Loc} {ls : Array Slot} (hl : lv_has ls 3 [(0, .ref (ad 24)), (1, .int (i2 p1))]) (w : WS D aC ad A H0 M H locs) : W p l e rm_X9_append s m args below meth c H locs 0 0 Q (F0 m 0 ls []) := by
  have hx := X.1.1
  have hb := X.1.2.1
  unfold f_X9_append at hf
  refine g_bipush X dX9_append_0 (by decide) ?_
  refine g_istn (v := 24) (lv' := [(2, .int (i2 24)), (0, .ref (ad 24)), (1, .int (i2 p1))]) X rfl dX9_append_2 rfl hl (by decide) rfl (fun ls hl => ?_)
  obtain ⟨q, hq, h1⟩ := obn_some hf
  exact l_X9_append_3 X p1 hp1 (out := q) (fun y2 M1 H locs ls eq hy2 hl w => b_X9_append_j50 X  HR M1 (by subst eq; exact h1) (lv_sub hl [] rfl) w)  FU 24 M hq (inL rfl) (lv_sub hl [1, 2, 0] rfl) w
set_option maxRecDepth 100000 in
set_option maxHeartbeats 4000000 in
theorem k_X9_append {l : Launch} {D : va_G} {aC : Nat → ClassId} {ad : Nat → Nat} {sg : SG} (hi : Inj ad) (p1 : Int) (hp1 : inR p1) {M : Mem} (hM : inM M) {M' : Mem} (hf : f_X9_append p1 M = some M') : MetV l D aC ad sg yX9_append cX9_append 3 rm_X9_append 0 0 [.ref (ad 24), .int (i2 p1)] M M' := by
  refine MetV.of (by decide +kernel) (nle rfl) hi hM (fun p e s m args below meth c Q H0 ls X hl w hret => ?_)
  exact b_X9_append_0 X  (fun M1 H locs pc ls eo w dg => by cases eo; exact hret H locs pc ls w dg) p1 hp1 M hf hl w
set_option maxRecDepth 100000 in
set_option maxHeartbeats 4000000 in
theorem b_X9_isLetter_0 (X : CX p s m args c cX9_isLetter 1 RX9 D aC ad sg A H0) {M : Mem} {o : Int} (HR : ∀ (r : Int) (H : Heap) (locs : List Loc) (pc : Nat) (ls : Array Slot), o = r → isZ r → WS D aC ad A H0 M H locs → decode cX9_isLetter pc = .ok (.ireturn, 1) → W p l e rm_X9_isLetter s m args below meth c H locs 0 0 Q (F0 m pc ls [.int (i2 r)])) (p0 : Int) (hp0 : inR p0) (hf : f_X9_isLetter p0 M = some o) {H : Heap} {locs : List Loc} {ls : Array Slot} (hl : lv_has ls 1 [(0, .int (i2 p0))]) (w : WS D aC ad A H0 M H locs) : W p l e rm_X9_isLetter s m args below meth c H locs 0 0 Q (F0 m 0 ls []) := by
  have hx := X.1.1
  have hb := X.1.2.1
  unfold f_X9_isLetter at hf
  refine lv_iload_n hx hb dX9_isLetter_0 rfl (lv_at hl 0 rfl) ?_
  refine g_bipush X dX9_isLetter_1 (by decide) ?_
  refine g_icmp_lt (tgt := 16) X hp0 (inL rfl) dX9_isLetter_3 (by decide) (fun cd => ?_) (fun cd => ?_)
  · replace hf := ite_t cd hf
    refine g_iconst X dX9_isLetter_16 ?_
    exact HR 0 _ _ _ _ (Option.some.inj hf).symm (Or.inl rfl) w dX9_isLetter_17
  · replace hf := ite_f cd hf
    refine lv_iload_n hx hb dX9_isLetter_6 rfl (lv_at hl 0 rfl) ?_
    refine g_bipush X dX9_isLetter_7 (by decide) ?_
    refine g_icmp_gt (tgt := 16) X hp0 (inL rfl) dX9_isLetter_9 (by decide) (fun cd_2 => ?_) (fun cd_2 => ?_)
    · replace hf := ite_t cd_2 hf
      refine g_iconst X dX9_isLetter_16 ?_
      exact HR 0 _ _ _ _ (Option.some.inj hf).symm (Or.inl rfl) w dX9_isLetter_17
    · replace hf := ite_f cd_2 hf
      refine g_iconst X dX9_isLetter_12 ?_
      refine lv_goto (tgt := 17) hx hb dX9_isLetter_13 (by decide) ?_
      exact HR 1 _ _ _ _ (Option.some.inj hf).symm (Or.inr rfl) w dX9_isLetter_17
set_option maxRecDepth 100000 in
set_option maxHeartbeats 4000000 in
theorem k_X9_isLetter {l : Launch} {D : va_G} {aC : Nat → ClassId} {ad : Nat → Nat} {sg : SG} (hi : Inj ad) (p0 : Int) (hp0 : inR p0) {M : Mem} (hM : inM M) {r : Int} (hf : f_X9_isLetter p0 M = some r) : MetI l D aC ad sg yX9_isLetter cX9_isLetter 1 (some .boolean) rm_X9_isLetter 0 0 [.int (i2 p0)] M r M := by
  refine MetI.ofZ (by decide +kernel) (nle rfl) hi hM (fun p e s m args below meth c Q H0 ls X hl w hret => ?_)
  exact b_X9_isLetter_0 X  (fun r1 H locs pc ls eo hP w dg => by cases eo; exact hret H locs pc ls hP w dg) p0 hp0 hf hl w
set_option maxRecDepth 100000 in
set_option maxHeartbeats 4000000 in
theorem b_X9_wordCode_s8 (X : CX p s m args c cX9_wordCode 7 RX9 D aC ad sg A H0) (v1 : Int) (hv1 : inR v1) (v2 : Int) (hv2 : inR v2) {o : (Int × Int × Int × Mem) ⊕ ((Int × Int × Int × Mem) ⊕ (Int × Mem))} (HC : ∀ (y3 : Int) (y4 : Int) (y5 : Int) (M1 : Mem) (H : Heap) (locs : List Loc) (ls : Array Slot), o = .inl (y3, y4, y5, M1) → inR y3 → inR y4 → inR y5 → lv_has ls 7 [(0, .ref (ad 24)), (1, .int (i2 v1)), (2, .int (i2 v2)), (3, .int (i2 y3)), (4, .int (i2 y4)), (5, .int (i2 y5))] → WS D aC ad A H0 M1 H locs → W p l e rm_X9_wordCode s m args below meth c H locs 0 0 Q (F0 m 8 ls [])) (HE : ∀ (y3 : Int) (y4 : Int) (y5 : Int) (M1 : Mem) (H : Heap) (locs : List Loc) (ls : Array Slot), o = .inr (.inl (y3, y4, y5, M1)) → inR y3 → inR y4 → inR y5 → lv_has ls 7 [(0, .ref (ad 24)), (1, .int (i2 v1)), (2, .int (i2 v2)), (3, .int (i2 y3)), (4, .int (i2 y4)), (5, .int (i2 y5))] → WS D aC ad A H0 M1 H locs → W p l e rm_X9_wordCode s m args below meth c H locs 0 0 Q (F0 m 91 ls [])) (HR : ∀ (r : Int) (M1 : Mem) (H : Heap) (locs : List Loc) (pc : Nat) (ls : Array Slot), o = .inr (.inr (r, M1)) → inR r → WS D aC ad A H0 M1 H locs → decode cX9_wordCode pc = .ok (.ireturn, 1) → W p l e rm_X9_wordCode s m args below meth c H locs 0 0 Q (F0 m pc ls [.int (i2 r)])) (v3 : Int) (hv3 : inR v3) (v4 : Int) (hv4 : inR v4) (v5 : Int) (hv5 : inR v5) (M : Mem) (hf : f_X9_wordCode_s8 v1 v2 v3 v4 v5 M = some o) {H : Heap} {locs : List Loc} {ls : Array Slot} (hl : lv_has ls 7 [(0, .ref (ad 24)), (1, .int (i2 v1)), (2, .int (i2 v2)), (3, .int (i2 v3)), (4, .int (i2 v4)), (5, .int (i2 v5))]) (w : WS D aC ad A H0 M H locs) : W p l e rm_X9_wordCode s m args below meth c H locs 0 0 Q (F0 m 8 ls []) := by
  have hx := X.1.1
  have hb := X.1.2.1
  unfold f_X9_wordCode_s8 at hf
  refine lv_iload hx hb dX9_wordCode_8 (lv_at hl 5 rfl) ?_
  refine g_ldcs X (i := 0) (by decide) rfl rfl dX9_wordCode_10 ?_
  refine g_slen X w (by decide) sw_X9_61 hl.1 ⟨nle rfl, nle rfl⟩ ⟨nle rfl, nle rfl⟩ (nle rfl) dX9_wordCode_12 (fun H locs w => ?_)
  refine g_icmp_ge (tgt := 91) X hv5 (sLen_R _) dX9_wordCode_15 (by decide) (fun cd => ?_) (fun cd => ?_)
  · replace hf := ite_t cd hf
    exact HE v3 v4 v5 M _ _ _ (Option.some.inj hf).symm hv3 hv4 hv5 hl w
  · replace hf := ite_f cd hf
    refine g_ldcs X (i := 0) (by decide) rfl rfl dX9_wordCode_18 ?_
    refine lv_iload hx hb dX9_wordCode_20 (lv_at hl 5 rfl) ?_
    obtain ⟨hg, hf⟩ := gd_some hf
    refine g_schar X w (by decide) hv5 hg sw_X9_66 hl.1 ⟨nle rfl, nle rfl⟩ ⟨nle rfl, nle rfl⟩ (nle rfl) dX9_wordCode_22 (fun H locs w => ?_)
    obtain ⟨v6, ev6, hf⟩ := lt_some hf
    have hv6 : inR v6 := inR_of ev6 (sAt_R _ _)
    refine g_ist (v := v6) (lv' := [(6, .int (i2 v6)), (0, .ref (ad 24)), (1, .int (i2 v1)), (2, .int (i2 v2)), (3, .int (i2 v3)), (4, .int (i2 v4)), (5, .int (i2 v5))]) X ev6 dX9_wordCode_25 hl (by decide) rfl (fun ls hl => ?_)
    refine lv_iload hx hb dX9_wordCode_27 (lv_at hl 0 rfl) ?_
    refine g_bipush X dX9_wordCode_29 (by decide) ?_
    refine g_icmp_ne (tgt := 51) X hv6 (inL rfl) dX9_wordCode_31 (by decide) (fun cd_2 => ?_) (fun cd_2 => ?_)
    · replace hf := ite_f cd_2 hf
      refine lv_iload hx hb dX9_wordCode_51 (lv_at hl 5 rfl) ?_
      refine g_if_lt (tgt := 82) X hv4 dX9_wordCode_53 (by decide) (fun cd_3 => ?_) (fun cd_3 => ?_)
      · replace hf := ite_t cd_3 hf
        refine g_iconst X dX9_wordCode_82 ?_
        refine g_ist (v := (-1)) (lv' := [(4, .int (i2 (-1))), (6, .int (i2 v6)), (0, .ref (ad 24)), (1, .int (i2 v1)), (2, .int (i2 v2)), (3, .int (i2 v3)), (5, .int (i2 v5))]) X rfl dX9_wordCode_83 hl (by decide) rfl (fun ls hl => ?_)
        obtain ⟨v5_2, ev5_2, hf⟩ := lt_some hf
        have hv5_2 : inR v5_2 := inR_of ev5_2 (inR_wrap _)
        refine lv_iinc (v := i2 v5_2) (lv' := [(5, .int (i2 v5_2)), (4, .int (i2 (-1))), (6, .int (i2 v6)), (0, .ref (ad 24)), (1, .int (i2 v1)), (2, .int (i2 v2)), (3, .int (i2 v3))]) hx hb dX9_wordCode_85 hl (k := 6) rfl (by rw [ev5_2]; exact i2_add _ _) (by decide) rfl (fun ls hl => ?_)
        refine lv_goto (tgt := 8) hx hb dX9_wordCode_88 (by decide) ?_
        exact HC v3 (-1) v5_2 M _ _ _ (Option.some.inj hf).symm hv3 (inL rfl) hv5_2 (lv_sub hl [3, 4, 5, 6, 1, 0] rfl) w
      · replace hf := ite_f cd_3 hf
        refine lv_iload hx hb dX9_wordCode_56 (lv_at hl 5 rfl) ?_
        refine lv_iload_n hx hb dX9_wordCode_58 rfl (lv_at hl 3 rfl) ?_
        refine g_icmp_ge (tgt := 82) X hv4 hv2 dX9_wordCode_59 (by decide) (fun cd_4 => ?_) (fun cd_4 => ?_)
        · replace hf := ite_t cd_4 hf
          refine g_iconst X dX9_wordCode_82 ?_
          refine g_ist (v := (-1)) (lv' := [(4, .int (i2 (-1))), (6, .int (i2 v6)), (0, .ref (ad 24)), (1, .int (i2 v1)), (2, .int (i2 v2)), (3, .int (i2 v3)), (5, .int (i2 v5))]) X rfl dX9_wordCode_83 hl (by decide) rfl (fun ls hl => ?_)
          obtain ⟨v5_3, ev5_3, hf⟩ := lt_some hf
          have hv5_3 : inR v5_3 := inR_of ev5_3 (inR_wrap _)
          refine lv_iinc (v := i2 v5_3) (lv' := [(5, .int (i2 v5_3)), (4, .int (i2 (-1))), (6, .int (i2 v6)), (0, .ref (ad 24)), (1, .int (i2 v1)), (2, .int (i2 v2)), (3, .int (i2 v3))]) hx hb dX9_wordCode_85 hl (k := 6) rfl (by rw [ev5_3]; exact i2_add _ _) (by decide) rfl (fun ls hl => ?_)
          refine lv_goto (tgt := 8) hx hb dX9_wordCode_88 (by decide) ?_
          exact HC v3 (-1) v5_3 M _ _ _ (Option.some.inj hf).symm hv3 (inL rfl) hv5_3 (lv_sub hl [3, 4, 5, 6, 1, 0] rfl) w
        · replace hf := ite_f cd_4 hf
          refine lv_aload_n hx hb dX9_wordCode_62 rfl (lv_at hl 1 rfl) ?_
          refine g_getr X w fg_X9_11 KD_24 FR_24_1 dX9_wordCode_63 ?_
          refine lv_iload_n hx hb dX9_wordCode_66 rfl (lv_at hl 2 rfl) ?_
          refine lv_iload hx hb dX9_wordCode_67 (lv_at hl 5 rfl) ?_
          refine g_iadd X dX9_wordCode_69 ?_
          obtain ⟨hg_2, hf⟩ := gd_some hf
          refine g_cald X w KD_25 (inR_wrap _) hg_2 dX9_wordCode_70 ?_
          refine lv_iload hx hb dX9_wordCode_71 (lv_at hl 0 rfl) ?_
          refine g_icmp_ne (tgt := 82) X (w.2.2 _ _) hv6 dX9_wordCode_73 (by decide) (fun cd_5 => ?_) (fun cd_5 => ?_)
          · replace hf := ite_f cd_5 hf
            refine g_iconst X dX9_wordCode_82 ?_
            refine g_ist (v := (-1)) (lv' := [(4, .int (i2 (-1))), (6, .int (i2 v6)), (0, .ref (ad 24)), (1, .int (i2 v1)), (2, .int (i2 v2)), (3, .int (i2 v3)), (5, .int (i2 v5))]) X rfl dX9_wordCode_83 hl (by decide) rfl (fun ls hl => ?_)
            obtain ⟨v5_4, ev5_4, hf⟩ := lt_some hf
            have hv5_4 : inR v5_4 := inR_of ev5_4 (inR_wrap _)
            refine lv_iinc (v := i2 v5_4) (lv' := [(5, .int (i2 v5_4)), (4, .int (i2 (-1))), (6, .int (i2 v6)), (0, .ref (ad 24)), (1, .int (i2 v1)), (2, .int (i2 v2)), (3, .int (i2 v3))]) hx hb dX9_wordCode_85 hl (k := 6) rfl (by rw [ev5_4]; exact i2_add _ _) (by decide) rfl (fun ls hl => ?_)
            refine lv_goto (tgt := 8) hx hb dX9_wordCode_88 (by decide) ?_
            exact HC v3 (-1) v5_4 M _ _ _ (Option.some.inj hf).symm hv3 (inL rfl) hv5_4 (lv_sub hl [3, 4, 5, 6, 1, 0] rfl) w
          · replace hf := ite_t cd_5 hf
            obtain ⟨v4_2, ev4_2, hf⟩ := lt_some hf
            have hv4_2 : inR v4_2 := inR_of ev4_2 (inR_wrap _)
            refine lv_iinc (v := i2 v4_2) (lv' := [(4, .int (i2 v4_2)), (6, .int (i2 v6)), (0, .ref (ad 24)), (1, .int (i2 v1)), (2, .int (i2 v2)), (3, .int (i2 v3)), (5, .int (i2 v5))]) hx hb dX9_wordCode_76 hl (k := 5) rfl (by rw [ev4_2]; exact i2_add _ _) (by decide) rfl (fun ls hl => ?_)
            refine lv_goto (tgt := 85) hx hb dX9_wordCode_79 (by decide) ?_
            obtain ⟨v5_5, ev5_5, hf⟩ := lt_some hf
            have hv5_5 : inR v5_5 := inR_of ev5_5 (inR_wrap _)
            refine lv_iinc (v := i2 v5_5) (lv' := [(5, .int (i2 v5_5)), (4, .int (i2 v4_2)), (6, .int (i2 v6)), (0, .ref (ad 24)), (1, .int (i2 v1)), (2, .int (i2 v2)), (3, .int (i2 v3))]) hx hb dX9_wordCode_85 hl (k := 6) rfl (by rw [ev5_5]; exact i2_add _ _) (by decide) rfl (fun ls hl => ?_)
            refine lv_goto (tgt := 8) hx hb dX9_wordCode_88 (by decide) ?_
            exact HC v3 v4_2 v5_5 M _ _ _ (Option.some.inj hf).symm hv3 hv4_2 hv5_5 (lv_sub hl [3, 4, 5, 6, 1, 0] rfl) w
    · replace hf := ite_t cd_2 hf
      refine lv_iload hx hb dX9_wordCode_34 (lv_at hl 5 rfl) ?_
      refine lv_iload_n hx hb dX9_wordCode_36 rfl (lv_at hl 3 rfl) ?_
      refine g_icmp_ne (tgt := 42) X hv4 hv2 dX9_wordCode_37 (by decide) (fun cd_6 => ?_) (fun cd_6 => ?_)
      · replace hf := ite_f cd_6 hf
        obtain ⟨v3_2, ev3_2, hf⟩ := lt_some hf
        have hv3_2 : inR v3_2 := inR_of ev3_2 (inR_wrap _)
        refine lv_iinc (v := i2 v3_2) (lv' := [(3, .int (i2 v3_2)), (6, .int (i2 v6)), (0, .ref (ad 24)), (1, .int (i2 v1)), (2, .int (i2 v2)), (4, .int (i2 v4)), (5, .int (i2 v5))]) hx hb dX9_wordCode_42 hl (k := 4) rfl (by rw [ev3_2]; exact i2_add _ _) (by decide) rfl (fun ls hl => ?_)
        refine g_iconst X dX9_wordCode_45 ?_
        refine g_ist (v := 0) (lv' := [(4, .int (i2 0)), (3, .int (i2 v3_2)), (6, .int (i2 v6)), (0, .ref (ad 24)), (1, .int (i2 v1)), (2, .int (i2 v2)), (5, .int (i2 v5))]) X rfl dX9_wordCode_46 hl (by decide) rfl (fun ls hl => ?_)
        refine lv_goto (tgt := 85) hx hb dX9_wordCode_48 (by decide) ?_
        obtain ⟨v5_6, ev5_6, hf⟩ := lt_some hf
        have hv5_6 : inR v5_6 := inR_of ev5_6 (inR_wrap _)
        refine lv_iinc (v := i2 v5_6) (lv' := [(5, .int (i2 v5_6)), (4, .int (i2 0)), (3, .int (i2 v3_2)), (6, .int (i2 v6)), (0, .ref (ad 24)), (1, .int (i2 v1)), (2, .int (i2 v2))]) hx hb dX9_wordCode_85 hl (k := 6) rfl (by rw [ev5_6]; exact i2_add _ _) (by decide) rfl (fun ls hl => ?_)
        refine lv_goto (tgt := 8) hx hb dX9_wordCode_88 (by decide) ?_
        exact HC v3_2 0 v5_6 M _ _ _ (Option.some.inj hf).symm hv3_2 (inL rfl) hv5_6 (lv_sub hl [4, 5, 6, 2, 1, 0] rfl) w
      · replace hf := ite_t cd_6 hf
        refine lv_iload_n hx hb dX9_wordCode_40 rfl (lv_at hl 4 rfl) ?_
        exact HR v3 M _ _ _ _ (Option.some.inj hf).symm hv3 w dX9_wordCode_41
set_option maxRecDepth 100000 in
set_option maxHeartbeats 4000000 in
theorem l_X9_wordCode_8 (X : CX p s m args c cX9_wordCode 7 RX9 D aC ad sg A H0) (v1 : Int) (hv1 : inR v1) (v2 : Int) (hv2 : inR v2) {out : (Int × Int × Int × Mem) ⊕ (Int × Mem)} (HE : ∀ (y3 : Int) (y4 : Int) (y5 : Int) (M1 : Mem) (H : Heap) (locs : List Loc) (ls : Array Slot), out = .inl (y3, y4, y5, M1) → inR y3 → inR y4 → inR y5 → lv_has ls 7 [(0, .ref (ad 24)), (1, .int (i2 v1)), (2, .int (i2 v2)), (3, .int (i2 y3)), (4, .int (i2 y4)), (5, .int (i2 y5))] → WS D aC ad A H0 M1 H locs → W p l e rm_X9_wordCode s m args below meth c H locs 0 0 Q (F0 m 91 ls [])) (HR : ∀ (r : Int) (M1 : Mem) (H : Heap) (locs : List Loc) (pc : Nat) (ls : Array Slot), out = .inr (r, M1) → inR r → WS D aC ad A H0 M1 H locs → decode cX9_wordCode pc = .ok (.ireturn, 1) → W p l e rm_X9_wordCode s m args below meth c H locs 0 0 Q (F0 m pc ls [.int (i2 r)])) : ∀ (n : Nat) (v3 : Int) (v4 : Int) (v5 : Int) (M : Mem), whl (fun s => f_X9_wordCode_s8 v1 v2 s.1 s.2.1 s.2.2.1 s.2.2.2) n (v3, v4, v5, M) = some out → inR v3 → inR v4 → inR v5 → ∀ {H : Heap} {locs : List Loc} {ls : Array Slot}, lv_has ls 7 [(0, .ref (ad 24)), (1, .int (i2 v1)), (2, .int (i2 v2)), (3, .int (i2 v3)), (4, .int (i2 v4)), (5, .int (i2 v5))] → WS D aC ad A H0 M H locs → W p l e rm_X9_wordCode s m args below meth c H locs 0 0 Q (F0 m 8 ls []) := by
  intro n
  induction n with
  | zero => intro v3 v4 v5 M hf; exact (whl_zero hf).elim
  | succ n ih =>
    intro v3 v4 v5 M hf hv3 hv4 hv5 H locs ls hl w
    obtain ⟨o, hf, hk1, hk2⟩ := whl_step hf
    exact b_X9_wordCode_s8 X v1 hv1 v2 hv2 (fun y3 y4 y5 M1 H locs ls eo hy3 hy4 hy5 hl w => ih y3 y4 y5 M1 (hk1 _ eo) hy3 hy4 hy5 hl w) (fun y3 y4 y5 M1 H locs ls eo hy3 hy4 hy5 hl w => HE y3 y4 y5 M1 H locs ls (hk2 _ eo).symm hy3 hy4 hy5 hl w) (fun r M1 H locs pc ls eo hP w dg => HR r M1 H locs pc ls (hk2 _ eo).symm hP w dg) v3 hv3 v4 hv4 v5 hv5 M hf hl w
set_option maxRecDepth 100000 in
set_option maxHeartbeats 4000000 in
theorem b_X9_wordCode_j91 (X : CX p s m args c cX9_wordCode 7 RX9 D aC ad sg A H0) {o : Int × Mem} (HR : ∀ (r : Int) (M1 : Mem) (H : Heap) (locs : List Loc) (pc : Nat) (ls : Array Slot), o = (r, M1) → inR r → WS D aC ad A H0 M1 H locs → decode cX9_wordCode pc = .ok (.ireturn, 1) → W p l e rm_X9_wordCode s m args below meth c H locs 0 0 Q (F0 m pc ls [.int (i2 r)])) (M : Mem) (hf : f_X9_wordCode_j91 M = some o) {H : Heap} {locs : List Loc} {ls : Array Slot} (hl : lv_has ls 7 []) (w : WS D aC ad A H0 M H locs) : W p l e rm_X9_wordCode s m args below meth c H locs 0 0 Q (F0 m 91 ls []) := by
  have hx := X.1.1
  have hb := X.1.2.1
  unfold f_X9_wordCode_j91 at hf
  refine g_bipush X dX9_wordCode_91 (by decide) ?_
  exact HR (-2) M _ _ _ _ (Option.some.inj hf).symm (inL rfl) w dX9_wordCode_93
set_option maxRecDepth 100000 in
set_option maxHeartbeats 4000000 in
theorem b_X9_wordCode_0 (X : CX p s m args c cX9_wordCode 7 RX9 D aC ad sg A H0) {o : Int × Mem} (HR : ∀ (r : Int) (M1 : Mem) (H : Heap) (locs : List Loc) (pc : Nat) (ls : Array Slot), o = (r, M1) → inR r → WS D aC ad A H0 M1 H locs → decode cX9_wordCode pc = .ok (.ireturn, 1) → W p l e rm_X9_wordCode s m args below meth c H locs 0 0 Q (F0 m pc ls [.int (i2 r)])) (p1 : Int) (hp1 : inR p1) (p2 : Int) (hp2 : inR p2) (M : Mem) (hf : f_X9_wordCode p1 p2 M = some o) {H : Heap} {locs : List Loc} {ls : Array Slot} (hl : lv_has ls 7 [(0, .ref (ad 24)), (1, .int (i2 p1)), (2, .int (i2 p2))]) (w : WS D aC ad A H0 M H locs) : W p l e rm_X9_wordCode s m args below meth c H locs 0 0 Q (F0 m 0 ls []) := by
  have hx := X.1.1
  have hb := X.1.2.1
  unfold f_X9_wordCode at hf
  refine g_iconst X dX9_wordCode_0 ?_
  refine g_istn (v := 0) (lv' := [(3, .int (i2 0)), (0, .ref (ad 24)), (1, .int (i2 p1)), (2, .int (i2 p2))]) X rfl dX9_wordCode_1 rfl hl (by decide) rfl (fun ls hl => ?_)
  refine g_iconst X dX9_wordCode_2 ?_
  refine g_ist (v := 0) (lv' := [(4, .int (i2 0)), (3, .int (i2 0)), (0, .ref (ad 24)), (1, .int (i2 p1)), (2, .int (i2 p2))]) X rfl dX9_wordCode_3 hl (by decide) rfl (fun ls hl => ?_)
  refine g_iconst X dX9_wordCode_5 ?_
  refine g_ist (v := 0) (lv' := [(5, .int (i2 0)), (4, .int (i2 0)), (3, .int (i2 0)), (0, .ref (ad 24)), (1, .int (i2 p1)), (2, .int (i2 p2))]) X rfl dX9_wordCode_6 hl (by decide) rfl (fun ls hl => ?_)
  obtain ⟨q, hq, h1, h2⟩ := lpr_some hf
  exact l_X9_wordCode_8 X p1 hp1 p2 hp2 (out := q) (fun y3 y4 y5 M1 H locs ls eq hy3 hy4 hy5 hl w => b_X9_wordCode_j91 X  HR M1 (h1 _ eq) (lv_sub hl [] rfl) w) (fun r M1 H locs pc ls eq hP w dg => HR r M1 H locs pc ls (Option.some.inj (h2 _ eq)).symm hP w dg) FU 0 0 0 M hq (inL rfl) (inL rfl) (inL rfl) (lv_sub hl [3, 4, 5, 2, 1, 0] rfl) w
set_option maxRecDepth 100000 in
set_option maxHeartbeats 4000000 in
theorem k_X9_wordCode {l : Launch} {D : va_G} {aC : Nat → ClassId} {ad : Nat → Nat} {sg : SG} (hi : Inj ad) (p1 : Int) (hp1 : inR p1) (p2 : Int) (hp2 : inR p2) {M : Mem} (hM : inM M) {r : Int} {M' : Mem} (hf : f_X9_wordCode p1 p2 M = some (r, M')) : MetI l D aC ad sg yX9_wordCode cX9_wordCode 7 (some .int) rm_X9_wordCode 0 0 [.ref (ad 24), .int (i2 p1), .int (i2 p2)] M r M' := by
  refine MetI.ofI (by decide +kernel) (nle rfl) hi hM (fun p e s m args below meth c Q H0 ls X hl w hret => ?_)
  exact b_X9_wordCode_0 X  (fun r1 M1 H locs pc ls eo hP w dg => by cases eo; exact hret H locs pc ls hP w dg) p1 hp1 p2 hp2 M hf hl w
set_option maxRecDepth 100000 in
set_option maxHeartbeats 4000000 in
theorem b_X9_add_0 (X : CX p s m args c cX9_add 4 RX9 D aC ad sg A H0) {o : Mem} (HR : ∀ (M1 : Mem) (H : Heap) (locs : List Loc) (pc : Nat) (ls : Array Slot), o = M1 → WS D aC ad A H0 M1 H locs → decode cX9_add pc = .ok (.return_, 1) → W p l e rm_X9_add s m args below meth c H locs 0 0 Q (F0 m pc ls [])) (p1 : Int) (hp1 : inR p1) (p2 : Int) (hp2 : inR p2) (p3 : Int) (hp3 : inR p3) (M : Mem) (hf : f_X9_add p1 p2 p3 M = some o) {H : Heap} {locs : List Loc} {ls : Array Slot} (hl : lv_has ls 4 [(0, .ref (ad 24)), (1, .int (i2 p1)), (2, .int (i2 p2)), (3, .int (i2 p3))]) (w : WS D aC ad A H0 M H locs) : W p l e rm_X9_add s m args below meth c H locs 0 0 Q (F0 m 0 ls []) := by
  have hx := X.1.1
  have hb := X.1.2.1
  unfold f_X9_add at hf
  refine lv_aload_n hx hb dX9_add_0 rfl (lv_at hl 0 rfl) ?_
  refine g_geti X w fg_X9_29 KD_24 FR_24_2 dX9_add_1 ?_
  refine lv_aload_n hx hb dX9_add_4 rfl (lv_at hl 0 rfl) ?_
  refine g_getr X w fg_X9_15 KD_24 FR_24_3 dX9_add_5 ?_
  refine g_alen X w KD_26 (by decide) dX9_add_8 ?_
  refine g_icmp_ge (tgt := 52) X (w.2.2 _ _) (inL rfl) dX9_add_9 (by decide) (fun cd => ?_) (fun cd => ?_)
  · replace hf := ite_t cd hf
    exact HR M _ _ _ _ (Option.some.inj hf).symm w dX9_add_52
  · replace hf := ite_f cd hf
    refine lv_aload_n hx hb dX9_add_12 rfl (lv_at hl 0 rfl) ?_
    refine g_getr X w fg_X9_15 KD_24 FR_24_3 dX9_add_13 ?_
    refine lv_aload_n hx hb dX9_add_16 rfl (lv_at hl 0 rfl) ?_
    refine g_geti X w fg_X9_29 KD_24 FR_24_2 dX9_add_17 ?_
    refine lv_iload_n hx hb dX9_add_20 rfl (lv_at hl 1 rfl) ?_
    obtain ⟨hg, hf⟩ := gd_some hf
    obtain ⟨M_2, eM_2, hf⟩ := lt_some hf
    refine g_iast X w KD_26 (w.2.2 _ _) hg hp1 dX9_add_21 (fun H locs w_M_2 => ?_)
    rw [← eM_2] at w_M_2
    refine lv_aload_n hx hb dX9_add_22 rfl (lv_at hl 0 rfl) ?_
    refine g_getr X w_M_2 fg_X9_19 KD_24 FR_24_4 dX9_add_23 ?_
    refine lv_aload_n hx hb dX9_add_26 rfl (lv_at hl 0 rfl) ?_
    refine g_geti X w_M_2 fg_X9_29 KD_24 FR_24_2 dX9_add_27 ?_
    refine lv_iload_n hx hb dX9_add_30 rfl (lv_at hl 2 rfl) ?_
    obtain ⟨hg_2, hf⟩ := gd_some hf
    obtain ⟨M_3, eM_3, hf⟩ := lt_some hf
    refine g_iast X w_M_2 KD_27 (w_M_2.2.2 _ _) hg_2 hp2 dX9_add_31 (fun H locs w_M_3 => ?_)
    rw [← eM_3] at w_M_3
    refine lv_aload_n hx hb dX9_add_32 rfl (lv_at hl 0 rfl) ?_
    refine g_getr X w_M_3 fg_X9_22 KD_24 FR_24_5 dX9_add_33 ?_
    refine lv_aload_n hx hb dX9_add_36 rfl (lv_at hl 0 rfl) ?_
    refine g_geti X w_M_3 fg_X9_29 KD_24 FR_24_2 dX9_add_37 ?_
    refine lv_iload_n hx hb dX9_add_40 rfl (lv_at hl 3 rfl) ?_
    obtain ⟨hg_3, hf⟩ := gd_some hf
    obtain ⟨M_4, eM_4, hf⟩ := lt_some hf
    refine g_iast X w_M_3 KD_28 (w_M_3.2.2 _ _) hg_3 hp3 dX9_add_41 (fun H locs w_M_4 => ?_)
    rw [← eM_4] at w_M_4
    refine lv_aload_n hx hb dX9_add_42 rfl (lv_at hl 0 rfl) ?_
    refine lv_dup hx hb dX9_add_43 rfl ?_
    refine g_geti X w_M_4 fg_X9_29 KD_24 FR_24_2 dX9_add_44 ?_
    refine g_iconst X dX9_add_47 ?_
    refine g_iadd X dX9_add_48 ?_
    obtain ⟨M_5, eM_5, hf⟩ := lt_some hf
    refine g_puti X w_M_4 fp_X9_29 KD_24 FR_24_2 (inR_wrap _) dX9_add_49 (fun H locs w_M_5 => ?_)
    rw [← eM_5] at w_M_5
    exact HR M_5 _ _ _ _ (Option.some.inj hf).symm w_M_5 dX9_add_52
set_option maxRecDepth 100000 in
set_option maxHeartbeats 4000000 in
theorem k_X9_add {l : Launch} {D : va_G} {aC : Nat → ClassId} {ad : Nat → Nat} {sg : SG} (hi : Inj ad) (p1 : Int) (hp1 : inR p1) (p2 : Int) (hp2 : inR p2) (p3 : Int) (hp3 : inR p3) {M : Mem} (hM : inM M) {M' : Mem} (hf : f_X9_add p1 p2 p3 M = some M') : MetV l D aC ad sg yX9_add cX9_add 4 rm_X9_add 0 0 [.ref (ad 24), .int (i2 p1), .int (i2 p2), .int (i2 p3)] M M' := by
  refine MetV.of (by decide +kernel) (nle rfl) hi hM (fun p e s m args below meth c Q H0 ls X hl w hret => ?_)
  exact b_X9_add_0 X  (fun M1 H locs pc ls eo w dg => by cases eo; exact hret H locs pc ls w dg) p1 hp1 p2 hp2 p3 hp3 M hf hl w
set_option maxRecDepth 100000 in
set_option maxHeartbeats 4000000 in
theorem b_X9_isDigit_0 (X : CX p s m args c cX9_isDigit 1 RX9 D aC ad sg A H0) {M : Mem} {o : Int} (HR : ∀ (r : Int) (H : Heap) (locs : List Loc) (pc : Nat) (ls : Array Slot), o = r → isZ r → WS D aC ad A H0 M H locs → decode cX9_isDigit pc = .ok (.ireturn, 1) → W p l e rm_X9_isDigit s m args below meth c H locs 0 0 Q (F0 m pc ls [.int (i2 r)])) (p0 : Int) (hp0 : inR p0) (hf : f_X9_isDigit p0 M = some o) {H : Heap} {locs : List Loc} {ls : Array Slot} (hl : lv_has ls 1 [(0, .int (i2 p0))]) (w : WS D aC ad A H0 M H locs) : W p l e rm_X9_isDigit s m args below meth c H locs 0 0 Q (F0 m 0 ls []) := by
  have hx := X.1.1
  have hb := X.1.2.1
  unfold f_X9_isDigit at hf
  refine lv_iload_n hx hb dX9_isDigit_0 rfl (lv_at hl 0 rfl) ?_
  refine g_bipush X dX9_isDigit_1 (by decide) ?_
  refine g_icmp_lt (tgt := 16) X hp0 (inL rfl) dX9_isDigit_3 (by decide) (fun cd => ?_) (fun cd => ?_)
  · replace hf := ite_t cd hf
    refine g_iconst X dX9_isDigit_16 ?_
    exact HR 0 _ _ _ _ (Option.some.inj hf).symm (Or.inl rfl) w dX9_isDigit_17
  · replace hf := ite_f cd hf
    refine lv_iload_n hx hb dX9_isDigit_6 rfl (lv_at hl 0 rfl) ?_
    refine g_bipush X dX9_isDigit_7 (by decide) ?_
    refine g_icmp_gt (tgt := 16) X hp0 (inL rfl) dX9_isDigit_9 (by decide) (fun cd_2 => ?_) (fun cd_2 => ?_)
    · replace hf := ite_t cd_2 hf
      refine g_iconst X dX9_isDigit_16 ?_
      exact HR 0 _ _ _ _ (Option.some.inj hf).symm (Or.inl rfl) w dX9_isDigit_17
    · replace hf := ite_f cd_2 hf
      refine g_iconst X dX9_isDigit_12 ?_
      refine lv_goto (tgt := 17) hx hb dX9_isDigit_13 (by decide) ?_
      exact HR 1 _ _ _ _ (Option.some.inj hf).symm (Or.inr rfl) w dX9_isDigit_17
set_option maxRecDepth 100000 in
set_option maxHeartbeats 4000000 in
theorem k_X9_isDigit {l : Launch} {D : va_G} {aC : Nat → ClassId} {ad : Nat → Nat} {sg : SG} (hi : Inj ad) (p0 : Int) (hp0 : inR p0) {M : Mem} (hM : inM M) {r : Int} (hf : f_X9_isDigit p0 M = some r) : MetI l D aC ad sg yX9_isDigit cX9_isDigit 1 (some .boolean) rm_X9_isDigit 0 0 [.int (i2 p0)] M r M := by
  refine MetI.ofZ (by decide +kernel) (nle rfl) hi hM (fun p e s m args below meth c Q H0 ls X hl w hret => ?_)
  exact b_X9_isDigit_0 X  (fun r1 H locs pc ls eo hP w dg => by cases eo; exact hret H locs pc ls hP w dg) p0 hp0 hf hl w
set_option maxRecDepth 100000 in
set_option maxHeartbeats 4000000 in
theorem b_X9_scanNumber_s4 (X : CX p s m args c cX9_scanNumber 4 RX9 D aC ad sg A H0) (v1 : Int) (hv1 : inR v1) {M : Mem} {o : (Int × Int) ⊕ (Int × Int)} (HC : ∀ (y2 : Int) (y3 : Int) (H : Heap) (locs : List Loc) (ls : Array Slot), o = .inl (y2, y3) → inR y2 → inR y3 → lv_has ls 4 [(0, .ref (ad 24)), (1, .int (i2 v1)), (2, .int (i2 y2)), (3, .int (i2 y3))] → WS D aC ad A H0 M H locs → W p l e rm_X9_scanNumber s m args below meth c H locs 0 0 Q (F0 m 4 ls [])) (HE : ∀ (y2 : Int) (y3 : Int) (H : Heap) (locs : List Loc) (ls : Array Slot), o = .inr (y2, y3) → inR y2 → inR y3 → lv_has ls 4 [(0, .ref (ad 24)), (1, .int (i2 v1)), (2, .int (i2 y2)), (3, .int (i2 y3))] → WS D aC ad A H0 M H locs → W p l e rm_X9_scanNumber s m args below meth c H locs 0 0 Q (F0 m 52 ls [])) (v2 : Int) (hv2 : inR v2) (v3 : Int) (hv3 : inR v3) (hf : f_X9_scanNumber_s4 v1 M v2 v3 = some o) {H : Heap} {locs : List Loc} {ls : Array Slot} (hl : lv_has ls 4 [(0, .ref (ad 24)), (1, .int (i2 v1)), (2, .int (i2 v2)), (3, .int (i2 v3))]) (w : WS D aC ad A H0 M H locs) : W p l e rm_X9_scanNumber s m args below meth c H locs 0 0 Q (F0 m 4 ls []) := by
  have hx := X.1.1
  have hb := X.1.2.1
  unfold f_X9_scanNumber_s4 at hf
  refine lv_iload_n hx hb dX9_scanNumber_4 rfl (lv_at hl 3 rfl) ?_
  refine lv_aload_n hx hb dX9_scanNumber_5 rfl (lv_at hl 0 rfl) ?_
  refine g_geti X w fg_X9_25 KD_24 FR_24_0 dX9_scanNumber_6 ?_
  refine g_icmp_ge (tgt := 52) X hv3 (w.2.2 _ _) dX9_scanNumber_9 (by decide) (fun cd => ?_) (fun cd => ?_)
  · replace hf := ite_t cd hf
    exact HE v2 v3 _ _ _ (Option.some.inj hf).symm hv2 hv3 hl w
  · replace hf := ite_f cd hf
    refine lv_aload_n hx hb dX9_scanNumber_12 rfl (lv_at hl 0 rfl) ?_
    refine g_getr X w fg_X9_11 KD_24 FR_24_1 dX9_scanNumber_13 ?_
    refine lv_iload_n hx hb dX9_scanNumber_16 rfl (lv_at hl 3 rfl) ?_
    obtain ⟨hg, hf⟩ := gd_some hf
    refine g_cald X w KD_25 hv3 hg dX9_scanNumber_17 ?_
    obtain ⟨r, hc, hf⟩ := obn_some hf
    refine g_csi (As := [.int (i2 (M 25 v3.toNat))]) (rest := []) X w (k_X9_isDigit X.2.2.1 (M 25 v3.toNat) (w.2.2 _ _) w.2.2 hc) lk_X9_53 ⟨rfl, rfl⟩ ⟨nle rfl, nle rfl⟩ ⟨nle rfl, nle rfl⟩ hl.1 rfl (nle rfl) dX9_scanNumber_18 (fun hr H locs w => ?_)
    refine g_if_eq (tgt := 52) X hr dX9_scanNumber_21 (by decide) (fun cd_2 => ?_) (fun cd_2 => ?_)
    · replace hf := ite_t cd_2 hf
      exact HE v2 v3 _ _ _ (Option.some.inj hf).symm hv2 hv3 hl w
    · replace hf := ite_f cd_2 hf
      refine lv_iload_n hx hb dX9_scanNumber_24 rfl (lv_at hl 3 rfl) ?_
      refine lv_iload_n hx hb dX9_scanNumber_25 rfl (lv_at hl 1 rfl) ?_
      refine g_iconst X dX9_scanNumber_26 ?_
      refine g_iadd X dX9_scanNumber_27 ?_
      refine g_icmp_ge (tgt := 46) X hv3 (inR_wrap _) dX9_scanNumber_28 (by decide) (fun cd_3 => ?_) (fun cd_3 => ?_)
      · replace hf := ite_t cd_3 hf
        obtain ⟨v3_2, ev3_2, hf⟩ := lt_some hf
        have hv3_2 : inR v3_2 := inR_of ev3_2 (inR_wrap _)
        refine lv_iinc (v := i2 v3_2) (lv' := [(3, .int (i2 v3_2)), (0, .ref (ad 24)), (1, .int (i2 v1)), (2, .int (i2 v2))]) hx hb dX9_scanNumber_46 hl (k := 3) rfl (by rw [ev3_2]; exact i2_add _ _) (by decide) rfl (fun ls hl => ?_)
        refine lv_goto (tgt := 4) hx hb dX9_scanNumber_49 (by decide) ?_
        exact HC v2 v3_2 _ _ _ (Option.some.inj hf).symm hv2 hv3_2 (lv_sub hl [1, 2, 3, 0] rfl) w
      · replace hf := ite_f cd_3 hf
        refine g_bipush X dX9_scanNumber_31 (by decide) ?_
        refine lv_iload_n hx hb dX9_scanNumber_33 rfl (lv_at hl 2 rfl) ?_
        refine g_imul X dX9_scanNumber_34 ?_
        refine lv_aload_n hx hb dX9_scanNumber_35 rfl (lv_at hl 0 rfl) ?_
        refine g_getr X w fg_X9_11 KD_24 FR_24_1 dX9_scanNumber_36 ?_
        refine lv_iload_n hx hb dX9_scanNumber_39 rfl (lv_at hl 3 rfl) ?_
        obtain ⟨hg_2, hf⟩ := gd_some hf
        refine g_cald X w KD_25 hv3 hg_2 dX9_scanNumber_40 ?_
        refine g_iadd X dX9_scanNumber_41 ?_
        refine g_bipush X dX9_scanNumber_42 (by decide) ?_
        refine g_isub X dX9_scanNumber_44 ?_
        obtain ⟨v2_2, ev2_2, hf⟩ := lt_some hf
        have hv2_2 : inR v2_2 := inR_of ev2_2 (inR_wrap _)
        refine g_istn (v := v2_2) (lv' := [(2, .int (i2 v2_2)), (0, .ref (ad 24)), (1, .int (i2 v1)), (3, .int (i2 v3))]) X ev2_2 dX9_scanNumber_45 rfl hl (by decide) rfl (fun ls hl => ?_)
        obtain ⟨v3_3, ev3_3, hf⟩ := lt_some hf
        have hv3_3 : inR v3_3 := inR_of ev3_3 (inR_wrap _)
        refine lv_iinc (v := i2 v3_3) (lv' := [(3, .int (i2 v3_3)), (2, .int (i2 v2_2)), (0, .ref (ad 24)), (1, .int (i2 v1))]) hx hb dX9_scanNumber_46 hl (k := 3) rfl (by rw [ev3_3]; exact i2_add _ _) (by decide) rfl (fun ls hl => ?_)
        refine lv_goto (tgt := 4) hx hb dX9_scanNumber_49 (by decide) ?_
        exact HC v2_2 v3_3 _ _ _ (Option.some.inj hf).symm hv2_2 hv3_3 (lv_sub hl [2, 3, 1, 0] rfl) w
set_option maxRecDepth 100000 in
set_option maxHeartbeats 4000000 in
theorem l_X9_scanNumber_4 (X : CX p s m args c cX9_scanNumber 4 RX9 D aC ad sg A H0) (v1 : Int) (hv1 : inR v1) {M : Mem} {out : Int × Int} (HE : ∀ (y2 : Int) (y3 : Int) (H : Heap) (locs : List Loc) (ls : Array Slot), out = (y2, y3) → inR y2 → inR y3 → lv_has ls 4 [(0, .ref (ad 24)), (1, .int (i2 v1)), (2, .int (i2 y2)), (3, .int (i2 y3))] → WS D aC ad A H0 M H locs → W p l e rm_X9_scanNumber s m args below meth c H locs 0 0 Q (F0 m 52 ls [])) : ∀ (n : Nat) (v2 : Int) (v3 : Int), whl (fun s => f_X9_scanNumber_s4 v1 M s.1 s.2) n (v2, v3) = some out → inR v2 → inR v3 → ∀ {H : Heap} {locs : List Loc} {ls : Array Slot}, lv_has ls 4 [(0, .ref (ad 24)), (1, .int (i2 v1)), (2, .int (i2 v2)), (3, .int (i2 v3))] → WS D aC ad A H0 M H locs → W p l e rm_X9_scanNumber s m args below meth c H locs 0 0 Q (F0 m 4 ls []) := by
  intro n
  induction n with
  | zero => intro v2 v3 hf; exact (whl_zero hf).elim
  | succ n ih =>
    intro v2 v3 hf hv2 hv3 H locs ls hl w
    obtain ⟨o, hf, hk1, hk2⟩ := whl_step hf
    exact b_X9_scanNumber_s4 X v1 hv1 (fun y2 y3 H locs ls eo hy2 hy3 hl w => ih y2 y3 (hk1 _ eo) hy2 hy3 hl w) (fun y2 y3 H locs ls eo hy2 hy3 hl w => HE y2 y3 H locs ls (hk2 _ eo).symm hy2 hy3 hl w) v2 hv2 v3 hv3 hf hl w
set_option maxRecDepth 100000 in
set_option maxHeartbeats 4000000 in
theorem b_X9_scanNumber_j52 (X : CX p s m args c cX9_scanNumber 4 RX9 D aC ad sg A H0) {o : Int × Mem} (HR : ∀ (r : Int) (M1 : Mem) (H : Heap) (locs : List Loc) (pc : Nat) (ls : Array Slot), o = (r, M1) → inR r → WS D aC ad A H0 M1 H locs → decode cX9_scanNumber pc = .ok (.ireturn, 1) → W p l e rm_X9_scanNumber s m args below meth c H locs 0 0 Q (F0 m pc ls [.int (i2 r)])) (v1 : Int) (hv1 : inR v1) (v2 : Int) (hv2 : inR v2) (v3 : Int) (hv3 : inR v3) (M : Mem) (hf : f_X9_scanNumber_j52 v1 v2 v3 M = some o) {H : Heap} {locs : List Loc} {ls : Array Slot} (hl : lv_has ls 4 [(0, .ref (ad 24)), (1, .int (i2 v1)), (2, .int (i2 v2)), (3, .int (i2 v3))]) (w : WS D aC ad A H0 M H locs) : W p l e rm_X9_scanNumber s m args below meth c H locs 0 0 Q (F0 m 52 ls []) := by
  have hx := X.1.1
  have hb := X.1.2.1
  unfold f_X9_scanNumber_j52 at hf
  refine lv_aload_n hx hb dX9_scanNumber_52 rfl (lv_at hl 0 rfl) ?_
  refine lv_iload_n hx hb dX9_scanNumber_53 rfl (lv_at hl 3 rfl) ?_
  refine lv_iload_n hx hb dX9_scanNumber_54 rfl (lv_at hl 1 rfl) ?_
  refine g_iconst X dX9_scanNumber_55 ?_
  refine g_iadd X dX9_scanNumber_56 ?_
  refine g_icmp_le (tgt := 65) X hv3 (inR_wrap _) dX9_scanNumber_57 (by decide) (fun cd => ?_) (fun cd => ?_)
  · replace hf := ite_t cd hf
    refine g_bipush X dX9_scanNumber_65 (by decide) ?_
    refine lv_iload_n hx hb dX9_scanNumber_67 rfl (lv_at hl 1 rfl) ?_
    refine lv_iload_n hx hb dX9_scanNumber_68 rfl (lv_at hl 2 rfl) ?_
    obtain ⟨M_2, hc, hf⟩ := obn_some hf
    refine g_cvv (As := [.int (i2 (-3)), .int (i2 v1), .int (i2 v2)]) (rest := []) X w (k_X9_add X.2.2.1 (-3) (inL rfl) v1 hv1 v2 hv2 w.2.2 hc) lk_X9_42 cl_9 KD_24 ⟨rfl, rfl⟩ ⟨nle rfl, nle rfl⟩ ⟨nle rfl, nle rfl⟩ hl.1 rfl (nle rfl) dX9_scanNumber_69 (fun H locs w_M_2 => ?_)
    refine lv_iload_n hx hb dX9_scanNumber_72 rfl (lv_at hl 3 rfl) ?_
    refine lv_iload_n hx hb dX9_scanNumber_73 rfl (lv_at hl 1 rfl) ?_
    refine g_isub X dX9_scanNumber_74 ?_
    exact HR (wrap (v3 - v1)) M_2 _ _ _ _ (Option.some.inj hf).symm (inR_wrap _) w_M_2 dX9_scanNumber_75
  · replace hf := ite_f cd hf
    refine g_bipush X dX9_scanNumber_60 (by decide) ?_
    refine lv_goto (tgt := 67) hx hb dX9_scanNumber_62 (by decide) ?_
    refine lv_iload_n hx hb dX9_scanNumber_67 rfl (lv_at hl 1 rfl) ?_
    refine lv_iload_n hx hb dX9_scanNumber_68 rfl (lv_at hl 2 rfl) ?_
    obtain ⟨M_3, hc, hf⟩ := obn_some hf
    refine g_cvv (As := [.int (i2 (-2)), .int (i2 v1), .int (i2 v2)]) (rest := []) X w (k_X9_add X.2.2.1 (-2) (inL rfl) v1 hv1 v2 hv2 w.2.2 hc) lk_X9_42 cl_9 KD_24 ⟨rfl, rfl⟩ ⟨nle rfl, nle rfl⟩ ⟨nle rfl, nle rfl⟩ hl.1 rfl (nle rfl) dX9_scanNumber_69 (fun H locs w_M_3 => ?_)
    refine lv_iload_n hx hb dX9_scanNumber_72 rfl (lv_at hl 3 rfl) ?_
    refine lv_iload_n hx hb dX9_scanNumber_73 rfl (lv_at hl 1 rfl) ?_
    refine g_isub X dX9_scanNumber_74 ?_
    exact HR (wrap (v3 - v1)) M_3 _ _ _ _ (Option.some.inj hf).symm (inR_wrap _) w_M_3 dX9_scanNumber_75
set_option maxRecDepth 100000 in
set_option maxHeartbeats 4000000 in
theorem b_X9_scanNumber_0 (X : CX p s m args c cX9_scanNumber 4 RX9 D aC ad sg A H0) {o : Int × Mem} (HR : ∀ (r : Int) (M1 : Mem) (H : Heap) (locs : List Loc) (pc : Nat) (ls : Array Slot), o = (r, M1) → inR r → WS D aC ad A H0 M1 H locs → decode cX9_scanNumber pc = .ok (.ireturn, 1) → W p l e rm_X9_scanNumber s m args below meth c H locs 0 0 Q (F0 m pc ls [.int (i2 r)])) (p1 : Int) (hp1 : inR p1) (M : Mem) (hf : f_X9_scanNumber p1 M = some o) {H : Heap} {locs : List Loc} {ls : Array Slot} (hl : lv_has ls 4 [(0, .ref (ad 24)), (1, .int (i2 p1))]) (w : WS D aC ad A H0 M H locs) : W p l e rm_X9_scanNumber s m args below meth c H locs 0 0 Q (F0 m 0 ls []) := by
  have hx := X.1.1
  have hb := X.1.2.1
  unfold f_X9_scanNumber at hf
  refine g_iconst X dX9_scanNumber_0 ?_
  refine g_istn (v := 0) (lv' := [(2, .int (i2 0)), (0, .ref (ad 24)), (1, .int (i2 p1))]) X rfl dX9_scanNumber_1 rfl hl (by decide) rfl (fun ls hl => ?_)
  refine lv_iload_n hx hb dX9_scanNumber_2 rfl (lv_at hl 2 rfl) ?_
  refine g_istn (v := p1) (lv' := [(3, .int (i2 p1)), (2, .int (i2 0)), (0, .ref (ad 24)), (1, .int (i2 p1))]) X rfl dX9_scanNumber_3 rfl hl (by decide) rfl (fun ls hl => ?_)
  obtain ⟨q, hq, h1⟩ := obn_some hf
  exact l_X9_scanNumber_4 X p1 hp1 (out := q) (fun y2 y3 H locs ls eq hy2 hy3 hl w => b_X9_scanNumber_j52 X  HR p1 hp1 y2 hy2 y3 hy3 M (by subst eq; exact h1) hl w)  FU 0 p1 hq (inL rfl) hp1 (lv_sub hl [2, 3, 1, 0] rfl) w
set_option maxRecDepth 100000 in
set_option maxHeartbeats 4000000 in
theorem k_X9_scanNumber {l : Launch} {D : va_G} {aC : Nat → ClassId} {ad : Nat → Nat} {sg : SG} (hi : Inj ad) (p1 : Int) (hp1 : inR p1) {M : Mem} (hM : inM M) {r : Int} {M' : Mem} (hf : f_X9_scanNumber p1 M = some (r, M')) : MetI l D aC ad sg yX9_scanNumber cX9_scanNumber 4 (some .int) rm_X9_scanNumber 0 0 [.ref (ad 24), .int (i2 p1)] M r M' := by
  refine MetI.ofI (by decide +kernel) (nle rfl) hi hM (fun p e s m args below meth c Q H0 ls X hl w hret => ?_)
  exact b_X9_scanNumber_0 X  (fun r1 M1 H locs pc ls eo hP w dg => by cases eo; exact hret H locs pc ls hP w dg) p1 hp1 M hf hl w
set_option maxRecDepth 100000 in
set_option maxHeartbeats 4000000 in
theorem b_X9_scanToken_j108 (X : CX p s m args c cX9_scanToken 4 RX9 D aC ad sg A H0) {o : Int × Mem} (HR : ∀ (r : Int) (M1 : Mem) (H : Heap) (locs : List Loc) (pc : Nat) (ls : Array Slot), o = (r, M1) → inR r → WS D aC ad A H0 M1 H locs → decode cX9_scanToken pc = .ok (.ireturn, 1) → W p l e rm_X9_scanToken s m args below meth c H locs 0 0 Q (F0 m pc ls [.int (i2 r)])) (v1 : Int) (hv1 : inR v1) (v2 : Int) (hv2 : inR v2) (s0 : Int) (hs0 : inR s0) (M : Mem) (hf : f_X9_scanToken_j108 v1 v2 s0 M = some o) {H : Heap} {locs : List Loc} {ls : Array Slot} (hl : lv_has ls 4 [(0, .ref (ad 24)), (1, .int (i2 v1)), (2, .int (i2 v2))]) (w : WS D aC ad A H0 M H locs) : W p l e rm_X9_scanToken s m args below meth c H locs 0 0 Q (F0 m 108 ls [.int (i2 s0)]) := by
  have hx := X.1.1
  have hb := X.1.2.1
  unfold f_X9_scanToken_j108 at hf
  refine g_istn (v := s0) (lv' := [(3, .int (i2 s0)), (0, .ref (ad 24)), (1, .int (i2 v1)), (2, .int (i2 v2))]) X rfl dX9_scanToken_108 rfl hl (by decide) rfl (fun ls hl => ?_)
  refine lv_aload_n hx hb dX9_scanToken_109 rfl (lv_at hl 1 rfl) ?_
  refine lv_iload_n hx hb dX9_scanToken_110 rfl (lv_at hl 0 rfl) ?_
  refine g_if_eq (tgt := 118) X hs0 dX9_scanToken_111 (by decide) (fun cd => ?_) (fun cd => ?_)
  · replace hf := ite_t cd hf
    refine g_bipush X dX9_scanToken_118 (by decide) ?_
    refine lv_iload_n hx hb dX9_scanToken_120 rfl (lv_at hl 2 rfl) ?_
    refine g_iconst X dX9_scanToken_121 ?_
    obtain ⟨M_2, hc, hf⟩ := obn_some hf
    refine g_cvv (As := [.int (i2 (-2)), .int (i2 v1), .int (i2 0)]) (rest := []) X w (k_X9_add X.2.2.1 (-2) (inL rfl) v1 hv1 0 (inL rfl) w.2.2 hc) lk_X9_42 cl_9 KD_24 ⟨rfl, rfl⟩ ⟨nle rfl, nle rfl⟩ ⟨nle rfl, nle rfl⟩ hl.1 rfl (nle rfl) dX9_scanToken_122 (fun H locs w_M_2 => ?_)
    refine g_iconst X dX9_scanToken_125 ?_
    exact HR 1 M_2 _ _ _ _ (Option.some.inj hf).symm (inL rfl) w_M_2 dX9_scanToken_126
  · replace hf := ite_f cd hf
    refine lv_iload_n hx hb dX9_scanToken_114 rfl (lv_at hl 3 rfl) ?_
    refine lv_goto (tgt := 120) hx hb dX9_scanToken_115 (by decide) ?_
    refine lv_iload_n hx hb dX9_scanToken_120 rfl (lv_at hl 2 rfl) ?_
    refine g_iconst X dX9_scanToken_121 ?_
    obtain ⟨M_3, hc, hf⟩ := obn_some hf
    refine g_cvv (As := [.int (i2 v2), .int (i2 v1), .int (i2 0)]) (rest := []) X w (k_X9_add X.2.2.1 v2 hv2 v1 hv1 0 (inL rfl) w.2.2 hc) lk_X9_42 cl_9 KD_24 ⟨rfl, rfl⟩ ⟨nle rfl, nle rfl⟩ ⟨nle rfl, nle rfl⟩ hl.1 rfl (nle rfl) dX9_scanToken_122 (fun H locs w_M_3 => ?_)
    refine g_iconst X dX9_scanToken_125 ?_
    exact HR 1 M_3 _ _ _ _ (Option.some.inj hf).symm (inL rfl) w_M_3 dX9_scanToken_126
set_option maxRecDepth 100000 in
set_option maxHeartbeats 4000000 in
theorem b_X9_scanToken_s16 (X : CX p s m args c cX9_scanToken 4 RX9 D aC ad sg A H0) (v1 : Int) (hv1 : inR v1) {M : Mem} {o : (Int) ⊕ (Int)} (HC : ∀ (y3 : Int) (H : Heap) (locs : List Loc) (ls : Array Slot), o = .inl y3 → inR y3 → lv_has ls 4 [(0, .ref (ad 24)), (1, .int (i2 v1)), (3, .int (i2 y3))] → WS D aC ad A H0 M H locs → W p l e rm_X9_scanToken s m args below meth c H locs 0 0 Q (F0 m 16 ls [])) (HE : ∀ (y3 : Int) (H : Heap) (locs : List Loc) (ls : Array Slot), o = .inr y3 → inR y3 → lv_has ls 4 [(0, .ref (ad 24)), (1, .int (i2 v1)), (3, .int (i2 y3))] → WS D aC ad A H0 M H locs → W p l e rm_X9_scanToken s m args below meth c H locs 0 0 Q (F0 m 42 ls [])) (v3 : Int) (hv3 : inR v3) (hf : f_X9_scanToken_s16 v1 M v3 = some o) {H : Heap} {locs : List Loc} {ls : Array Slot} (hl : lv_has ls 4 [(0, .ref (ad 24)), (1, .int (i2 v1)), (3, .int (i2 v3))]) (w : WS D aC ad A H0 M H locs) : W p l e rm_X9_scanToken s m args below meth c H locs 0 0 Q (F0 m 16 ls []) := by
  have hx := X.1.1
  have hb := X.1.2.1
  unfold f_X9_scanToken_s16 at hf
  refine lv_iload_n hx hb dX9_scanToken_16 rfl (lv_at hl 2 rfl) ?_
  refine lv_aload_n hx hb dX9_scanToken_17 rfl (lv_at hl 0 rfl) ?_
  refine g_geti X w fg_X9_25 KD_24 FR_24_0 dX9_scanToken_18 ?_
  refine g_icmp_ge (tgt := 42) X hv3 (w.2.2 _ _) dX9_scanToken_21 (by decide) (fun cd => ?_) (fun cd => ?_)
  · replace hf := ite_t cd hf
    exact HE v3 _ _ _ (Option.some.inj hf).symm hv3 hl w
  · replace hf := ite_f cd hf
    refine lv_aload_n hx hb dX9_scanToken_24 rfl (lv_at hl 0 rfl) ?_
    refine g_getr X w fg_X9_11 KD_24 FR_24_1 dX9_scanToken_25 ?_
    refine lv_iload_n hx hb dX9_scanToken_28 rfl (lv_at hl 2 rfl) ?_
    obtain ⟨hg, hf⟩ := gd_some hf
    refine g_cald X w KD_25 hv3 hg dX9_scanToken_29 ?_
    obtain ⟨r, hc, hf⟩ := obn_some hf
    refine g_csi (As := [.int (i2 (M 25 v3.toNat))]) (rest := []) X w (k_X9_isLetter X.2.2.1 (M 25 v3.toNat) (w.2.2 _ _) w.2.2 hc) lk_X9_46 ⟨rfl, rfl⟩ ⟨nle rfl, nle rfl⟩ ⟨nle rfl, nle rfl⟩ hl.1 rfl (nle rfl) dX9_scanToken_30 (fun hr H locs w => ?_)
    refine g_if_eq (tgt := 42) X hr dX9_scanToken_33 (by decide) (fun cd_2 => ?_) (fun cd_2 => ?_)
    · replace hf := ite_t cd_2 hf
      exact HE v3 _ _ _ (Option.some.inj hf).symm hv3 hl w
    · replace hf := ite_f cd_2 hf
      obtain ⟨v3_2, ev3_2, hf⟩ := lt_some hf
      have hv3_2 : inR v3_2 := inR_of ev3_2 (inR_wrap _)
      refine lv_iinc (v := i2 v3_2) (lv' := [(3, .int (i2 v3_2)), (0, .ref (ad 24)), (1, .int (i2 v1))]) hx hb dX9_scanToken_36 hl (k := 2) rfl (by rw [ev3_2]; exact i2_add _ _) (by decide) rfl (fun ls hl => ?_)
      refine lv_goto (tgt := 16) hx hb dX9_scanToken_39 (by decide) ?_
      exact HC v3_2 _ _ _ (Option.some.inj hf).symm hv3_2 (lv_sub hl [1, 2, 0] rfl) w
set_option maxRecDepth 100000 in
set_option maxHeartbeats 4000000 in
theorem l_X9_scanToken_16 (X : CX p s m args c cX9_scanToken 4 RX9 D aC ad sg A H0) (v1 : Int) (hv1 : inR v1) {M : Mem} {out : Int} (HE : ∀ (y3 : Int) (H : Heap) (locs : List Loc) (ls : Array Slot), out = y3 → inR y3 → lv_has ls 4 [(0, .ref (ad 24)), (1, .int (i2 v1)), (3, .int (i2 y3))] → WS D aC ad A H0 M H locs → W p l e rm_X9_scanToken s m args below meth c H locs 0 0 Q (F0 m 42 ls [])) : ∀ (n : Nat) (v3 : Int), whl (fun s => f_X9_scanToken_s16 v1 M s) n v3 = some out → inR v3 → ∀ {H : Heap} {locs : List Loc} {ls : Array Slot}, lv_has ls 4 [(0, .ref (ad 24)), (1, .int (i2 v1)), (3, .int (i2 v3))] → WS D aC ad A H0 M H locs → W p l e rm_X9_scanToken s m args below meth c H locs 0 0 Q (F0 m 16 ls []) := by
  intro n
  induction n with
  | zero => intro v3 hf; exact (whl_zero hf).elim
  | succ n ih =>
    intro v3 hf hv3 H locs ls hl w
    obtain ⟨o, hf, hk1, hk2⟩ := whl_step hf
    exact b_X9_scanToken_s16 X v1 hv1 (fun y3 H locs ls eo hy3 hl w => ih y3 (hk1 _ eo) hy3 hl w) (fun y3 H locs ls eo hy3 hl w => HE y3 H locs ls (hk2 _ eo).symm hy3 hl w) v3 hv3 hf hl w
set_option maxRecDepth 100000 in
set_option maxHeartbeats 4000000 in
theorem b_X9_scanToken_j42 (X : CX p s m args c cX9_scanToken 4 RX9 D aC ad sg A H0) {o : Int × Mem} (HR : ∀ (r : Int) (M1 : Mem) (H : Heap) (locs : List Loc) (pc : Nat) (ls : Array Slot), o = (r, M1) → inR r → WS D aC ad A H0 M1 H locs → decode cX9_scanToken pc = .ok (.ireturn, 1) → W p l e rm_X9_scanToken s m args below meth c H locs 0 0 Q (F0 m pc ls [.int (i2 r)])) (v1 : Int) (hv1 : inR v1) (v3 : Int) (hv3 : inR v3) (M : Mem) (hf : f_X9_scanToken_j42 v1 v3 M = some o) {H : Heap} {locs : List Loc} {ls : Array Slot} (hl : lv_has ls 4 [(0, .ref (ad 24)), (1, .int (i2 v1)), (3, .int (i2 v3))]) (w : WS D aC ad A H0 M H locs) : W p l e rm_X9_scanToken s m args below meth c H locs 0 0 Q (F0 m 42 ls []) := by
  have hx := X.1.1
  have hb := X.1.2.1
  unfold f_X9_scanToken_j42 at hf
  refine lv_aload_n hx hb dX9_scanToken_42 rfl (lv_at hl 0 rfl) ?_
  refine lv_aload_n hx hb dX9_scanToken_43 rfl (lv_at hl 0 rfl) ?_
  refine lv_iload_n hx hb dX9_scanToken_44 rfl (lv_at hl 1 rfl) ?_
  refine lv_iload_n hx hb dX9_scanToken_45 rfl (lv_at hl 2 rfl) ?_
  refine lv_iload_n hx hb dX9_scanToken_46 rfl (lv_at hl 1 rfl) ?_
  refine g_isub X dX9_scanToken_47 ?_
  obtain ⟨r, M_2, hc, hf⟩ := bnd_some hf
  refine g_cvi (As := [.int (i2 v1), .int (i2 (wrap (v3 - v1)))]) (rest := [.ref (ad 24)]) X w (k_X9_wordCode X.2.2.1 v1 hv1 (wrap (v3 - v1)) (inR_wrap _) w.2.2 hc) lk_X9_50 cl_9 KD_24 ⟨rfl, rfl⟩ ⟨nle rfl, nle rfl⟩ ⟨nle rfl, nle rfl⟩ hl.1 rfl (nle rfl) dX9_scanToken_48 (fun hr H locs w_M_2 => ?_)
  refine lv_iload_n hx hb dX9_scanToken_51 rfl (lv_at hl 1 rfl) ?_
  refine g_iconst X dX9_scanToken_52 ?_
  obtain ⟨M_3, hc, hf⟩ := obn_some hf
  refine g_cvv (As := [.int (i2 r), .int (i2 v1), .int (i2 0)]) (rest := []) X w_M_2 (k_X9_add X.2.2.1 r hr v1 hv1 0 (inL rfl) w_M_2.2.2 hc) lk_X9_42 cl_9 KD_24 ⟨rfl, rfl⟩ ⟨nle rfl, nle rfl⟩ ⟨nle rfl, nle rfl⟩ hl.1 rfl (nle rfl) dX9_scanToken_53 (fun H locs w_M_3 => ?_)
  refine lv_iload_n hx hb dX9_scanToken_56 rfl (lv_at hl 2 rfl) ?_
  refine lv_iload_n hx hb dX9_scanToken_57 rfl (lv_at hl 1 rfl) ?_
  refine g_isub X dX9_scanToken_58 ?_
  exact HR (wrap (v3 - v1)) M_3 _ _ _ _ (Option.some.inj hf).symm (inR_wrap _) w_M_3 dX9_scanToken_59
set_option maxRecDepth 100000 in
set_option maxHeartbeats 4000000 in
theorem b_X9_scanToken_0 (X : CX p s m args c cX9_scanToken 4 RX9 D aC ad sg A H0) {o : Int × Mem} (HR : ∀ (r : Int) (M1 : Mem) (H : Heap) (locs : List Loc) (pc : Nat) (ls : Array Slot), o = (r, M1) → inR r → WS D aC ad A H0 M1 H locs → decode cX9_scanToken pc = .ok (.ireturn, 1) → W p l e rm_X9_scanToken s m args below meth c H locs 0 0 Q (F0 m pc ls [.int (i2 r)])) (p1 : Int) (hp1 : inR p1) (M : Mem) (hf : f_X9_scanToken p1 M = some o) {H : Heap} {locs : List Loc} {ls : Array Slot} (hl : lv_has ls 4 [(0, .ref (ad 24)), (1, .int (i2 p1))]) (w : WS D aC ad A H0 M H locs) : W p l e rm_X9_scanToken s m args below meth c H locs 0 0 Q (F0 m 0 ls []) := by
  have hx := X.1.1
  have hb := X.1.2.1
  unfold f_X9_scanToken at hf
  refine lv_aload_n hx hb dX9_scanToken_0 rfl (lv_at hl 0 rfl) ?_
  refine g_getr X w fg_X9_11 KD_24 FR_24_1 dX9_scanToken_1 ?_
  refine lv_iload_n hx hb dX9_scanToken_4 rfl (lv_at hl 1 rfl) ?_
  obtain ⟨hg, hf⟩ := gd_some hf
  refine g_cald X w KD_25 hp1 hg dX9_scanToken_5 ?_
  obtain ⟨v2, ev2, hf⟩ := lt_some hf
  have hv2 : inR v2 := inR_of ev2 (w.2.2 _ _)
  refine g_istn (v := v2) (lv' := [(2, .int (i2 v2)), (0, .ref (ad 24)), (1, .int (i2 p1))]) X ev2 dX9_scanToken_6 rfl hl (by decide) rfl (fun ls hl => ?_)
  refine lv_iload_n hx hb dX9_scanToken_7 rfl (lv_at hl 0 rfl) ?_
  obtain ⟨r, hc, hf⟩ := obn_some hf
  refine g_csi (As := [.int (i2 v2)]) (rest := []) X w (k_X9_isLetter X.2.2.1 v2 hv2 w.2.2 hc) lk_X9_46 ⟨rfl, rfl⟩ ⟨nle rfl, nle rfl⟩ ⟨nle rfl, nle rfl⟩ hl.1 rfl (nle rfl) dX9_scanToken_8 (fun hr H locs w => ?_)
  refine g_if_eq (tgt := 60) X hr dX9_scanToken_11 (by decide) (fun cd => ?_) (fun cd => ?_)
  · replace hf := ite_t cd hf
    refine lv_iload_n hx hb dX9_scanToken_60 rfl (lv_at hl 0 rfl) ?_
    obtain ⟨r_2, hc, hf⟩ := obn_some hf
    refine g_csi (As := [.int (i2 v2)]) (rest := []) X w (k_X9_isDigit X.2.2.1 v2 hv2 w.2.2 hc) lk_X9_53 ⟨rfl, rfl⟩ ⟨nle rfl, nle rfl⟩ ⟨nle rfl, nle rfl⟩ hl.1 rfl (nle rfl) dX9_scanToken_61 (fun hr_2 H locs w => ?_)
    refine g_if_eq (tgt := 73) X hr_2 dX9_scanToken_64 (by decide) (fun cd_2 => ?_) (fun cd_2 => ?_)
    · replace hf := ite_t cd_2 hf
      refine lv_iload_n hx hb dX9_scanToken_73 rfl (lv_at hl 0 rfl) ?_
      refine g_bipush X dX9_scanToken_74 (by decide) ?_
      refine g_icmp_eq (tgt := 103) X hv2 (inL rfl) dX9_scanToken_76 (by decide) (fun cd_3 => ?_) (fun cd_3 => ?_)
      · replace hf := ite_t cd_3 hf
        refine g_iconst X dX9_scanToken_103 ?_
        refine lv_goto (tgt := 108) hx hb dX9_scanToken_104 (by decide) ?_
        exact b_X9_scanToken_j108 X  HR p1 hp1 v2 hv2 1 (inL rfl) M hf (lv_sub hl [1, 2, 0] rfl) w
      · replace hf := ite_f cd_3 hf
        refine lv_iload_n hx hb dX9_scanToken_79 rfl (lv_at hl 0 rfl) ?_
        refine g_bipush X dX9_scanToken_80 (by decide) ?_
        refine g_icmp_eq (tgt := 103) X hv2 (inL rfl) dX9_scanToken_82 (by decide) (fun cd_4 => ?_) (fun cd_4 => ?_)
        · replace hf := ite_t cd_4 hf
          refine g_iconst X dX9_scanToken_103 ?_
          refine lv_goto (tgt := 108) hx hb dX9_scanToken_104 (by decide) ?_
          exact b_X9_scanToken_j108 X  HR p1 hp1 v2 hv2 1 (inL rfl) M hf (lv_sub hl [1, 2, 0] rfl) w
        · replace hf := ite_f cd_4 hf
          refine lv_iload_n hx hb dX9_scanToken_85 rfl (lv_at hl 0 rfl) ?_
          refine g_bipush X dX9_scanToken_86 (by decide) ?_
          refine g_icmp_eq (tgt := 103) X hv2 (inL rfl) dX9_scanToken_88 (by decide) (fun cd_5 => ?_) (fun cd_5 => ?_)
          · replace hf := ite_t cd_5 hf
            refine g_iconst X dX9_scanToken_103 ?_
            refine lv_goto (tgt := 108) hx hb dX9_scanToken_104 (by decide) ?_
            exact b_X9_scanToken_j108 X  HR p1 hp1 v2 hv2 1 (inL rfl) M hf (lv_sub hl [1, 2, 0] rfl) w
          · replace hf := ite_f cd_5 hf
            refine lv_iload_n hx hb dX9_scanToken_91 rfl (lv_at hl 0 rfl) ?_
            refine g_bipush X dX9_scanToken_92 (by decide) ?_
            refine g_icmp_eq (tgt := 103) X hv2 (inL rfl) dX9_scanToken_94 (by decide) (fun cd_6 => ?_) (fun cd_6 => ?_)
            · replace hf := ite_t cd_6 hf
              refine g_iconst X dX9_scanToken_103 ?_
              refine lv_goto (tgt := 108) hx hb dX9_scanToken_104 (by decide) ?_
              exact b_X9_scanToken_j108 X  HR p1 hp1 v2 hv2 1 (inL rfl) M hf (lv_sub hl [1, 2, 0] rfl) w
            · replace hf := ite_f cd_6 hf
              refine lv_iload_n hx hb dX9_scanToken_97 rfl (lv_at hl 0 rfl) ?_
              refine g_bipush X dX9_scanToken_98 (by decide) ?_
              refine g_icmp_ne (tgt := 107) X hv2 (inL rfl) dX9_scanToken_100 (by decide) (fun cd_7 => ?_) (fun cd_7 => ?_)
              · replace hf := ite_f cd_7 hf
                refine g_iconst X dX9_scanToken_107 ?_
                exact b_X9_scanToken_j108 X  HR p1 hp1 v2 hv2 0 (inL rfl) M hf (lv_sub hl [1, 2, 0] rfl) w
              · replace hf := ite_t cd_7 hf
                refine g_iconst X dX9_scanToken_103 ?_
                refine lv_goto (tgt := 108) hx hb dX9_scanToken_104 (by decide) ?_
                exact b_X9_scanToken_j108 X  HR p1 hp1 v2 hv2 1 (inL rfl) M hf (lv_sub hl [1, 2, 0] rfl) w
    · replace hf := ite_f cd_2 hf
      refine lv_aload_n hx hb dX9_scanToken_67 rfl (lv_at hl 1 rfl) ?_
      refine lv_iload_n hx hb dX9_scanToken_68 rfl (lv_at hl 2 rfl) ?_
      obtain ⟨r_3, M_2, hc, hf⟩ := bnd_some hf
      refine g_cvi (As := [.int (i2 p1)]) (rest := []) X w (k_X9_scanNumber X.2.2.1 p1 hp1 w.2.2 hc) lk_X9_56 cl_9 KD_24 ⟨rfl, rfl⟩ ⟨nle rfl, nle rfl⟩ ⟨nle rfl, nle rfl⟩ hl.1 rfl (nle rfl) dX9_scanToken_69 (fun hr_3 H locs w_M_2 => ?_)
      exact HR r_3 M_2 _ _ _ _ (Option.some.inj hf).symm hr_3 w_M_2 dX9_scanToken_72
  · replace hf := ite_f cd hf
    refine lv_iload_n hx hb dX9_scanToken_14 rfl (lv_at hl 2 rfl) ?_
    refine g_istn (v := p1) (lv' := [(3, .int (i2 p1)), (2, .int (i2 v2)), (0, .ref (ad 24)), (1, .int (i2 p1))]) X rfl dX9_scanToken_15 rfl hl (by decide) rfl (fun ls hl => ?_)
    obtain ⟨q, hq, h1⟩ := obn_some hf
    exact l_X9_scanToken_16 X p1 hp1 (out := q) (fun y3 H locs ls eq hy3 hl w => b_X9_scanToken_j42 X  HR p1 hp1 y3 hy3 M (by subst eq; exact h1) hl w)  FU p1 hq hp1 (lv_sub hl [2, 3, 0] rfl) w
set_option maxRecDepth 100000 in
set_option maxHeartbeats 4000000 in
theorem k_X9_scanToken {l : Launch} {D : va_G} {aC : Nat → ClassId} {ad : Nat → Nat} {sg : SG} (hi : Inj ad) (p1 : Int) (hp1 : inR p1) {M : Mem} (hM : inM M) {r : Int} {M' : Mem} (hf : f_X9_scanToken p1 M = some (r, M')) : MetI l D aC ad sg yX9_scanToken cX9_scanToken 4 (some .int) rm_X9_scanToken 0 0 [.ref (ad 24), .int (i2 p1)] M r M' := by
  refine MetI.ofI (by decide +kernel) (nle rfl) hi hM (fun p e s m args below meth c Q H0 ls X hl w hret => ?_)
  exact b_X9_scanToken_0 X  (fun r1 M1 H locs pc ls eo hP w dg => by cases eo; exact hret H locs pc ls hP w dg) p1 hp1 M hf hl w
set_option maxRecDepth 100000 in
set_option maxHeartbeats 4000000 in
theorem b_X9_scan_j44k9 (X : CX p s m args c cX9_scan 4 RX9 D aC ad sg A H0) {o : (Int × Mem) ⊕ (Int × Mem)} (HC : ∀ (y2 : Int) (M1 : Mem) (H : Heap) (locs : List Loc) (ls : Array Slot), o = .inl (y2, M1) → inR y2 → lv_has ls 4 [(0, .ref (ad 24)), (2, .int (i2 y2))] → WS D aC ad A H0 M1 H locs → W p l e rm_X9_scan s m args below meth c H locs 0 0 Q (F0 m 9 ls [])) (HE : ∀ (y2 : Int) (M1 : Mem) (H : Heap) (locs : List Loc) (ls : Array Slot), o = .inr (y2, M1) → inR y2 → lv_has ls 4 [(0, .ref (ad 24)), (2, .int (i2 y2))] → WS D aC ad A H0 M1 H locs → W p l e rm_X9_scan s m args below meth c H locs 0 0 Q (F0 m 70 ls [])) (v2 : Int) (hv2 : inR v2) (s0 : Int) (hs0 : inR s0) (M : Mem) (hf : f_X9_scan_j44k9 v2 s0 M = some o) {H : Heap} {locs : List Loc} {ls : Array Slot} (hl : lv_has ls 4 [(0, .ref (ad 24)), (2, .int (i2 v2))]) (w : WS D aC ad A H0 M H locs) : W p l e rm_X9_scan s m args below meth c H locs 0 0 Q (F0 m 44 ls [.int (i2 s0)]) := by
  have hx := X.1.1
  have hb := X.1.2.1
  unfold f_X9_scan_j44k9 at hf
  refine g_istn (v := s0) (lv' := [(3, .int (i2 s0)), (0, .ref (ad 24)), (2, .int (i2 v2))]) X rfl dX9_scan_44 rfl hl (by decide) rfl (fun ls hl => ?_)
  refine lv_iload_n hx hb dX9_scan_45 rfl (lv_at hl 0 rfl) ?_
  refine g_if_eq (tgt := 53) X hs0 dX9_scan_46 (by decide) (fun cd => ?_) (fun cd => ?_)
  · replace hf := ite_t cd hf
    refine lv_aload_n hx hb dX9_scan_53 rfl (lv_at hl 1 rfl) ?_
    refine lv_iload_n hx hb dX9_scan_54 rfl (lv_at hl 2 rfl) ?_
    obtain ⟨r, M_2, hc, hf⟩ := bnd_some hf
    refine g_cvi (As := [.int (i2 v2)]) (rest := []) X w (k_X9_scanToken X.2.2.1 v2 hv2 w.2.2 hc) lk_X9_32 cl_9 KD_24 ⟨rfl, rfl⟩ ⟨nle rfl, nle rfl⟩ ⟨nle rfl, nle rfl⟩ hl.1 rfl (nle rfl) dX9_scan_55 (fun hr H locs w_M_2 => ?_)
    refine g_istn (v := r) (lv' := [(1, .int (i2 r)), (3, .int (i2 s0)), (0, .ref (ad 24)), (2, .int (i2 v2))]) X rfl dX9_scan_58 rfl hl (by decide) rfl (fun ls hl => ?_)
    refine lv_iload_n hx hb dX9_scan_59 rfl (lv_at hl 3 rfl) ?_
    refine g_iconst X dX9_scan_60 ?_
    refine lv_iload_n hx hb dX9_scan_61 rfl (lv_at hl 0 rfl) ?_
    refine g_max X (inL rfl) hr hl.1 mw_X9_36 ⟨nle rfl, nle rfl⟩ (nle rfl) (nle rfl) (nle rfl) dX9_scan_62 ?_
    refine g_iadd X dX9_scan_65 ?_
    obtain ⟨v2_2, ev2_2, hf⟩ := lt_some hf
    have hv2_2 : inR v2_2 := inR_of ev2_2 (inR_wrap _)
    refine g_istn (v := v2_2) (lv' := [(2, .int (i2 v2_2)), (1, .int (i2 r)), (3, .int (i2 s0)), (0, .ref (ad 24))]) X ev2_2 dX9_scan_66 rfl hl (by decide) rfl (fun ls hl => ?_)
    refine lv_goto (tgt := 9) hx hb dX9_scan_67 (by decide) ?_
    exact HC v2_2 M_2 _ _ _ (Option.some.inj hf).symm hv2_2 (lv_sub hl [3, 0] rfl) w_M_2
  · replace hf := ite_f cd hf
    refine g_iconst X dX9_scan_49 ?_
    refine lv_goto (tgt := 58) hx hb dX9_scan_50 (by decide) ?_
    refine g_istn (v := 1) (lv' := [(1, .int (i2 1)), (3, .int (i2 s0)), (0, .ref (ad 24)), (2, .int (i2 v2))]) X rfl dX9_scan_58 rfl hl (by decide) rfl (fun ls hl => ?_)
    refine lv_iload_n hx hb dX9_scan_59 rfl (lv_at hl 3 rfl) ?_
    refine g_iconst X dX9_scan_60 ?_
    refine lv_iload_n hx hb dX9_scan_61 rfl (lv_at hl 0 rfl) ?_
    refine g_max X (inL rfl) (inL rfl) hl.1 mw_X9_36 ⟨nle rfl, nle rfl⟩ (nle rfl) (nle rfl) (nle rfl) dX9_scan_62 ?_
    refine g_iadd X dX9_scan_65 ?_
    obtain ⟨v2_3, ev2_3, hf⟩ := lt_some hf
    have hv2_3 : inR v2_3 := inR_of ev2_3 (inR_wrap _)
    refine g_istn (v := v2_3) (lv' := [(2, .int (i2 v2_3)), (1, .int (i2 1)), (3, .int (i2 s0)), (0, .ref (ad 24))]) X ev2_3 dX9_scan_66 rfl hl (by decide) rfl (fun ls hl => ?_)
    refine lv_goto (tgt := 9) hx hb dX9_scan_67 (by decide) ?_
    exact HC v2_3 M _ _ _ (Option.some.inj hf).symm hv2_3 (lv_sub hl [3, 0] rfl) w
set_option maxRecDepth 100000 in
set_option maxHeartbeats 4000000 in
theorem b_X9_scan_s9 (X : CX p s m args c cX9_scan 4 RX9 D aC ad sg A H0) {o : (Int × Mem) ⊕ (Int × Mem)} (HC : ∀ (y2 : Int) (M1 : Mem) (H : Heap) (locs : List Loc) (ls : Array Slot), o = .inl (y2, M1) → inR y2 → lv_has ls 4 [(0, .ref (ad 24)), (2, .int (i2 y2))] → WS D aC ad A H0 M1 H locs → W p l e rm_X9_scan s m args below meth c H locs 0 0 Q (F0 m 9 ls [])) (HE : ∀ (y2 : Int) (M1 : Mem) (H : Heap) (locs : List Loc) (ls : Array Slot), o = .inr (y2, M1) → inR y2 → lv_has ls 4 [(0, .ref (ad 24)), (2, .int (i2 y2))] → WS D aC ad A H0 M1 H locs → W p l e rm_X9_scan s m args below meth c H locs 0 0 Q (F0 m 70 ls [])) (v2 : Int) (hv2 : inR v2) (M : Mem) (hf : f_X9_scan_s9 v2 M = some o) {H : Heap} {locs : List Loc} {ls : Array Slot} (hl : lv_has ls 4 [(0, .ref (ad 24)), (2, .int (i2 v2))]) (w : WS D aC ad A H0 M H locs) : W p l e rm_X9_scan s m args below meth c H locs 0 0 Q (F0 m 9 ls []) := by
  have hx := X.1.1
  have hb := X.1.2.1
  unfold f_X9_scan_s9 at hf
  refine lv_iload_n hx hb dX9_scan_9 rfl (lv_at hl 1 rfl) ?_
  refine lv_aload_n hx hb dX9_scan_10 rfl (lv_at hl 0 rfl) ?_
  refine g_geti X w fg_X9_25 KD_24 FR_24_0 dX9_scan_11 ?_
  refine g_icmp_ge (tgt := 70) X hv2 (w.2.2 _ _) dX9_scan_14 (by decide) (fun cd => ?_) (fun cd => ?_)
  · replace hf := ite_t cd hf
    exact HE v2 M _ _ _ (Option.some.inj hf).symm hv2 hl w
  · replace hf := ite_f cd hf
    refine lv_aload_n hx hb dX9_scan_17 rfl (lv_at hl 0 rfl) ?_
    refine g_getr X w fg_X9_11 KD_24 FR_24_1 dX9_scan_18 ?_
    refine lv_iload_n hx hb dX9_scan_21 rfl (lv_at hl 1 rfl) ?_
    obtain ⟨hg, hf⟩ := gd_some hf
    refine g_cald X w KD_25 hv2 hg dX9_scan_22 ?_
    refine g_bipush X dX9_scan_23 (by decide) ?_
    refine g_icmp_eq (tgt := 39) X (w.2.2 _ _) (inL rfl) dX9_scan_25 (by decide) (fun cd_2 => ?_) (fun cd_2 => ?_)
    · replace hf := ite_t cd_2 hf
      refine g_iconst X dX9_scan_39 ?_
      refine lv_goto (tgt := 44) hx hb dX9_scan_40 (by decide) ?_
      exact b_X9_scan_j44k9 X  HC HE v2 hv2 1 (inL rfl) M hf hl w
    · replace hf := ite_f cd_2 hf
      refine lv_aload_n hx hb dX9_scan_28 rfl (lv_at hl 0 rfl) ?_
      refine g_getr X w fg_X9_11 KD_24 FR_24_1 dX9_scan_29 ?_
      refine lv_iload_n hx hb dX9_scan_32 rfl (lv_at hl 1 rfl) ?_
      obtain ⟨hg_2, hf⟩ := gd_some hf
      refine g_cald X w KD_25 hv2 hg_2 dX9_scan_33 ?_
      refine g_bipush X dX9_scan_34 (by decide) ?_
      refine g_icmp_ne (tgt := 43) X (w.2.2 _ _) (inL rfl) dX9_scan_36 (by decide) (fun cd_3 => ?_) (fun cd_3 => ?_)
      · replace hf := ite_f cd_3 hf
        refine g_iconst X dX9_scan_43 ?_
        exact b_X9_scan_j44k9 X  HC HE v2 hv2 0 (inL rfl) M hf hl w
      · replace hf := ite_t cd_3 hf
        refine g_iconst X dX9_scan_39 ?_
        refine lv_goto (tgt := 44) hx hb dX9_scan_40 (by decide) ?_
        exact b_X9_scan_j44k9 X  HC HE v2 hv2 1 (inL rfl) M hf hl w
set_option maxRecDepth 100000 in
set_option maxHeartbeats 4000000 in
theorem l_X9_scan_9 (X : CX p s m args c cX9_scan 4 RX9 D aC ad sg A H0) {out : Int × Mem} (HE : ∀ (y2 : Int) (M1 : Mem) (H : Heap) (locs : List Loc) (ls : Array Slot), out = (y2, M1) → inR y2 → lv_has ls 4 [(0, .ref (ad 24)), (2, .int (i2 y2))] → WS D aC ad A H0 M1 H locs → W p l e rm_X9_scan s m args below meth c H locs 0 0 Q (F0 m 70 ls [])) : ∀ (n : Nat) (v2 : Int) (M : Mem), whl (fun s => f_X9_scan_s9 s.1 s.2) n (v2, M) = some out → inR v2 → ∀ {H : Heap} {locs : List Loc} {ls : Array Slot}, lv_has ls 4 [(0, .ref (ad 24)), (2, .int (i2 v2))] → WS D aC ad A H0 M H locs → W p l e rm_X9_scan s m args below meth c H locs 0 0 Q (F0 m 9 ls []) := by
  intro n
  induction n with
  | zero => intro v2 M hf; exact (whl_zero hf).elim
  | succ n ih =>
    intro v2 M hf hv2 H locs ls hl w
    obtain ⟨o, hf, hk1, hk2⟩ := whl_step hf
    exact b_X9_scan_s9 X  (fun y2 M1 H locs ls eo hy2 hl w => ih y2 M1 (hk1 _ eo) hy2 hl w) (fun y2 M1 H locs ls eo hy2 hl w => HE y2 M1 H locs ls (hk2 _ eo).symm hy2 hl w) v2 hv2 M hf hl w
set_option maxRecDepth 100000 in
set_option maxHeartbeats 4000000 in
theorem b_X9_scan_j70 (X : CX p s m args c cX9_scan 4 RX9 D aC ad sg A H0) {o : Mem} (HR : ∀ (M1 : Mem) (H : Heap) (locs : List Loc) (pc : Nat) (ls : Array Slot), o = M1 → WS D aC ad A H0 M1 H locs → decode cX9_scan pc = .ok (.return_, 1) → W p l e rm_X9_scan s m args below meth c H locs 0 0 Q (F0 m pc ls [])) (M : Mem) (hf : f_X9_scan_j70 M = some o) {H : Heap} {locs : List Loc} {ls : Array Slot} (hl : lv_has ls 4 [(0, .ref (ad 24))]) (w : WS D aC ad A H0 M H locs) : W p l e rm_X9_scan s m args below meth c H locs 0 0 Q (F0 m 70 ls []) := by
  have hx := X.1.1
  have hb := X.1.2.1
  unfold f_X9_scan_j70 at hf
  refine lv_aload_n hx hb dX9_scan_70 rfl (lv_at hl 0 rfl) ?_
  refine g_iconst X dX9_scan_71 ?_
  refine lv_aload_n hx hb dX9_scan_72 rfl (lv_at hl 0 rfl) ?_
  refine g_geti X w fg_X9_25 KD_24 FR_24_0 dX9_scan_73 ?_
  refine g_iconst X dX9_scan_76 ?_
  obtain ⟨M_2, hc, hf⟩ := obn_some hf
  refine g_cvv (As := [.int (i2 (-1)), .int (i2 (M 24 0)), .int (i2 0)]) (rest := []) X w (k_X9_add X.2.2.1 (-1) (inL rfl) (M 24 0) (w.2.2 _ _) 0 (inL rfl) w.2.2 hc) lk_X9_42 cl_9 KD_24 ⟨rfl, rfl⟩ ⟨nle rfl, nle rfl⟩ ⟨nle rfl, nle rfl⟩ hl.1 rfl (nle rfl) dX9_scan_77 (fun H locs w_M_2 => ?_)
  exact HR M_2 _ _ _ _ (Option.some.inj hf).symm w_M_2 dX9_scan_80
set_option maxRecDepth 100000 in
set_option maxHeartbeats 4000000 in
theorem b_X9_scan_0 (X : CX p s m args c cX9_scan 4 RX9 D aC ad sg A H0) {o : Mem} (HR : ∀ (M1 : Mem) (H : Heap) (locs : List Loc) (pc : Nat) (ls : Array Slot), o = M1 → WS D aC ad A H0 M1 H locs → decode cX9_scan pc = .ok (.return_, 1) → W p l e rm_X9_scan s m args below meth c H locs 0 0 Q (F0 m pc ls [])) (M : Mem) (hf : f_X9_scan M = some o) {H : Heap} {locs : List Loc} {ls : Array Slot} (hl : lv_has ls 4 [(0, .ref (ad 24))]) (w : WS D aC ad A H0 M H locs) : W p l e rm_X9_scan s m args below meth c H locs 0 0 Q (F0 m 0 ls []) := by
  have hx := X.1.1
  have hb := X.1.2.1
  unfold f_X9_scan at hf
  refine lv_aload_n hx hb dX9_scan_0 rfl (lv_at hl 0 rfl) ?_
  refine g_iconst X dX9_scan_1 ?_
  obtain ⟨M_2, eM_2, hf⟩ := lt_some hf
  refine g_puti X w fp_X9_29 KD_24 FR_24_2 (inL rfl) dX9_scan_2 (fun H locs w_M_2 => ?_)
  rw [← eM_2] at w_M_2
  refine g_iconst X dX9_scan_5 ?_
  refine g_istn (v := 1) (lv' := [(1, .int (i2 1)), (0, .ref (ad 24))]) X rfl dX9_scan_6 rfl hl (by decide) rfl (fun ls hl => ?_)
  refine g_iconst X dX9_scan_7 ?_
  refine g_istn (v := 0) (lv' := [(2, .int (i2 0)), (1, .int (i2 1)), (0, .ref (ad 24))]) X rfl dX9_scan_8 rfl hl (by decide) rfl (fun ls hl => ?_)
  obtain ⟨q, hq, h1⟩ := obn_some hf
  exact l_X9_scan_9 X  (out := q) (fun y2 M1 H locs ls eq hy2 hl w => b_X9_scan_j70 X  HR M1 (by subst eq; exact h1) (lv_sub hl [0] rfl) w)  FU 0 M_2 hq (inL rfl) (lv_sub hl [2, 0] rfl) w_M_2
set_option maxRecDepth 100000 in
set_option maxHeartbeats 4000000 in
theorem k_X9_scan {l : Launch} {D : va_G} {aC : Nat → ClassId} {ad : Nat → Nat} {sg : SG} (hi : Inj ad)  {M : Mem} (hM : inM M) {M' : Mem} (hf : f_X9_scan M = some M') : MetV l D aC ad sg yX9_scan cX9_scan 4 rm_X9_scan 0 0 [.ref (ad 24)] M M' := by
  refine MetV.of (by decide +kernel) (nle rfl) hi hM (fun p e s m args below meth c Q H0 ls X hl w hret => ?_)
  exact b_X9_scan_0 X  (fun M1 H locs pc ls eo w dg => by cases eo; exact hret H locs pc ls w dg) M hf hl w
end
