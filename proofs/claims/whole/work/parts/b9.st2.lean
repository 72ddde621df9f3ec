/-! the world behind the constructors -/
def adS (hC : Nat) (u : Nat → Nat → Nat) (hM : Nat) (v : Nat → Nat) (qL : Nat) : Nat → Nat := fun k => if k = 0 then hC else if k < 3 then u 0 k else if k < 17 then u 1 (k - 3) else if k < 24 then u 2 (k - 17) else if k < 29 then u 3 (k - 24) else if k < 30 then u 4 (k - 29) else if k < 35 then u 5 (k - 30) else if k < 48 then u 6 (k - 35) else if k < 51 then u 7 (k - 48) else if k < 57 then u 8 (k - 51) else if k < 62 then u 9 (k - 57) else if k < 71 then u 10 (k - 62) else if k < 80 then u 11 (k - 71) else if k = 80 then hM else if k < 120 then v (k - 80) else qL
def wS (aC : Nat → ClassId) (hC : Nat) (u : Nat → Nat → Nat) (hM : Nat) (v : Nat → Nat) (qL : Nat) : va_W := (wX10 aC hC u ++ wX11 aC hM v) ++ [(qL, .inl (aC 4, (1, .inr (.inl fun _ => Int64.ofInt 0))))]
def gS (k : Nat) : Nat := if k = 0 then 0 else if k < 3 then k + 59 else if k < 62 then k - 2 else k
theorem ga_l {l1 l2 : va_W} {i : Nat} {q : Nat × va_E} (h : l1[i]? = some q) : (l1 ++ l2)[i]? = some q := by
  rw [List.getElem?_append_left (List.getElem?_eq_some_iff.mp h).1]; exact h
theorem ga_r {l1 l2 : va_W} (n i : Nat) {q : Nat × va_E} (hn : l1.length = n) (h : l2[i]? = some q) : (l1 ++ l2)[n + i]? = some q := by
  rw [List.getElem?_append_right (by omega), show n + i - l1.length = i by omega]; exact h
theorem ga_c {x : Nat × va_E} {l : va_W} {i : Nat} {q : Nat × va_E} (h : l[i]? = some q) : (x :: l)[i + 1]? = some q := by
  rw [List.getElem?_cons_succ]; exact h
theorem ln_a {l1 l2 : va_W} {n k m : Nat} (h1 : l1.length = n) (h2 : l2.length = k) (e : n + k = m) : (l1 ++ l2).length = m := by rw [List.length_append, h1, h2, e]
theorem fv_n {ad : Nat → Nat} {q : Nat} {x : Int} (h : q = 1) (hx : x < 0) : fv ad q x = .null := by subst h; exact if_pos hx
section WST
variable {aC : Nat → ClassId} {hC : Nat} {u : Nat → Nat → Nat} {hM : Nat} {v : Nat → Nat} {qL : Nat}
theorem lp_0 : (wX1 aC (u 1 0) (u 1)).length = 14 := rfl
theorem lq_1 : (wX5 aC (u 2 0) (u 2) : va_W).length = 7 := rfl
theorem lp_1 : ((wX1 aC (u 1 0) (u 1)) ++ wX5 aC (u 2 0) (u 2)).length = 21 := ln_a lp_0 lq_1 rfl
theorem lq_2 : (wX9 aC (u 3 0) (u 3) : va_W).length = 5 := rfl
theorem lp_2 : (((wX1 aC (u 1 0) (u 1)) ++ wX5 aC (u 2 0) (u 2)) ++ wX9 aC (u 3 0) (u 3)).length = 26 := ln_a lp_1 lq_2 rfl
theorem lq_3 : (wX6 aC (u 4 0) (u 3 0) (u 4) : va_W).length = 1 := rfl
theorem lp_3 : ((((wX1 aC (u 1 0) (u 1)) ++ wX5 aC (u 2 0) (u 2)) ++ wX9 aC (u 3 0) (u 3)) ++ wX6 aC (u 4 0) (u 3 0) (u 4)).length = 27 := ln_a lp_2 lq_3 rfl
theorem lq_4 : (wX4 aC (u 5 0) (u 1 0) (u 2 0) (u 5) : va_W).length = 5 := rfl
theorem lp_4 : (((((wX1 aC (u 1 0) (u 1)) ++ wX5 aC (u 2 0) (u 2)) ++ wX9 aC (u 3 0) (u 3)) ++ wX6 aC (u 4 0) (u 3 0) (u 4)) ++ wX4 aC (u 5 0) (u 1 0) (u 2 0) (u 5)).length = 32 := ln_a lp_3 lq_4 rfl
theorem lq_5 : (wX8 aC (u 6 0) (u 1 0) (u 5 0) (u 6) : va_W).length = 13 := rfl
theorem lp_5 : ((((((wX1 aC (u 1 0) (u 1)) ++ wX5 aC (u 2 0) (u 2)) ++ wX9 aC (u 3 0) (u 3)) ++ wX6 aC (u 4 0) (u 3 0) (u 4)) ++ wX4 aC (u 5 0) (u 1 0) (u 2 0) (u 5)) ++ wX8 aC (u 6 0) (u 1 0) (u 5 0) (u 6)).length = 45 := ln_a lp_4 lq_5 rfl
theorem lq_6 : (wX2 aC (u 7 0) (u 1 0) (u 5 0) (u 7) : va_W).length = 3 := rfl
theorem lp_6 : (((((((wX1 aC (u 1 0) (u 1)) ++ wX5 aC (u 2 0) (u 2)) ++ wX9 aC (u 3 0) (u 3)) ++ wX6 aC (u 4 0) (u 3 0) (u 4)) ++ wX4 aC (u 5 0) (u 1 0) (u 2 0) (u 5)) ++ wX8 aC (u 6 0) (u 1 0) (u 5 0) (u 6)) ++ wX2 aC (u 7 0) (u 1 0) (u 5 0) (u 7)).length = 48 := ln_a lp_5 lq_6 rfl
theorem lq_7 : (wX3 aC (u 8 0) (u 8) : va_W).length = 6 := rfl
theorem lp_7 : ((((((((wX1 aC (u 1 0) (u 1)) ++ wX5 aC (u 2 0) (u 2)) ++ wX9 aC (u 3 0) (u 3)) ++ wX6 aC (u 4 0) (u 3 0) (u 4)) ++ wX4 aC (u 5 0) (u 1 0) (u 2 0) (u 5)) ++ wX8 aC (u 6 0) (u 1 0) (u 5 0) (u 6)) ++ wX2 aC (u 7 0) (u 1 0) (u 5 0) (u 7)) ++ wX3 aC (u 8 0) (u 8)).length = 54 := ln_a lp_6 lq_7 rfl
theorem lq_8 : (wX0 aC (u 9 0) (u 9) : va_W).length = 5 := rfl
theorem lp_8 : (((((((((wX1 aC (u 1 0) (u 1)) ++ wX5 aC (u 2 0) (u 2)) ++ wX9 aC (u 3 0) (u 3)) ++ wX6 aC (u 4 0) (u 3 0) (u 4)) ++ wX4 aC (u 5 0) (u 1 0) (u 2 0) (u 5)) ++ wX8 aC (u 6 0) (u 1 0) (u 5 0) (u 6)) ++ wX2 aC (u 7 0) (u 1 0) (u 5 0) (u 7)) ++ wX3 aC (u 8 0) (u 8)) ++ wX0 aC (u 9 0) (u 9)).length = 59 := ln_a lp_7 lq_8 rfl
theorem lq_9 : ([arC (u 0 1) (aC 0) 14 (-1)] : va_W).length = 1 := rfl
theorem lp_9 : ((((((((((wX1 aC (u 1 0) (u 1)) ++ wX5 aC (u 2 0) (u 2)) ++ wX9 aC (u 3 0) (u 3)) ++ wX6 aC (u 4 0) (u 3 0) (u 4)) ++ wX4 aC (u 5 0) (u 1 0) (u 2 0) (u 5)) ++ wX8 aC (u 6 0) (u 1 0) (u 5 0) (u 6)) ++ wX2 aC (u 7 0) (u 1 0) (u 5 0) (u 7)) ++ wX3 aC (u 8 0) (u 8)) ++ wX0 aC (u 9 0) (u 9)) ++ [arC (u 0 1) (aC 0) 14 (-1)]).length = 60 := ln_a lp_8 lq_9 rfl
theorem lq_10 : ([arC (u 0 2) (aC 0) 3 0] : va_W).length = 1 := rfl
theorem lp_10 : (((((((((((wX1 aC (u 1 0) (u 1)) ++ wX5 aC (u 2 0) (u 2)) ++ wX9 aC (u 3 0) (u 3)) ++ wX6 aC (u 4 0) (u 3 0) (u 4)) ++ wX4 aC (u 5 0) (u 1 0) (u 2 0) (u 5)) ++ wX8 aC (u 6 0) (u 1 0) (u 5 0) (u 6)) ++ wX2 aC (u 7 0) (u 1 0) (u 5 0) (u 7)) ++ wX3 aC (u 8 0) (u 8)) ++ wX0 aC (u 9 0) (u 9)) ++ [arC (u 0 1) (aC 0) 14 (-1)]) ++ [arC (u 0 2) (aC 0) 3 0]).length = 61 := ln_a lp_9 lq_10 rfl
theorem lq_11 : (wX7 aC (u 10 0) (u 10) : va_W).length = 9 := rfl
theorem lp_11 : ((((((((((((wX1 aC (u 1 0) (u 1)) ++ wX5 aC (u 2 0) (u 2)) ++ wX9 aC (u 3 0) (u 3)) ++ wX6 aC (u 4 0) (u 3 0) (u 4)) ++ wX4 aC (u 5 0) (u 1 0) (u 2 0) (u 5)) ++ wX8 aC (u 6 0) (u 1 0) (u 5 0) (u 6)) ++ wX2 aC (u 7 0) (u 1 0) (u 5 0) (u 7)) ++ wX3 aC (u 8 0) (u 8)) ++ wX0 aC (u 9 0) (u 9)) ++ [arC (u 0 1) (aC 0) 14 (-1)]) ++ [arC (u 0 2) (aC 0) 3 0]) ++ wX7 aC (u 10 0) (u 10)).length = 70 := ln_a lp_10 lq_11 rfl
theorem lq_12 : (wX7 aC (u 11 0) (u 11) : va_W).length = 9 := rfl
theorem lp_12 : (((((((((((((wX1 aC (u 1 0) (u 1)) ++ wX5 aC (u 2 0) (u 2)) ++ wX9 aC (u 3 0) (u 3)) ++ wX6 aC (u 4 0) (u 3 0) (u 4)) ++ wX4 aC (u 5 0) (u 1 0) (u 2 0) (u 5)) ++ wX8 aC (u 6 0) (u 1 0) (u 5 0) (u 6)) ++ wX2 aC (u 7 0) (u 1 0) (u 5 0) (u 7)) ++ wX3 aC (u 8 0) (u 8)) ++ wX0 aC (u 9 0) (u 9)) ++ [arC (u 0 1) (aC 0) 14 (-1)]) ++ [arC (u 0 2) (aC 0) 3 0]) ++ wX7 aC (u 10 0) (u 10)) ++ wX7 aC (u 11 0) (u 11)).length = 79 := ln_a lp_11 lq_12 rfl
theorem lw_10 : (wX10 aC hC u).length = 80 := congrArg Nat.succ lp_12
theorem lw_11 : (wX10 aC hC u ++ wX11 aC hM v).length = 120 := ln_a lw_10 (show (wX11 aC hM v).length = 40 from rfl) rfl
theorem ad_0 : adS hC u hM v qL 0 = hC := rfl
theorem ad_1 : adS hC u hM v qL 1 = u 0 1 := rfl
theorem ad_2 : adS hC u hM v qL 2 = u 0 2 := rfl
theorem ad_3 : adS hC u hM v qL 3 = u 1 0 := rfl
theorem ad_4 : adS hC u hM v qL 4 = u 1 1 := rfl
theorem ad_5 : adS hC u hM v qL 5 = u 1 2 := rfl
theorem ad_6 : adS hC u hM v qL 6 = u 1 3 := rfl
theorem ad_7 : adS hC u hM v qL 7 = u 1 4 := rfl
theorem ad_8 : adS hC u hM v qL 8 = u 1 5 := rfl
theorem ad_9 : adS hC u hM v qL 9 = u 1 6 := rfl
theorem ad_10 : adS hC u hM v qL 10 = u 1 7 := rfl
theorem ad_11 : adS hC u hM v qL 11 = u 1 8 := rfl
theorem ad_12 : adS hC u hM v qL 12 = u 1 9 := rfl
theorem ad_13 : adS hC u hM v qL 13 = u 1 10 := rfl
theorem ad_14 : adS hC u hM v qL 14 = u 1 11 := rfl
theorem ad_15 : adS hC u hM v qL 15 = u 1 12 := rfl
theorem ad_16 : adS hC u hM v qL 16 = u 1 13 := rfl
theorem ad_17 : adS hC u hM v qL 17 = u 2 0 := rfl
theorem ad_18 : adS hC u hM v qL 18 = u 2 1 := rfl
theorem ad_19 : adS hC u hM v qL 19 = u 2 2 := rfl
theorem ad_20 : adS hC u hM v qL 20 = u 2 3 := rfl
theorem ad_21 : adS hC u hM v qL 21 = u 2 4 := rfl
theorem ad_22 : adS hC u hM v qL 22 = u 2 5 := rfl
theorem ad_23 : adS hC u hM v qL 23 = u 2 6 := rfl
theorem ad_24 : adS hC u hM v qL 24 = u 3 0 := rfl
theorem ad_25 : adS hC u hM v qL 25 = u 3 1 := rfl
theorem ad_26 : adS hC u hM v qL 26 = u 3 2 := rfl
theorem ad_27 : adS hC u hM v qL 27 = u 3 3 := rfl
theorem ad_28 : adS hC u hM v qL 28 = u 3 4 := rfl
theorem ad_29 : adS hC u hM v qL 29 = u 4 0 := rfl
theorem ad_30 : adS hC u hM v qL 30 = u 5 0 := rfl
theorem ad_31 : adS hC u hM v qL 31 = u 5 1 := rfl
theorem ad_32 : adS hC u hM v qL 32 = u 5 2 := rfl
theorem ad_33 : adS hC u hM v qL 33 = u 5 3 := rfl
theorem ad_34 : adS hC u hM v qL 34 = u 5 4 := rfl
theorem ad_35 : adS hC u hM v qL 35 = u 6 0 := rfl
theorem ad_36 : adS hC u hM v qL 36 = u 6 1 := rfl
theorem ad_37 : adS hC u hM v qL 37 = u 6 2 := rfl
theorem ad_38 : adS hC u hM v qL 38 = u 6 3 := rfl
theorem ad_39 : adS hC u hM v qL 39 = u 6 4 := rfl
theorem ad_40 : adS hC u hM v qL 40 = u 6 5 := rfl
theorem ad_41 : adS hC u hM v qL 41 = u 6 6 := rfl
theorem ad_42 : adS hC u hM v qL 42 = u 6 7 := rfl
theorem ad_43 : adS hC u hM v qL 43 = u 6 8 := rfl
theorem ad_44 : adS hC u hM v qL 44 = u 6 9 := rfl
theorem ad_45 : adS hC u hM v qL 45 = u 6 10 := rfl
theorem ad_46 : adS hC u hM v qL 46 = u 6 11 := rfl
theorem ad_47 : adS hC u hM v qL 47 = u 6 12 := rfl
theorem ad_48 : adS hC u hM v qL 48 = u 7 0 := rfl
theorem ad_49 : adS hC u hM v qL 49 = u 7 1 := rfl
theorem ad_50 : adS hC u hM v qL 50 = u 7 2 := rfl
theorem ad_51 : adS hC u hM v qL 51 = u 8 0 := rfl
theorem ad_52 : adS hC u hM v qL 52 = u 8 1 := rfl
theorem ad_53 : adS hC u hM v qL 53 = u 8 2 := rfl
theorem ad_54 : adS hC u hM v qL 54 = u 8 3 := rfl
theorem ad_55 : adS hC u hM v qL 55 = u 8 4 := rfl
theorem ad_56 : adS hC u hM v qL 56 = u 8 5 := rfl
theorem ad_57 : adS hC u hM v qL 57 = u 9 0 := rfl
theorem ad_58 : adS hC u hM v qL 58 = u 9 1 := rfl
theorem ad_59 : adS hC u hM v qL 59 = u 9 2 := rfl
theorem ad_60 : adS hC u hM v qL 60 = u 9 3 := rfl
theorem ad_61 : adS hC u hM v qL 61 = u 9 4 := rfl
theorem ad_62 : adS hC u hM v qL 62 = u 10 0 := rfl
theorem ad_63 : adS hC u hM v qL 63 = u 10 1 := rfl
theorem ad_64 : adS hC u hM v qL 64 = u 10 2 := rfl
theorem ad_65 : adS hC u hM v qL 65 = u 10 3 := rfl
theorem ad_66 : adS hC u hM v qL 66 = u 10 4 := rfl
theorem ad_67 : adS hC u hM v qL 67 = u 10 5 := rfl
theorem ad_68 : adS hC u hM v qL 68 = u 10 6 := rfl
theorem ad_69 : adS hC u hM v qL 69 = u 10 7 := rfl
theorem ad_70 : adS hC u hM v qL 70 = u 10 8 := rfl
theorem ad_71 : adS hC u hM v qL 71 = u 11 0 := rfl
theorem ad_72 : adS hC u hM v qL 72 = u 11 1 := rfl
theorem ad_73 : adS hC u hM v qL 73 = u 11 2 := rfl
theorem ad_74 : adS hC u hM v qL 74 = u 11 3 := rfl
theorem ad_75 : adS hC u hM v qL 75 = u 11 4 := rfl
theorem ad_76 : adS hC u hM v qL 76 = u 11 5 := rfl
theorem ad_77 : adS hC u hM v qL 77 = u 11 6 := rfl
theorem ad_78 : adS hC u hM v qL 78 = u 11 7 := rfl
theorem ad_79 : adS hC u hM v qL 79 = u 11 8 := rfl
theorem ad_80 : adS hC u hM v qL 80 = hM := rfl
theorem ad_81 : adS hC u hM v qL 81 = v 1 := rfl
theorem ad_82 : adS hC u hM v qL 82 = v 2 := rfl
theorem ad_83 : adS hC u hM v qL 83 = v 3 := rfl
theorem ad_84 : adS hC u hM v qL 84 = v 4 := rfl
theorem ad_85 : adS hC u hM v qL 85 = v 5 := rfl
theorem ad_86 : adS hC u hM v qL 86 = v 6 := rfl
theorem ad_87 : adS hC u hM v qL 87 = v 7 := rfl
theorem ad_88 : adS hC u hM v qL 88 = v 8 := rfl
theorem ad_89 : adS hC u hM v qL 89 = v 9 := rfl
theorem ad_90 : adS hC u hM v qL 90 = v 10 := rfl
theorem ad_91 : adS hC u hM v qL 91 = v 11 := rfl
theorem ad_92 : adS hC u hM v qL 92 = v 12 := rfl
theorem ad_93 : adS hC u hM v qL 93 = v 13 := rfl
theorem ad_94 : adS hC u hM v qL 94 = v 14 := rfl
theorem ad_95 : adS hC u hM v qL 95 = v 15 := rfl
theorem ad_96 : adS hC u hM v qL 96 = v 16 := rfl
theorem ad_97 : adS hC u hM v qL 97 = v 17 := rfl
theorem ad_98 : adS hC u hM v qL 98 = v 18 := rfl
theorem ad_99 : adS hC u hM v qL 99 = v 19 := rfl
theorem ad_100 : adS hC u hM v qL 100 = v 20 := rfl
theorem ad_101 : adS hC u hM v qL 101 = v 21 := rfl
theorem ad_102 : adS hC u hM v qL 102 = v 22 := rfl
theorem ad_103 : adS hC u hM v qL 103 = v 23 := rfl
theorem ad_104 : adS hC u hM v qL 104 = v 24 := rfl
theorem ad_105 : adS hC u hM v qL 105 = v 25 := rfl
theorem ad_106 : adS hC u hM v qL 106 = v 26 := rfl
theorem ad_107 : adS hC u hM v qL 107 = v 27 := rfl
theorem ad_108 : adS hC u hM v qL 108 = v 28 := rfl
theorem ad_109 : adS hC u hM v qL 109 = v 29 := rfl
theorem ad_110 : adS hC u hM v qL 110 = v 30 := rfl
theorem ad_111 : adS hC u hM v qL 111 = v 31 := rfl
theorem ad_112 : adS hC u hM v qL 112 = v 32 := rfl
theorem ad_113 : adS hC u hM v qL 113 = v 33 := rfl
theorem ad_114 : adS hC u hM v qL 114 = v 34 := rfl
theorem ad_115 : adS hC u hM v qL 115 = v 35 := rfl
theorem ad_116 : adS hC u hM v qL 116 = v 36 := rfl
theorem ad_117 : adS hC u hM v qL 117 = v 37 := rfl
theorem ad_118 : adS hC u hM v qL 118 = v 38 := rfl
theorem ad_119 : adS hC u hM v qL 119 = v 39 := rfl
theorem ad_120 : adS hC u hM v qL 120 = qL := rfl
set_option maxRecDepth 100000 in
theorem en_0 : enc aC (adS hC u hM v qL) M0 0 = .inr (10, [.ref (u 1 0), .ref (u 2 0), .ref (u 3 0), .ref (u 4 0), .ref (u 5 0), .ref (u 6 0), .ref (u 7 0), .ref (u 8 0), .ref (u 9 0), .ref (u 0 1), .ref (u 0 2), .ref (u 10 0), .ref (u 11 0), .int (i2 0), .int (i2 0), .int (i2 (-1)), .int (i2 0), .int (i2 0), .int (i2 0)]) := by
  refine (enc_o KD_0).trans (congrArg (fun z => (.inr (10, z) : va_E)) ?_)
  have e0 : fv (adS hC u hM v qL) (FR 0 0) (M0 0 0) = .ref (u 1 0) := (fv_r (T := 3) FR_0_0).trans (congrArg Value.ref ad_3)
  have e1 : fv (adS hC u hM v qL) (FR 0 1) (M0 0 1) = .ref (u 2 0) := (fv_r (T := 17) FR_0_1).trans (congrArg Value.ref ad_17)
  have e2 : fv (adS hC u hM v qL) (FR 0 2) (M0 0 2) = .ref (u 3 0) := (fv_r (T := 24) FR_0_2).trans (congrArg Value.ref ad_24)
  have e3 : fv (adS hC u hM v qL) (FR 0 3) (M0 0 3) = .ref (u 4 0) := (fv_r (T := 29) FR_0_3).trans (congrArg Value.ref ad_29)
  have e4 : fv (adS hC u hM v qL) (FR 0 4) (M0 0 4) = .ref (u 5 0) := (fv_r (T := 30) FR_0_4).trans (congrArg Value.ref ad_30)
  have e5 : fv (adS hC u hM v qL) (FR 0 5) (M0 0 5) = .ref (u 6 0) := (fv_r (T := 35) FR_0_5).trans (congrArg Value.ref ad_35)
  have e6 : fv (adS hC u hM v qL) (FR 0 6) (M0 0 6) = .ref (u 7 0) := (fv_r (T := 48) FR_0_6).trans (congrArg Value.ref ad_48)
  have e7 : fv (adS hC u hM v qL) (FR 0 7) (M0 0 7) = .ref (u 8 0) := (fv_r (T := 51) FR_0_7).trans (congrArg Value.ref ad_51)
  have e8 : fv (adS hC u hM v qL) (FR 0 8) (M0 0 8) = .ref (u 9 0) := (fv_r (T := 57) FR_0_8).trans (congrArg Value.ref ad_57)
  have e9 : fv (adS hC u hM v qL) (FR 0 9) (M0 0 9) = .ref (u 0 1) := (fv_r (T := 1) FR_0_9).trans (congrArg Value.ref ad_1)
  have e10 : fv (adS hC u hM v qL) (FR 0 10) (M0 0 10) = .ref (u 0 2) := (fv_r (T := 2) FR_0_10).trans (congrArg Value.ref ad_2)
  have e11 : fv (adS hC u hM v qL) (FR 0 11) (M0 0 11) = .ref (u 10 0) := fv_1 FR_0_11 (by decide)
  have e12 : fv (adS hC u hM v qL) (FR 0 12) (M0 0 12) = .ref (u 11 0) := fv_1 FR_0_12 (by decide)
  have e13 : fv (adS hC u hM v qL) (FR 0 13) (M0 0 13) = .int (i2 0) := fv_0 FR_0_13
  have e14 : fv (adS hC u hM v qL) (FR 0 14) (M0 0 14) = .int (i2 0) := fv_0 FR_0_14
  have e15 : fv (adS hC u hM v qL) (FR 0 15) (M0 0 15) = .int (i2 (-1)) := fv_0 FR_0_15
  have e16 : fv (adS hC u hM v qL) (FR 0 16) (M0 0 16) = .int (i2 0) := fv_0 FR_0_16
  have e17 : fv (adS hC u hM v qL) (FR 0 17) (M0 0 17) = .int (i2 0) := fv_0 FR_0_17
  have e18 : fv (adS hC u hM v qL) (FR 0 18) (M0 0 18) = .int (i2 0) := fv_0 FR_0_18
  show [fv (adS hC u hM v qL) (FR 0 0) (M0 0 0), fv (adS hC u hM v qL) (FR 0 1) (M0 0 1), fv (adS hC u hM v qL) (FR 0 2) (M0 0 2), fv (adS hC u hM v qL) (FR 0 3) (M0 0 3), fv (adS hC u hM v qL) (FR 0 4) (M0 0 4), fv (adS hC u hM v qL) (FR 0 5) (M0 0 5), fv (adS hC u hM v qL) (FR 0 6) (M0 0 6), fv (adS hC u hM v qL) (FR 0 7) (M0 0 7), fv (adS hC u hM v qL) (FR 0 8) (M0 0 8), fv (adS hC u hM v qL) (FR 0 9) (M0 0 9), fv (adS hC u hM v qL) (FR 0 10) (M0 0 10), fv (adS hC u hM v qL) (FR 0 11) (M0 0 11), fv (adS hC u hM v qL) (FR 0 12) (M0 0 12), fv (adS hC u hM v qL) (FR 0 13) (M0 0 13), fv (adS hC u hM v qL) (FR 0 14) (M0 0 14), fv (adS hC u hM v qL) (FR 0 15) (M0 0 15), fv (adS hC u hM v qL) (FR 0 16) (M0 0 16), fv (adS hC u hM v qL) (FR 0 17) (M0 0 17), fv (adS hC u hM v qL) (FR 0 18) (M0 0 18)] = _
  rw [e0, e1, e2, e3, e4, e5, e6, e7, e8, e9, e10, e11, e12, e13, e14, e15, e16, e17, e18]
theorem en_1 : enc aC (adS hC u hM v qL) M0 1 = .inl (aC 0, (14, .inl fun _ => i2 (-1))) := (enc_a KD_1 (by decide)).trans rfl
theorem en_2 : enc aC (adS hC u hM v qL) M0 2 = .inl (aC 0, (3, .inl fun _ => i2 0)) := (enc_a KD_2 (by decide)).trans rfl
set_option maxRecDepth 100000 in
theorem en_3 : enc aC (adS hC u hM v qL) M0 3 = .inr (1, [.int (i2 0), .ref (u 1 1), .ref (u 1 2), .ref (u 1 3), .ref (u 1 4), .ref (u 1 5), .ref (u 1 6), .ref (u 1 7), .ref (u 1 8), .ref (u 1 9), .ref (u 1 10), .ref (u 1 11), .ref (u 1 12), .int (i2 2), .ref (u 1 13)]) := by
  refine (enc_o KD_3).trans (congrArg (fun z => (.inr (1, z) : va_E)) ?_)
  have e0 : fv (adS hC u hM v qL) (FR 3 0) (M0 3 0) = .int (i2 0) := fv_0 FR_3_0
  have e1 : fv (adS hC u hM v qL) (FR 3 1) (M0 3 1) = .ref (u 1 1) := (fv_r (T := 4) FR_3_1).trans (congrArg Value.ref ad_4)
  have e2 : fv (adS hC u hM v qL) (FR 3 2) (M0 3 2) = .ref (u 1 2) := (fv_r (T := 5) FR_3_2).trans (congrArg Value.ref ad_5)
  have e3 : fv (adS hC u hM v qL) (FR 3 3) (M0 3 3) = .ref (u 1 3) := (fv_r (T := 6) FR_3_3).trans (congrArg Value.ref ad_6)
  have e4 : fv (adS hC u hM v qL) (FR 3 4) (M0 3 4) = .ref (u 1 4) := (fv_r (T := 7) FR_3_4).trans (congrArg Value.ref ad_7)
  have e5 : fv (adS hC u hM v qL) (FR 3 5) (M0 3 5) = .ref (u 1 5) := (fv_r (T := 8) FR_3_5).trans (congrArg Value.ref ad_8)
  have e6 : fv (adS hC u hM v qL) (FR 3 6) (M0 3 6) = .ref (u 1 6) := (fv_r (T := 9) FR_3_6).trans (congrArg Value.ref ad_9)
  have e7 : fv (adS hC u hM v qL) (FR 3 7) (M0 3 7) = .ref (u 1 7) := (fv_r (T := 10) FR_3_7).trans (congrArg Value.ref ad_10)
  have e8 : fv (adS hC u hM v qL) (FR 3 8) (M0 3 8) = .ref (u 1 8) := (fv_r (T := 11) FR_3_8).trans (congrArg Value.ref ad_11)
  have e9 : fv (adS hC u hM v qL) (FR 3 9) (M0 3 9) = .ref (u 1 9) := (fv_r (T := 12) FR_3_9).trans (congrArg Value.ref ad_12)
  have e10 : fv (adS hC u hM v qL) (FR 3 10) (M0 3 10) = .ref (u 1 10) := (fv_r (T := 13) FR_3_10).trans (congrArg Value.ref ad_13)
  have e11 : fv (adS hC u hM v qL) (FR 3 11) (M0 3 11) = .ref (u 1 11) := (fv_r (T := 14) FR_3_11).trans (congrArg Value.ref ad_14)
  have e12 : fv (adS hC u hM v qL) (FR 3 12) (M0 3 12) = .ref (u 1 12) := (fv_r (T := 15) FR_3_12).trans (congrArg Value.ref ad_15)
  have e13 : fv (adS hC u hM v qL) (FR 3 13) (M0 3 13) = .int (i2 2) := fv_0 FR_3_13
  have e14 : fv (adS hC u hM v qL) (FR 3 14) (M0 3 14) = .ref (u 1 13) := (fv_r (T := 16) FR_3_14).trans (congrArg Value.ref ad_16)
  show [fv (adS hC u hM v qL) (FR 3 0) (M0 3 0), fv (adS hC u hM v qL) (FR 3 1) (M0 3 1), fv (adS hC u hM v qL) (FR 3 2) (M0 3 2), fv (adS hC u hM v qL) (FR 3 3) (M0 3 3), fv (adS hC u hM v qL) (FR 3 4) (M0 3 4), fv (adS hC u hM v qL) (FR 3 5) (M0 3 5), fv (adS hC u hM v qL) (FR 3 6) (M0 3 6), fv (adS hC u hM v qL) (FR 3 7) (M0 3 7), fv (adS hC u hM v qL) (FR 3 8) (M0 3 8), fv (adS hC u hM v qL) (FR 3 9) (M0 3 9), fv (adS hC u hM v qL) (FR 3 10) (M0 3 10), fv (adS hC u hM v qL) (FR 3 11) (M0 3 11), fv (adS hC u hM v qL) (FR 3 12) (M0 3 12), fv (adS hC u hM v qL) (FR 3 13) (M0 3 13), fv (adS hC u hM v qL) (FR 3 14) (M0 3 14)] = _
  rw [e0, e1, e2, e3, e4, e5, e6, e7, e8, e9, e10, e11, e12, e13, e14]
theorem en_4 : enc aC (adS hC u hM v qL) M0 4 = .inl (aC 0, (14, .inl fun _ => i2 0)) := (enc_a KD_4 (by decide)).trans rfl
theorem en_5 : enc aC (adS hC u hM v qL) M0 5 = .inl (aC 0, (14, .inl fun _ => i2 0)) := (enc_a KD_5 (by decide)).trans rfl
theorem en_6 : enc aC (adS hC u hM v qL) M0 6 = .inl (aC 0, (14, .inl fun _ => i2 0)) := (enc_a KD_6 (by decide)).trans rfl
theorem en_7 : enc aC (adS hC u hM v qL) M0 7 = .inl (aC 0, (14, .inl fun _ => i2 0)) := (enc_a KD_7 (by decide)).trans rfl
theorem en_8 : enc aC (adS hC u hM v qL) M0 8 = .inl (aC 0, (14, .inl fun _ => i2 0)) := (enc_a KD_8 (by decide)).trans rfl
theorem en_9 : enc aC (adS hC u hM v qL) M0 9 = .inl (aC 0, (42, .inl fun _ => i2 (-1))) := (enc_a KD_9 (by decide)).trans rfl
theorem en_10 : enc aC (adS hC u hM v qL) M0 10 = .inl (aC 0, (14, .inl fun _ => i2 0)) := (enc_a KD_10 (by decide)).trans rfl
theorem en_11 : enc aC (adS hC u hM v qL) M0 11 = .inl (aC 0, (14, .inl fun _ => i2 0)) := (enc_a KD_11 (by decide)).trans rfl
theorem en_12 : enc aC (adS hC u hM v qL) M0 12 = .inl (aC 0, (3, .inl fun _ => i2 0)) := (enc_a KD_12 (by decide)).trans rfl
theorem en_13 : enc aC (adS hC u hM v qL) M0 13 = .inl (aC 0, (196, .inl fun _ => i2 0)) := (enc_a KD_13 (by decide)).trans rfl
theorem en_14 : enc aC (adS hC u hM v qL) M0 14 = .inl (aC 0, (14, .inl fun _ => i2 (-1))) := (enc_a KD_14 (by decide)).trans rfl
theorem en_15 : enc aC (adS hC u hM v qL) M0 15 = .inl (aC 0, (14, .inl fun _ => i2 (-1))) := (enc_a KD_15 (by decide)).trans rfl
theorem en_16 : enc aC (adS hC u hM v qL) M0 16 = .inl (aC 0, (3, .inl fun _ => i2 14)) := (enc_a KD_16 (by decide)).trans rfl
set_option maxRecDepth 100000 in
theorem en_17 : enc aC (adS hC u hM v qL) M0 17 = .inr (5, [.int (i2 0), .ref (u 2 1), .ref (u 2 2), .ref (u 2 3), .ref (u 2 4), .ref (u 2 5), .ref (u 2 6)]) := by
  refine (enc_o KD_17).trans (congrArg (fun z => (.inr (5, z) : va_E)) ?_)
  have e0 : fv (adS hC u hM v qL) (FR 17 0) (M0 17 0) = .int (i2 0) := fv_0 FR_17_0
  have e1 : fv (adS hC u hM v qL) (FR 17 1) (M0 17 1) = .ref (u 2 1) := (fv_r (T := 18) FR_17_1).trans (congrArg Value.ref ad_18)
  have e2 : fv (adS hC u hM v qL) (FR 17 2) (M0 17 2) = .ref (u 2 2) := (fv_r (T := 19) FR_17_2).trans (congrArg Value.ref ad_19)
  have e3 : fv (adS hC u hM v qL) (FR 17 3) (M0 17 3) = .ref (u 2 3) := (fv_r (T := 20) FR_17_3).trans (congrArg Value.ref ad_20)
  have e4 : fv (adS hC u hM v qL) (FR 17 4) (M0 17 4) = .ref (u 2 4) := (fv_r (T := 21) FR_17_4).trans (congrArg Value.ref ad_21)
  have e5 : fv (adS hC u hM v qL) (FR 17 5) (M0 17 5) = .ref (u 2 5) := (fv_r (T := 22) FR_17_5).trans (congrArg Value.ref ad_22)
  have e6 : fv (adS hC u hM v qL) (FR 17 6) (M0 17 6) = .ref (u 2 6) := (fv_r (T := 23) FR_17_6).trans (congrArg Value.ref ad_23)
  show [fv (adS hC u hM v qL) (FR 17 0) (M0 17 0), fv (adS hC u hM v qL) (FR 17 1) (M0 17 1), fv (adS hC u hM v qL) (FR 17 2) (M0 17 2), fv (adS hC u hM v qL) (FR 17 3) (M0 17 3), fv (adS hC u hM v qL) (FR 17 4) (M0 17 4), fv (adS hC u hM v qL) (FR 17 5) (M0 17 5), fv (adS hC u hM v qL) (FR 17 6) (M0 17 6)] = _
  rw [e0, e1, e2, e3, e4, e5, e6]
theorem en_18 : enc aC (adS hC u hM v qL) M0 18 = .inl (aC 0, (300, .inl fun _ => i2 0)) := (enc_a KD_18 (by decide)).trans rfl
theorem en_19 : enc aC (adS hC u hM v qL) M0 19 = .inl (aC 0, (300, .inl fun _ => i2 0)) := (enc_a KD_19 (by decide)).trans rfl
theorem en_20 : enc aC (adS hC u hM v qL) M0 20 = .inl (aC 0, (300, .inl fun _ => i2 0)) := (enc_a KD_20 (by decide)).trans rfl
theorem en_21 : enc aC (adS hC u hM v qL) M0 21 = .inl (aC 0, (300, .inl fun _ => i2 0)) := (enc_a KD_21 (by decide)).trans rfl
theorem en_22 : enc aC (adS hC u hM v qL) M0 22 = .inl (aC 0, (300, .inl fun _ => i2 0)) := (enc_a KD_22 (by decide)).trans rfl
theorem en_23 : enc aC (adS hC u hM v qL) M0 23 = .inl (aC 0, (112, .inl fun _ => i2 0)) := (enc_a KD_23 (by decide)).trans rfl
set_option maxRecDepth 100000 in
theorem en_24 : enc aC (adS hC u hM v qL) M0 24 = .inr (9, [.int (i2 0), .ref (u 3 1), .int (i2 0), .ref (u 3 2), .ref (u 3 3), .ref (u 3 4)]) := by
  refine (enc_o KD_24).trans (congrArg (fun z => (.inr (9, z) : va_E)) ?_)
  have e0 : fv (adS hC u hM v qL) (FR 24 0) (M0 24 0) = .int (i2 0) := fv_0 FR_24_0
  have e1 : fv (adS hC u hM v qL) (FR 24 1) (M0 24 1) = .ref (u 3 1) := (fv_r (T := 25) FR_24_1).trans (congrArg Value.ref ad_25)
  have e2 : fv (adS hC u hM v qL) (FR 24 2) (M0 24 2) = .int (i2 0) := fv_0 FR_24_2
  have e3 : fv (adS hC u hM v qL) (FR 24 3) (M0 24 3) = .ref (u 3 2) := (fv_r (T := 26) FR_24_3).trans (congrArg Value.ref ad_26)
  have e4 : fv (adS hC u hM v qL) (FR 24 4) (M0 24 4) = .ref (u 3 3) := (fv_r (T := 27) FR_24_4).trans (congrArg Value.ref ad_27)
  have e5 : fv (adS hC u hM v qL) (FR 24 5) (M0 24 5) = .ref (u 3 4) := (fv_r (T := 28) FR_24_5).trans (congrArg Value.ref ad_28)
  show [fv (adS hC u hM v qL) (FR 24 0) (M0 24 0), fv (adS hC u hM v qL) (FR 24 1) (M0 24 1), fv (adS hC u hM v qL) (FR 24 2) (M0 24 2), fv (adS hC u hM v qL) (FR 24 3) (M0 24 3), fv (adS hC u hM v qL) (FR 24 4) (M0 24 4), fv (adS hC u hM v qL) (FR 24 5) (M0 24 5)] = _
  rw [e0, e1, e2, e3, e4, e5]
theorem en_25 : enc aC (adS hC u hM v qL) M0 25 = .inl (aC 2, (400, .inl fun _ => i2 0)) := (enc_a KD_25 (by decide)).trans rfl
theorem en_26 : enc aC (adS hC u hM v qL) M0 26 = .inl (aC 0, (401, .inl fun _ => i2 0)) := (enc_a KD_26 (by decide)).trans rfl
theorem en_27 : enc aC (adS hC u hM v qL) M0 27 = .inl (aC 0, (401, .inl fun _ => i2 0)) := (enc_a KD_27 (by decide)).trans rfl
theorem en_28 : enc aC (adS hC u hM v qL) M0 28 = .inl (aC 0, (401, .inl fun _ => i2 0)) := (enc_a KD_28 (by decide)).trans rfl
set_option maxRecDepth 100000 in
theorem en_29 : enc aC (adS hC u hM v qL) M0 29 = .inr (6, [.int (i2 0), .int (i2 (-1)), .ref (u 3 0), .null, .int (i2 0), .int (i2 0), .int (i2 0), .int (i2 0)]) := by
  refine (enc_o KD_29).trans (congrArg (fun z => (.inr (6, z) : va_E)) ?_)
  have e0 : fv (adS hC u hM v qL) (FR 29 0) (M0 29 0) = .int (i2 0) := fv_0 FR_29_0
  have e1 : fv (adS hC u hM v qL) (FR 29 1) (M0 29 1) = .int (i2 (-1)) := fv_0 FR_29_1
  have e2 : fv (adS hC u hM v qL) (FR 29 2) (M0 29 2) = .ref (u 3 0) := (fv_r (T := 24) FR_29_2).trans (congrArg Value.ref ad_24)
  have e3 : fv (adS hC u hM v qL) (FR 29 3) (M0 29 3) = .null := fv_n FR_29_3 (by decide)
  have e4 : fv (adS hC u hM v qL) (FR 29 4) (M0 29 4) = .int (i2 0) := fv_0 FR_29_4
  have e5 : fv (adS hC u hM v qL) (FR 29 5) (M0 29 5) = .int (i2 0) := fv_0 FR_29_5
  have e6 : fv (adS hC u hM v qL) (FR 29 6) (M0 29 6) = .int (i2 0) := fv_0 FR_29_6
  have e7 : fv (adS hC u hM v qL) (FR 29 7) (M0 29 7) = .int (i2 0) := fv_0 FR_29_7
  show [fv (adS hC u hM v qL) (FR 29 0) (M0 29 0), fv (adS hC u hM v qL) (FR 29 1) (M0 29 1), fv (adS hC u hM v qL) (FR 29 2) (M0 29 2), fv (adS hC u hM v qL) (FR 29 3) (M0 29 3), fv (adS hC u hM v qL) (FR 29 4) (M0 29 4), fv (adS hC u hM v qL) (FR 29 5) (M0 29 5), fv (adS hC u hM v qL) (FR 29 6) (M0 29 6), fv (adS hC u hM v qL) (FR 29 7) (M0 29 7)] = _
  rw [e0, e1, e2, e3, e4, e5, e6, e7]
set_option maxRecDepth 100000 in
theorem en_30 : enc aC (adS hC u hM v qL) M0 30 = .inr (4, [.ref (u 1 0), .ref (u 2 0), .null, .int (i2 0), .ref (u 5 1), .ref (u 5 2), .ref (u 5 3), .ref (u 5 4)]) := by
  refine (enc_o KD_30).trans (congrArg (fun z => (.inr (4, z) : va_E)) ?_)
  have e0 : fv (adS hC u hM v qL) (FR 30 0) (M0 30 0) = .ref (u 1 0) := (fv_r (T := 3) FR_30_0).trans (congrArg Value.ref ad_3)
  have e1 : fv (adS hC u hM v qL) (FR 30 1) (M0 30 1) = .ref (u 2 0) := (fv_r (T := 17) FR_30_1).trans (congrArg Value.ref ad_17)
  have e2 : fv (adS hC u hM v qL) (FR 30 2) (M0 30 2) = .null := fv_n FR_30_2 (by decide)
  have e3 : fv (adS hC u hM v qL) (FR 30 3) (M0 30 3) = .int (i2 0) := fv_0 FR_30_3
  have e4 : fv (adS hC u hM v qL) (FR 30 4) (M0 30 4) = .ref (u 5 1) := (fv_r (T := 31) FR_30_4).trans (congrArg Value.ref ad_31)
  have e5 : fv (adS hC u hM v qL) (FR 30 5) (M0 30 5) = .ref (u 5 2) := (fv_r (T := 32) FR_30_5).trans (congrArg Value.ref ad_32)
  have e6 : fv (adS hC u hM v qL) (FR 30 6) (M0 30 6) = .ref (u 5 3) := (fv_r (T := 33) FR_30_6).trans (congrArg Value.ref ad_33)
  have e7 : fv (adS hC u hM v qL) (FR 30 7) (M0 30 7) = .ref (u 5 4) := (fv_r (T := 34) FR_30_7).trans (congrArg Value.ref ad_34)
  show [fv (adS hC u hM v qL) (FR 30 0) (M0 30 0), fv (adS hC u hM v qL) (FR 30 1) (M0 30 1), fv (adS hC u hM v qL) (FR 30 2) (M0 30 2), fv (adS hC u hM v qL) (FR 30 3) (M0 30 3), fv (adS hC u hM v qL) (FR 30 4) (M0 30 4), fv (adS hC u hM v qL) (FR 30 5) (M0 30 5), fv (adS hC u hM v qL) (FR 30 6) (M0 30 6), fv (adS hC u hM v qL) (FR 30 7) (M0 30 7)] = _
  rw [e0, e1, e2, e3, e4, e5, e6, e7]
theorem en_31 : enc aC (adS hC u hM v qL) M0 31 = .inl (aC 0, (98, .inl fun _ => i2 0)) := (enc_a KD_31 (by decide)).trans rfl
theorem en_32 : enc aC (adS hC u hM v qL) M0 32 = .inl (aC 0, (14, .inl fun _ => i2 0)) := (enc_a KD_32 (by decide)).trans rfl
theorem en_33 : enc aC (adS hC u hM v qL) M0 33 = .inl (aC 0, (16, .inl fun _ => i2 0)) := (enc_a KD_33 (by decide)).trans rfl
theorem en_34 : enc aC (adS hC u hM v qL) M0 34 = .inl (aC 0, (16, .inl fun _ => i2 0)) := (enc_a KD_34 (by decide)).trans rfl
set_option maxRecDepth 100000 in
theorem en_35 : enc aC (adS hC u hM v qL) M0 35 = .inr (8, [.ref (u 1 0), .ref (u 5 0), .int (i2 0), .ref (u 6 1), .ref (u 6 2), .ref (u 6 3), .ref (u 6 4), .ref (u 6 5), .ref (u 6 6), .int (i2 0), .ref (u 6 7), .ref (u 6 8), .ref (u 6 9), .ref (u 6 10), .ref (u 6 11), .ref (u 6 12), .int (i2 0), .int (i2 0), .int (i2 0), .int (i2 0)]) := by
  refine (enc_o KD_35).trans (congrArg (fun z => (.inr (8, z) : va_E)) ?_)
  have e0 : fv (adS hC u hM v qL) (FR 35 0) (M0 35 0) = .ref (u 1 0) := (fv_r (T := 3) FR_35_0).trans (congrArg Value.ref ad_3)
  have e1 : fv (adS hC u hM v qL) (FR 35 1) (M0 35 1) = .ref (u 5 0) := (fv_r (T := 30) FR_35_1).trans (congrArg Value.ref ad_30)
  have e2 : fv (adS hC u hM v qL) (FR 35 2) (M0 35 2) = .int (i2 0) := fv_0 FR_35_2
  have e3 : fv (adS hC u hM v qL) (FR 35 3) (M0 35 3) = .ref (u 6 1) := (fv_r (T := 36) FR_35_3).trans (congrArg Value.ref ad_36)
  have e4 : fv (adS hC u hM v qL) (FR 35 4) (M0 35 4) = .ref (u 6 2) := (fv_r (T := 37) FR_35_4).trans (congrArg Value.ref ad_37)
  have e5 : fv (adS hC u hM v qL) (FR 35 5) (M0 35 5) = .ref (u 6 3) := (fv_r (T := 38) FR_35_5).trans (congrArg Value.ref ad_38)
  have e6 : fv (adS hC u hM v qL) (FR 35 6) (M0 35 6) = .ref (u 6 4) := (fv_r (T := 39) FR_35_6).trans (congrArg Value.ref ad_39)
  have e7 : fv (adS hC u hM v qL) (FR 35 7) (M0 35 7) = .ref (u 6 5) := (fv_r (T := 40) FR_35_7).trans (congrArg Value.ref ad_40)
  have e8 : fv (adS hC u hM v qL) (FR 35 8) (M0 35 8) = .ref (u 6 6) := (fv_r (T := 41) FR_35_8).trans (congrArg Value.ref ad_41)
  have e9 : fv (adS hC u hM v qL) (FR 35 9) (M0 35 9) = .int (i2 0) := fv_0 FR_35_9
  have e10 : fv (adS hC u hM v qL) (FR 35 10) (M0 35 10) = .ref (u 6 7) := (fv_r (T := 42) FR_35_10).trans (congrArg Value.ref ad_42)
  have e11 : fv (adS hC u hM v qL) (FR 35 11) (M0 35 11) = .ref (u 6 8) := (fv_r (T := 43) FR_35_11).trans (congrArg Value.ref ad_43)
  have e12 : fv (adS hC u hM v qL) (FR 35 12) (M0 35 12) = .ref (u 6 9) := (fv_r (T := 44) FR_35_12).trans (congrArg Value.ref ad_44)
  have e13 : fv (adS hC u hM v qL) (FR 35 13) (M0 35 13) = .ref (u 6 10) := (fv_r (T := 45) FR_35_13).trans (congrArg Value.ref ad_45)
  have e14 : fv (adS hC u hM v qL) (FR 35 14) (M0 35 14) = .ref (u 6 11) := (fv_r (T := 46) FR_35_14).trans (congrArg Value.ref ad_46)
  have e15 : fv (adS hC u hM v qL) (FR 35 15) (M0 35 15) = .ref (u 6 12) := (fv_r (T := 47) FR_35_15).trans (congrArg Value.ref ad_47)
  have e16 : fv (adS hC u hM v qL) (FR 35 16) (M0 35 16) = .int (i2 0) := fv_0 FR_35_16
  have e17 : fv (adS hC u hM v qL) (FR 35 17) (M0 35 17) = .int (i2 0) := fv_0 FR_35_17
  have e18 : fv (adS hC u hM v qL) (FR 35 18) (M0 35 18) = .int (i2 0) := fv_0 FR_35_18
  have e19 : fv (adS hC u hM v qL) (FR 35 19) (M0 35 19) = .int (i2 0) := fv_0 FR_35_19
  show [fv (adS hC u hM v qL) (FR 35 0) (M0 35 0), fv (adS hC u hM v qL) (FR 35 1) (M0 35 1), fv (adS hC u hM v qL) (FR 35 2) (M0 35 2), fv (adS hC u hM v qL) (FR 35 3) (M0 35 3), fv (adS hC u hM v qL) (FR 35 4) (M0 35 4), fv (adS hC u hM v qL) (FR 35 5) (M0 35 5), fv (adS hC u hM v qL) (FR 35 6) (M0 35 6), fv (adS hC u hM v qL) (FR 35 7) (M0 35 7), fv (adS hC u hM v qL) (FR 35 8) (M0 35 8), fv (adS hC u hM v qL) (FR 35 9) (M0 35 9), fv (adS hC u hM v qL) (FR 35 10) (M0 35 10), fv (adS hC u hM v qL) (FR 35 11) (M0 35 11), fv (adS hC u hM v qL) (FR 35 12) (M0 35 12), fv (adS hC u hM v qL) (FR 35 13) (M0 35 13), fv (adS hC u hM v qL) (FR 35 14) (M0 35 14), fv (adS hC u hM v qL) (FR 35 15) (M0 35 15), fv (adS hC u hM v qL) (FR 35 16) (M0 35 16), fv (adS hC u hM v qL) (FR 35 17) (M0 35 17), fv (adS hC u hM v qL) (FR 35 18) (M0 35 18), fv (adS hC u hM v qL) (FR 35 19) (M0 35 19)] = _
  rw [e0, e1, e2, e3, e4, e5, e6, e7, e8, e9, e10, e11, e12, e13, e14, e15, e16, e17, e18, e19]
theorem en_36 : enc aC (adS hC u hM v qL) M0 36 = .inl (aC 0, (9, .inl fun _ => i2 0)) := (enc_a KD_36 (by decide)).trans rfl
theorem en_37 : enc aC (adS hC u hM v qL) M0 37 = .inl (aC 0, (9, .inl fun _ => i2 0)) := (enc_a KD_37 (by decide)).trans rfl
theorem en_38 : enc aC (adS hC u hM v qL) M0 38 = .inl (aC 0, (9, .inl fun _ => i2 0)) := (enc_a KD_38 (by decide)).trans rfl
theorem en_39 : enc aC (adS hC u hM v qL) M0 39 = .inl (aC 0, (512, .inl fun _ => i2 0)) := (enc_a KD_39 (by decide)).trans rfl
theorem en_40 : enc aC (adS hC u hM v qL) M0 40 = .inl (aC 0, (512, .inl fun _ => i2 0)) := (enc_a KD_40 (by decide)).trans rfl
theorem en_41 : enc aC (adS hC u hM v qL) M0 41 = .inl (aC 0, (512, .inl fun _ => i2 0)) := (enc_a KD_41 (by decide)).trans rfl
theorem en_42 : enc aC (adS hC u hM v qL) M0 42 = .inl (aC 0, (16, .inl fun _ => i2 0)) := (enc_a KD_42 (by decide)).trans rfl
theorem en_43 : enc aC (adS hC u hM v qL) M0 43 = .inl (aC 0, (144, .inl fun _ => i2 0)) := (enc_a KD_43 (by decide)).trans rfl
theorem en_44 : enc aC (adS hC u hM v qL) M0 44 = .inl (aC 0, (48, .inl fun _ => i2 0)) := (enc_a KD_44 (by decide)).trans rfl
theorem en_45 : enc aC (adS hC u hM v qL) M0 45 = .inl (aC 0, (3, .inl fun _ => i2 0)) := (enc_a KD_45 (by decide)).trans rfl
theorem en_46 : enc aC (adS hC u hM v qL) M0 46 = .inl (aC 0, (9, .inl fun _ => i2 0)) := (enc_a KD_46 (by decide)).trans rfl
theorem en_47 : enc aC (adS hC u hM v qL) M0 47 = .inl (aC 0, (9, .inl fun _ => i2 0)) := (enc_a KD_47 (by decide)).trans rfl
set_option maxRecDepth 100000 in
theorem en_48 : enc aC (adS hC u hM v qL) M0 48 = .inr (2, [.ref (u 1 0), .ref (u 5 0), .ref (u 7 1), .ref (u 7 2), .int (i2 0), .int (i2 0), .int (i2 0)]) := by
  refine (enc_o KD_48).trans (congrArg (fun z => (.inr (2, z) : va_E)) ?_)
  have e0 : fv (adS hC u hM v qL) (FR 48 0) (M0 48 0) = .ref (u 1 0) := (fv_r (T := 3) FR_48_0).trans (congrArg Value.ref ad_3)
  have e1 : fv (adS hC u hM v qL) (FR 48 1) (M0 48 1) = .ref (u 5 0) := (fv_r (T := 30) FR_48_1).trans (congrArg Value.ref ad_30)
  have e2 : fv (adS hC u hM v qL) (FR 48 2) (M0 48 2) = .ref (u 7 1) := (fv_r (T := 49) FR_48_2).trans (congrArg Value.ref ad_49)
  have e3 : fv (adS hC u hM v qL) (FR 48 3) (M0 48 3) = .ref (u 7 2) := (fv_r (T := 50) FR_48_3).trans (congrArg Value.ref ad_50)
  have e4 : fv (adS hC u hM v qL) (FR 48 4) (M0 48 4) = .int (i2 0) := fv_0 FR_48_4
  have e5 : fv (adS hC u hM v qL) (FR 48 5) (M0 48 5) = .int (i2 0) := fv_0 FR_48_5
  have e6 : fv (adS hC u hM v qL) (FR 48 6) (M0 48 6) = .int (i2 0) := fv_0 FR_48_6
  show [fv (adS hC u hM v qL) (FR 48 0) (M0 48 0), fv (adS hC u hM v qL) (FR 48 1) (M0 48 1), fv (adS hC u hM v qL) (FR 48 2) (M0 48 2), fv (adS hC u hM v qL) (FR 48 3) (M0 48 3), fv (adS hC u hM v qL) (FR 48 4) (M0 48 4), fv (adS hC u hM v qL) (FR 48 5) (M0 48 5), fv (adS hC u hM v qL) (FR 48 6) (M0 48 6)] = _
  rw [e0, e1, e2, e3, e4, e5, e6]
theorem en_49 : enc aC (adS hC u hM v qL) M0 49 = .inl (aC 0, (3, .inl fun _ => i2 0)) := (enc_a KD_49 (by decide)).trans rfl
theorem en_50 : enc aC (adS hC u hM v qL) M0 50 = .inl (aC 0, (14, .inl fun _ => i2 0)) := (enc_a KD_50 (by decide)).trans rfl
set_option maxRecDepth 100000 in
theorem en_51 : enc aC (adS hC u hM v qL) M0 51 = .inr (3, [.int (i2 0), .ref (u 8 1), .ref (u 8 2), .ref (u 8 3), .ref (u 8 4), .ref (u 8 5), .int (i2 0)]) := by
  refine (enc_o KD_51).trans (congrArg (fun z => (.inr (3, z) : va_E)) ?_)
  have e0 : fv (adS hC u hM v qL) (FR 51 0) (M0 51 0) = .int (i2 0) := fv_0 FR_51_0
  have e1 : fv (adS hC u hM v qL) (FR 51 1) (M0 51 1) = .ref (u 8 1) := (fv_r (T := 52) FR_51_1).trans (congrArg Value.ref ad_52)
  have e2 : fv (adS hC u hM v qL) (FR 51 2) (M0 51 2) = .ref (u 8 2) := (fv_r (T := 53) FR_51_2).trans (congrArg Value.ref ad_53)
  have e3 : fv (adS hC u hM v qL) (FR 51 3) (M0 51 3) = .ref (u 8 3) := (fv_r (T := 54) FR_51_3).trans (congrArg Value.ref ad_54)
  have e4 : fv (adS hC u hM v qL) (FR 51 4) (M0 51 4) = .ref (u 8 4) := (fv_r (T := 55) FR_51_4).trans (congrArg Value.ref ad_55)
  have e5 : fv (adS hC u hM v qL) (FR 51 5) (M0 51 5) = .ref (u 8 5) := (fv_r (T := 56) FR_51_5).trans (congrArg Value.ref ad_56)
  have e6 : fv (adS hC u hM v qL) (FR 51 6) (M0 51 6) = .int (i2 0) := fv_0 FR_51_6
  show [fv (adS hC u hM v qL) (FR 51 0) (M0 51 0), fv (adS hC u hM v qL) (FR 51 1) (M0 51 1), fv (adS hC u hM v qL) (FR 51 2) (M0 51 2), fv (adS hC u hM v qL) (FR 51 3) (M0 51 3), fv (adS hC u hM v qL) (FR 51 4) (M0 51 4), fv (adS hC u hM v qL) (FR 51 5) (M0 51 5), fv (adS hC u hM v qL) (FR 51 6) (M0 51 6)] = _
  rw [e0, e1, e2, e3, e4, e5, e6]
theorem en_52 : enc aC (adS hC u hM v qL) M0 52 = .inl (aC 0, (6, .inl fun _ => i2 0)) := (enc_a KD_52 (by decide)).trans rfl
theorem en_53 : enc aC (adS hC u hM v qL) M0 53 = .inl (aC 0, (3, .inl fun _ => i2 0)) := (enc_a KD_53 (by decide)).trans rfl
theorem en_54 : enc aC (adS hC u hM v qL) M0 54 = .inl (aC 0, (3, .inl fun _ => i2 0)) := (enc_a KD_54 (by decide)).trans rfl
theorem en_55 : enc aC (adS hC u hM v qL) M0 55 = .inl (aC 0, (6, .inl fun _ => i2 0)) := (enc_a KD_55 (by decide)).trans rfl
theorem en_56 : enc aC (adS hC u hM v qL) M0 56 = .inl (aC 0, (6, .inl fun _ => i2 0)) := (enc_a KD_56 (by decide)).trans rfl
set_option maxRecDepth 100000 in
theorem en_57 : enc aC (adS hC u hM v qL) M0 57 = .inr (0, [.int (i2 0), .ref (u 9 1), .ref (u 9 2), .ref (u 9 3), .ref (u 9 4)]) := by
  refine (enc_o KD_57).trans (congrArg (fun z => (.inr (0, z) : va_E)) ?_)
  have e0 : fv (adS hC u hM v qL) (FR 57 0) (M0 57 0) = .int (i2 0) := fv_0 FR_57_0
  have e1 : fv (adS hC u hM v qL) (FR 57 1) (M0 57 1) = .ref (u 9 1) := (fv_r (T := 58) FR_57_1).trans (congrArg Value.ref ad_58)
  have e2 : fv (adS hC u hM v qL) (FR 57 2) (M0 57 2) = .ref (u 9 2) := (fv_r (T := 59) FR_57_2).trans (congrArg Value.ref ad_59)
  have e3 : fv (adS hC u hM v qL) (FR 57 3) (M0 57 3) = .ref (u 9 3) := (fv_r (T := 60) FR_57_3).trans (congrArg Value.ref ad_60)
  have e4 : fv (adS hC u hM v qL) (FR 57 4) (M0 57 4) = .ref (u 9 4) := (fv_r (T := 61) FR_57_4).trans (congrArg Value.ref ad_61)
  show [fv (adS hC u hM v qL) (FR 57 0) (M0 57 0), fv (adS hC u hM v qL) (FR 57 1) (M0 57 1), fv (adS hC u hM v qL) (FR 57 2) (M0 57 2), fv (adS hC u hM v qL) (FR 57 3) (M0 57 3), fv (adS hC u hM v qL) (FR 57 4) (M0 57 4)] = _
  rw [e0, e1, e2, e3, e4]
theorem en_58 : enc aC (adS hC u hM v qL) M0 58 = .inl (aC 0, (400, .inl fun _ => i2 0)) := (enc_a KD_58 (by decide)).trans rfl
theorem en_59 : enc aC (adS hC u hM v qL) M0 59 = .inl (aC 0, (400, .inl fun _ => i2 0)) := (enc_a KD_59 (by decide)).trans rfl
theorem en_60 : enc aC (adS hC u hM v qL) M0 60 = .inl (aC 0, (400, .inl fun _ => i2 0)) := (enc_a KD_60 (by decide)).trans rfl
theorem en_61 : enc aC (adS hC u hM v qL) M0 61 = .inl (aC 0, (14, .inl fun _ => i2 (-1))) := (enc_a KD_61 (by decide)).trans rfl
set_option maxRecDepth 100000 in
theorem en_62 : enc aC (adS hC u hM v qL) M0 62 = .inr (7, [.int (i2 0), .ref (u 10 1), .ref (u 10 2), .ref (u 10 3), .ref (u 10 4), .ref (u 10 5), .ref (u 10 6), .ref (u 10 7), .ref (u 10 8)]) := by
  refine (enc_o KD_62).trans (congrArg (fun z => (.inr (7, z) : va_E)) ?_)
  have e0 : fv (adS hC u hM v qL) (FR 62 0) (M0 62 0) = .int (i2 0) := fv_0 FR_62_0
  have e1 : fv (adS hC u hM v qL) (FR 62 1) (M0 62 1) = .ref (u 10 1) := (fv_r (T := 63) FR_62_1).trans (congrArg Value.ref ad_63)
  have e2 : fv (adS hC u hM v qL) (FR 62 2) (M0 62 2) = .ref (u 10 2) := (fv_r (T := 64) FR_62_2).trans (congrArg Value.ref ad_64)
  have e3 : fv (adS hC u hM v qL) (FR 62 3) (M0 62 3) = .ref (u 10 3) := (fv_r (T := 65) FR_62_3).trans (congrArg Value.ref ad_65)
  have e4 : fv (adS hC u hM v qL) (FR 62 4) (M0 62 4) = .ref (u 10 4) := (fv_r (T := 66) FR_62_4).trans (congrArg Value.ref ad_66)
  have e5 : fv (adS hC u hM v qL) (FR 62 5) (M0 62 5) = .ref (u 10 5) := (fv_r (T := 67) FR_62_5).trans (congrArg Value.ref ad_67)
  have e6 : fv (adS hC u hM v qL) (FR 62 6) (M0 62 6) = .ref (u 10 6) := (fv_r (T := 68) FR_62_6).trans (congrArg Value.ref ad_68)
  have e7 : fv (adS hC u hM v qL) (FR 62 7) (M0 62 7) = .ref (u 10 7) := (fv_r (T := 69) FR_62_7).trans (congrArg Value.ref ad_69)
  have e8 : fv (adS hC u hM v qL) (FR 62 8) (M0 62 8) = .ref (u 10 8) := (fv_r (T := 70) FR_62_8).trans (congrArg Value.ref ad_70)
  show [fv (adS hC u hM v qL) (FR 62 0) (M0 62 0), fv (adS hC u hM v qL) (FR 62 1) (M0 62 1), fv (adS hC u hM v qL) (FR 62 2) (M0 62 2), fv (adS hC u hM v qL) (FR 62 3) (M0 62 3), fv (adS hC u hM v qL) (FR 62 4) (M0 62 4), fv (adS hC u hM v qL) (FR 62 5) (M0 62 5), fv (adS hC u hM v qL) (FR 62 6) (M0 62 6), fv (adS hC u hM v qL) (FR 62 7) (M0 62 7), fv (adS hC u hM v qL) (FR 62 8) (M0 62 8)] = _
  rw [e0, e1, e2, e3, e4, e5, e6, e7, e8]
theorem en_63 : enc aC (adS hC u hM v qL) M0 63 = .inl (aC 0, (16, .inl fun _ => i2 0)) := (enc_a KD_63 (by decide)).trans rfl
theorem en_64 : enc aC (adS hC u hM v qL) M0 64 = .inl (aC 0, (16, .inl fun _ => i2 0)) := (enc_a KD_64 (by decide)).trans rfl
theorem en_65 : enc aC (adS hC u hM v qL) M0 65 = .inl (aC 0, (16, .inl fun _ => i2 0)) := (enc_a KD_65 (by decide)).trans rfl
theorem en_66 : enc aC (adS hC u hM v qL) M0 66 = .inl (aC 0, (32, .inl fun _ => i2 0)) := (enc_a KD_66 (by decide)).trans rfl
theorem en_67 : enc aC (adS hC u hM v qL) M0 67 = .inl (aC 1, (128, .inl fun _ => i2 0)) := (enc_a KD_67 (by decide)).trans rfl
theorem en_68 : enc aC (adS hC u hM v qL) M0 68 = .inl (aC 0, (128, .inl fun _ => i2 0)) := (enc_a KD_68 (by decide)).trans rfl
theorem en_69 : enc aC (adS hC u hM v qL) M0 69 = .inl (aC 0, (128, .inl fun _ => i2 0)) := (enc_a KD_69 (by decide)).trans rfl
theorem en_70 : enc aC (adS hC u hM v qL) M0 70 = .inl (aC 0, (128, .inl fun _ => i2 0)) := (enc_a KD_70 (by decide)).trans rfl
set_option maxRecDepth 100000 in
theorem en_71 : enc aC (adS hC u hM v qL) M0 71 = .inr (7, [.int (i2 0), .ref (u 11 1), .ref (u 11 2), .ref (u 11 3), .ref (u 11 4), .ref (u 11 5), .ref (u 11 6), .ref (u 11 7), .ref (u 11 8)]) := by
  refine (enc_o KD_71).trans (congrArg (fun z => (.inr (7, z) : va_E)) ?_)
  have e0 : fv (adS hC u hM v qL) (FR 71 0) (M0 71 0) = .int (i2 0) := fv_0 FR_71_0
  have e1 : fv (adS hC u hM v qL) (FR 71 1) (M0 71 1) = .ref (u 11 1) := (fv_r (T := 72) FR_71_1).trans (congrArg Value.ref ad_72)
  have e2 : fv (adS hC u hM v qL) (FR 71 2) (M0 71 2) = .ref (u 11 2) := (fv_r (T := 73) FR_71_2).trans (congrArg Value.ref ad_73)
  have e3 : fv (adS hC u hM v qL) (FR 71 3) (M0 71 3) = .ref (u 11 3) := (fv_r (T := 74) FR_71_3).trans (congrArg Value.ref ad_74)
  have e4 : fv (adS hC u hM v qL) (FR 71 4) (M0 71 4) = .ref (u 11 4) := (fv_r (T := 75) FR_71_4).trans (congrArg Value.ref ad_75)
  have e5 : fv (adS hC u hM v qL) (FR 71 5) (M0 71 5) = .ref (u 11 5) := (fv_r (T := 76) FR_71_5).trans (congrArg Value.ref ad_76)
  have e6 : fv (adS hC u hM v qL) (FR 71 6) (M0 71 6) = .ref (u 11 6) := (fv_r (T := 77) FR_71_6).trans (congrArg Value.ref ad_77)
  have e7 : fv (adS hC u hM v qL) (FR 71 7) (M0 71 7) = .ref (u 11 7) := (fv_r (T := 78) FR_71_7).trans (congrArg Value.ref ad_78)
  have e8 : fv (adS hC u hM v qL) (FR 71 8) (M0 71 8) = .ref (u 11 8) := (fv_r (T := 79) FR_71_8).trans (congrArg Value.ref ad_79)
  show [fv (adS hC u hM v qL) (FR 71 0) (M0 71 0), fv (adS hC u hM v qL) (FR 71 1) (M0 71 1), fv (adS hC u hM v qL) (FR 71 2) (M0 71 2), fv (adS hC u hM v qL) (FR 71 3) (M0 71 3), fv (adS hC u hM v qL) (FR 71 4) (M0 71 4), fv (adS hC u hM v qL) (FR 71 5) (M0 71 5), fv (adS hC u hM v qL) (FR 71 6) (M0 71 6), fv (adS hC u hM v qL) (FR 71 7) (M0 71 7), fv (adS hC u hM v qL) (FR 71 8) (M0 71 8)] = _
  rw [e0, e1, e2, e3, e4, e5, e6, e7, e8]
theorem en_72 : enc aC (adS hC u hM v qL) M0 72 = .inl (aC 0, (16, .inl fun _ => i2 0)) := (enc_a KD_72 (by decide)).trans rfl
theorem en_73 : enc aC (adS hC u hM v qL) M0 73 = .inl (aC 0, (16, .inl fun _ => i2 0)) := (enc_a KD_73 (by decide)).trans rfl
theorem en_74 : enc aC (adS hC u hM v qL) M0 74 = .inl (aC 0, (16, .inl fun _ => i2 0)) := (enc_a KD_74 (by decide)).trans rfl
theorem en_75 : enc aC (adS hC u hM v qL) M0 75 = .inl (aC 0, (32, .inl fun _ => i2 0)) := (enc_a KD_75 (by decide)).trans rfl
theorem en_76 : enc aC (adS hC u hM v qL) M0 76 = .inl (aC 1, (128, .inl fun _ => i2 0)) := (enc_a KD_76 (by decide)).trans rfl
theorem en_77 : enc aC (adS hC u hM v qL) M0 77 = .inl (aC 0, (128, .inl fun _ => i2 0)) := (enc_a KD_77 (by decide)).trans rfl
theorem en_78 : enc aC (adS hC u hM v qL) M0 78 = .inl (aC 0, (128, .inl fun _ => i2 0)) := (enc_a KD_78 (by decide)).trans rfl
theorem en_79 : enc aC (adS hC u hM v qL) M0 79 = .inl (aC 0, (128, .inl fun _ => i2 0)) := (enc_a KD_79 (by decide)).trans rfl
set_option maxRecDepth 100000 in
theorem en_80 : enc aC (adS hC u hM v qL) M0 80 = .inr (11, [.int (i2 0), .int (i2 0), .ref (v 1), .ref (v 2), .ref (v 3), .ref (v 4), .ref (v 5), .ref (v 6), .ref (v 7), .ref (v 8), .ref (v 9), .ref (v 10), .int (i2 2), .ref (v 11), .int (i2 0), .int (i2 0), .ref (v 12), .ref (v 13), .ref (v 14), .ref (v 15), .ref (v 16), .int (i2 0), .int (i2 0), .ref (v 17), .ref (v 18), .ref (v 19), .ref (v 20), .ref (v 21), .ref (v 22), .ref (v 23), .ref (v 24), .ref (v 25), .int (i2 0), .int (i2 0), .int (i2 (-1)), .int (i2 0), .int (i2 0), .int (i2 0), .int (i2 0), .ref (v 26), .ref (v 27), .ref (v 28), .ref (v 29), .int (i2 0), .int (i2 0), .int (i2 0), .int (i2 0), .ref (v 30), .int (i2 (-1)), .ref (v 31), .int (i2 0), .ref (v 32), .ref (v 33), .ref (v 34), .ref (v 35), .int (i2 0), .int (i2 0), .ref (v 36), .ref (v 37), .ref (v 38), .ref (v 39)]) := by
  refine (enc_o KD_80).trans (congrArg (fun z => (.inr (11, z) : va_E)) ?_)
  have e0 : fv (adS hC u hM v qL) (FR 80 0) (M0 80 0) = .int (i2 0) := fv_0 FR_80_0
  have e1 : fv (adS hC u hM v qL) (FR 80 1) (M0 80 1) = .int (i2 0) := fv_0 FR_80_1
  have e2 : fv (adS hC u hM v qL) (FR 80 2) (M0 80 2) = .ref (v 1) := (fv_r (T := 81) FR_80_2).trans (congrArg Value.ref ad_81)
  have e3 : fv (adS hC u hM v qL) (FR 80 3) (M0 80 3) = .ref (v 2) := (fv_r (T := 82) FR_80_3).trans (congrArg Value.ref ad_82)
  have e4 : fv (adS hC u hM v qL) (FR 80 4) (M0 80 4) = .ref (v 3) := (fv_r (T := 83) FR_80_4).trans (congrArg Value.ref ad_83)
  have e5 : fv (adS hC u hM v qL) (FR 80 5) (M0 80 5) = .ref (v 4) := (fv_r (T := 84) FR_80_5).trans (congrArg Value.ref ad_84)
  have e6 : fv (adS hC u hM v qL) (FR 80 6) (M0 80 6) = .ref (v 5) := (fv_r (T := 85) FR_80_6).trans (congrArg Value.ref ad_85)
  have e7 : fv (adS hC u hM v qL) (FR 80 7) (M0 80 7) = .ref (v 6) := (fv_r (T := 86) FR_80_7).trans (congrArg Value.ref ad_86)
  have e8 : fv (adS hC u hM v qL) (FR 80 8) (M0 80 8) = .ref (v 7) := (fv_r (T := 87) FR_80_8).trans (congrArg Value.ref ad_87)
  have e9 : fv (adS hC u hM v qL) (FR 80 9) (M0 80 9) = .ref (v 8) := (fv_r (T := 88) FR_80_9).trans (congrArg Value.ref ad_88)
  have e10 : fv (adS hC u hM v qL) (FR 80 10) (M0 80 10) = .ref (v 9) := (fv_r (T := 89) FR_80_10).trans (congrArg Value.ref ad_89)
  have e11 : fv (adS hC u hM v qL) (FR 80 11) (M0 80 11) = .ref (v 10) := (fv_r (T := 90) FR_80_11).trans (congrArg Value.ref ad_90)
  have e12 : fv (adS hC u hM v qL) (FR 80 12) (M0 80 12) = .int (i2 2) := fv_0 FR_80_12
  have e13 : fv (adS hC u hM v qL) (FR 80 13) (M0 80 13) = .ref (v 11) := (fv_r (T := 91) FR_80_13).trans (congrArg Value.ref ad_91)
  have e14 : fv (adS hC u hM v qL) (FR 80 14) (M0 80 14) = .int (i2 0) := fv_0 FR_80_14
  have e15 : fv (adS hC u hM v qL) (FR 80 15) (M0 80 15) = .int (i2 0) := fv_0 FR_80_15
  have e16 : fv (adS hC u hM v qL) (FR 80 16) (M0 80 16) = .ref (v 12) := (fv_r (T := 92) FR_80_16).trans (congrArg Value.ref ad_92)
  have e17 : fv (adS hC u hM v qL) (FR 80 17) (M0 80 17) = .ref (v 13) := (fv_r (T := 93) FR_80_17).trans (congrArg Value.ref ad_93)
  have e18 : fv (adS hC u hM v qL) (FR 80 18) (M0 80 18) = .ref (v 14) := (fv_r (T := 94) FR_80_18).trans (congrArg Value.ref ad_94)
  have e19 : fv (adS hC u hM v qL) (FR 80 19) (M0 80 19) = .ref (v 15) := (fv_r (T := 95) FR_80_19).trans (congrArg Value.ref ad_95)
  have e20 : fv (adS hC u hM v qL) (FR 80 20) (M0 80 20) = .ref (v 16) := (fv_r (T := 96) FR_80_20).trans (congrArg Value.ref ad_96)
  have e21 : fv (adS hC u hM v qL) (FR 80 21) (M0 80 21) = .int (i2 0) := fv_0 FR_80_21
  have e22 : fv (adS hC u hM v qL) (FR 80 22) (M0 80 22) = .int (i2 0) := fv_0 FR_80_22
  have e23 : fv (adS hC u hM v qL) (FR 80 23) (M0 80 23) = .ref (v 17) := (fv_r (T := 97) FR_80_23).trans (congrArg Value.ref ad_97)
  have e24 : fv (adS hC u hM v qL) (FR 80 24) (M0 80 24) = .ref (v 18) := (fv_r (T := 98) FR_80_24).trans (congrArg Value.ref ad_98)
  have e25 : fv (adS hC u hM v qL) (FR 80 25) (M0 80 25) = .ref (v 19) := (fv_r (T := 99) FR_80_25).trans (congrArg Value.ref ad_99)
  have e26 : fv (adS hC u hM v qL) (FR 80 26) (M0 80 26) = .ref (v 20) := (fv_r (T := 100) FR_80_26).trans (congrArg Value.ref ad_100)
  have e27 : fv (adS hC u hM v qL) (FR 80 27) (M0 80 27) = .ref (v 21) := (fv_r (T := 101) FR_80_27).trans (congrArg Value.ref ad_101)
  have e28 : fv (adS hC u hM v qL) (FR 80 28) (M0 80 28) = .ref (v 22) := (fv_r (T := 102) FR_80_28).trans (congrArg Value.ref ad_102)
  have e29 : fv (adS hC u hM v qL) (FR 80 29) (M0 80 29) = .ref (v 23) := (fv_r (T := 103) FR_80_29).trans (congrArg Value.ref ad_103)
  have e30 : fv (adS hC u hM v qL) (FR 80 30) (M0 80 30) = .ref (v 24) := (fv_r (T := 104) FR_80_30).trans (congrArg Value.ref ad_104)
  have e31 : fv (adS hC u hM v qL) (FR 80 31) (M0 80 31) = .ref (v 25) := (fv_r (T := 105) FR_80_31).trans (congrArg Value.ref ad_105)
  have e32 : fv (adS hC u hM v qL) (FR 80 32) (M0 80 32) = .int (i2 0) := fv_0 FR_80_32
  have e33 : fv (adS hC u hM v qL) (FR 80 33) (M0 80 33) = .int (i2 0) := fv_0 FR_80_33
  have e34 : fv (adS hC u hM v qL) (FR 80 34) (M0 80 34) = .int (i2 (-1)) := fv_0 FR_80_34
  have e35 : fv (adS hC u hM v qL) (FR 80 35) (M0 80 35) = .int (i2 0) := fv_0 FR_80_35
  have e36 : fv (adS hC u hM v qL) (FR 80 36) (M0 80 36) = .int (i2 0) := fv_0 FR_80_36
  have e37 : fv (adS hC u hM v qL) (FR 80 37) (M0 80 37) = .int (i2 0) := fv_0 FR_80_37
  have e38 : fv (adS hC u hM v qL) (FR 80 38) (M0 80 38) = .int (i2 0) := fv_0 FR_80_38
  have e39 : fv (adS hC u hM v qL) (FR 80 39) (M0 80 39) = .ref (v 26) := (fv_r (T := 106) FR_80_39).trans (congrArg Value.ref ad_106)
  have e40 : fv (adS hC u hM v qL) (FR 80 40) (M0 80 40) = .ref (v 27) := (fv_r (T := 107) FR_80_40).trans (congrArg Value.ref ad_107)
  have e41 : fv (adS hC u hM v qL) (FR 80 41) (M0 80 41) = .ref (v 28) := (fv_r (T := 108) FR_80_41).trans (congrArg Value.ref ad_108)
  have e42 : fv (adS hC u hM v qL) (FR 80 42) (M0 80 42) = .ref (v 29) := (fv_r (T := 109) FR_80_42).trans (congrArg Value.ref ad_109)
  have e43 : fv (adS hC u hM v qL) (FR 80 43) (M0 80 43) = .int (i2 0) := fv_0 FR_80_43
  have e44 : fv (adS hC u hM v qL) (FR 80 44) (M0 80 44) = .int (i2 0) := fv_0 FR_80_44
  have e45 : fv (adS hC u hM v qL) (FR 80 45) (M0 80 45) = .int (i2 0) := fv_0 FR_80_45
  have e46 : fv (adS hC u hM v qL) (FR 80 46) (M0 80 46) = .int (i2 0) := fv_0 FR_80_46
  have e47 : fv (adS hC u hM v qL) (FR 80 47) (M0 80 47) = .ref (v 30) := (fv_r (T := 110) FR_80_47).trans (congrArg Value.ref ad_110)
  have e48 : fv (adS hC u hM v qL) (FR 80 48) (M0 80 48) = .int (i2 (-1)) := fv_0 FR_80_48
  have e49 : fv (adS hC u hM v qL) (FR 80 49) (M0 80 49) = .ref (v 31) := (fv_r (T := 111) FR_80_49).trans (congrArg Value.ref ad_111)
  have e50 : fv (adS hC u hM v qL) (FR 80 50) (M0 80 50) = .int (i2 0) := fv_0 FR_80_50
  have e51 : fv (adS hC u hM v qL) (FR 80 51) (M0 80 51) = .ref (v 32) := (fv_r (T := 112) FR_80_51).trans (congrArg Value.ref ad_112)
  have e52 : fv (adS hC u hM v qL) (FR 80 52) (M0 80 52) = .ref (v 33) := (fv_r (T := 113) FR_80_52).trans (congrArg Value.ref ad_113)
  have e53 : fv (adS hC u hM v qL) (FR 80 53) (M0 80 53) = .ref (v 34) := (fv_r (T := 114) FR_80_53).trans (congrArg Value.ref ad_114)
  have e54 : fv (adS hC u hM v qL) (FR 80 54) (M0 80 54) = .ref (v 35) := (fv_r (T := 115) FR_80_54).trans (congrArg Value.ref ad_115)
  have e55 : fv (adS hC u hM v qL) (FR 80 55) (M0 80 55) = .int (i2 0) := fv_0 FR_80_55
  have e56 : fv (adS hC u hM v qL) (FR 80 56) (M0 80 56) = .int (i2 0) := fv_0 FR_80_56
  have e57 : fv (adS hC u hM v qL) (FR 80 57) (M0 80 57) = .ref (v 36) := (fv_r (T := 116) FR_80_57).trans (congrArg Value.ref ad_116)
  have e58 : fv (adS hC u hM v qL) (FR 80 58) (M0 80 58) = .ref (v 37) := (fv_r (T := 117) FR_80_58).trans (congrArg Value.ref ad_117)
  have e59 : fv (adS hC u hM v qL) (FR 80 59) (M0 80 59) = .ref (v 38) := (fv_r (T := 118) FR_80_59).trans (congrArg Value.ref ad_118)
  have e60 : fv (adS hC u hM v qL) (FR 80 60) (M0 80 60) = .ref (v 39) := (fv_r (T := 119) FR_80_60).trans (congrArg Value.ref ad_119)
  show [fv (adS hC u hM v qL) (FR 80 0) (M0 80 0), fv (adS hC u hM v qL) (FR 80 1) (M0 80 1), fv (adS hC u hM v qL) (FR 80 2) (M0 80 2), fv (adS hC u hM v qL) (FR 80 3) (M0 80 3), fv (adS hC u hM v qL) (FR 80 4) (M0 80 4), fv (adS hC u hM v qL) (FR 80 5) (M0 80 5), fv (adS hC u hM v qL) (FR 80 6) (M0 80 6), fv (adS hC u hM v qL) (FR 80 7) (M0 80 7), fv (adS hC u hM v qL) (FR 80 8) (M0 80 8), fv (adS hC u hM v qL) (FR 80 9) (M0 80 9), fv (adS hC u hM v qL) (FR 80 10) (M0 80 10), fv (adS hC u hM v qL) (FR 80 11) (M0 80 11), fv (adS hC u hM v qL) (FR 80 12) (M0 80 12), fv (adS hC u hM v qL) (FR 80 13) (M0 80 13), fv (adS hC u hM v qL) (FR 80 14) (M0 80 14), fv (adS hC u hM v qL) (FR 80 15) (M0 80 15), fv (adS hC u hM v qL) (FR 80 16) (M0 80 16), fv (adS hC u hM v qL) (FR 80 17) (M0 80 17), fv (adS hC u hM v qL) (FR 80 18) (M0 80 18), fv (adS hC u hM v qL) (FR 80 19) (M0 80 19), fv (adS hC u hM v qL) (FR 80 20) (M0 80 20), fv (adS hC u hM v qL) (FR 80 21) (M0 80 21), fv (adS hC u hM v qL) (FR 80 22) (M0 80 22), fv (adS hC u hM v qL) (FR 80 23) (M0 80 23), fv (adS hC u hM v qL) (FR 80 24) (M0 80 24), fv (adS hC u hM v qL) (FR 80 25) (M0 80 25), fv (adS hC u hM v qL) (FR 80 26) (M0 80 26), fv (adS hC u hM v qL) (FR 80 27) (M0 80 27), fv (adS hC u hM v qL) (FR 80 28) (M0 80 28), fv (adS hC u hM v qL) (FR 80 29) (M0 80 29), fv (adS hC u hM v qL) (FR 80 30) (M0 80 30), fv (adS hC u hM v qL) (FR 80 31) (M0 80 31), fv (adS hC u hM v qL) (FR 80 32) (M0 80 32), fv (adS hC u hM v qL) (FR 80 33) (M0 80 33), fv (adS hC u hM v qL) (FR 80 34) (M0 80 34), fv (adS hC u hM v qL) (FR 80 35) (M0 80 35), fv (adS hC u hM v qL) (FR 80 36) (M0 80 36), fv (adS hC u hM v qL) (FR 80 37) (M0 80 37), fv (adS hC u hM v qL) (FR 80 38) (M0 80 38), fv (adS hC u hM v qL) (FR 80 39) (M0 80 39), fv (adS hC u hM v qL) (FR 80 40) (M0 80 40), fv (adS hC u hM v qL) (FR 80 41) (M0 80 41), fv (adS hC u hM v qL) (FR 80 42) (M0 80 42), fv (adS hC u hM v qL) (FR 80 43) (M0 80 43), fv (adS hC u hM v qL) (FR 80 44) (M0 80 44), fv (adS hC u hM v qL) (FR 80 45) (M0 80 45), fv (adS hC u hM v qL) (FR 80 46) (M0 80 46), fv (adS hC u hM v qL) (FR 80 47) (M0 80 47), fv (adS hC u hM v qL) (FR 80 48) (M0 80 48), fv (adS hC u hM v qL) (FR 80 49) (M0 80 49), fv (adS hC u hM v qL) (FR 80 50) (M0 80 50), fv (adS hC u hM v qL) (FR 80 51) (M0 80 51), fv (adS hC u hM v qL) (FR 80 52) (M0 80 52), fv (adS hC u hM v qL) (FR 80 53) (M0 80 53), fv (adS hC u hM v qL) (FR 80 54) (M0 80 54), fv (adS hC u hM v qL) (FR 80 55) (M0 80 55), fv (adS hC u hM v qL) (FR 80 56) (M0 80 56), fv (adS hC u hM v qL) (FR 80 57) (M0 80 57), fv (adS hC u hM v qL) (FR 80 58) (M0 80 58), fv (adS hC u hM v qL) (FR 80 59) (M0 80 59), fv (adS hC u hM v qL) (FR 80 60) (M0 80 60)] = _
  rw [e0, e1, e2, e3, e4, e5, e6, e7, e8, e9, e10, e11, e12, e13, e14, e15, e16, e17, e18, e19, e20, e21, e22, e23, e24, e25, e26, e27, e28, e29, e30, e31, e32, e33, e34, e35, e36, e37, e38, e39, e40, e41, e42, e43, e44, e45, e46, e47, e48, e49, e50, e51, e52, e53, e54, e55, e56, e57, e58, e59, e60]
theorem en_81 : enc aC (adS hC u hM v qL) M0 81 = .inl (aC 0, (14, .inl fun _ => i2 0)) := (enc_a KD_81 (by decide)).trans rfl
theorem en_82 : enc aC (adS hC u hM v qL) M0 82 = .inl (aC 0, (14, .inl fun _ => i2 0)) := (enc_a KD_82 (by decide)).trans rfl
theorem en_83 : enc aC (adS hC u hM v qL) M0 83 = .inl (aC 0, (14, .inl fun _ => i2 0)) := (enc_a KD_83 (by decide)).trans rfl
theorem en_84 : enc aC (adS hC u hM v qL) M0 84 = .inl (aC 0, (14, .inl fun _ => i2 0)) := (enc_a KD_84 (by decide)).trans rfl
theorem en_85 : enc aC (adS hC u hM v qL) M0 85 = .inl (aC 0, (14, .inl fun _ => i2 0)) := (enc_a KD_85 (by decide)).trans rfl
theorem en_86 : enc aC (adS hC u hM v qL) M0 86 = .inl (aC 0, (42, .inl fun _ => i2 (-1))) := (enc_a KD_86 (by decide)).trans rfl
theorem en_87 : enc aC (adS hC u hM v qL) M0 87 = .inl (aC 0, (196, .inl fun _ => i2 0)) := (enc_a KD_87 (by decide)).trans rfl
theorem en_88 : enc aC (adS hC u hM v qL) M0 88 = .inl (aC 1, (196, .inl fun _ => i2 0)) := (enc_a KD_88 (by decide)).trans rfl
theorem en_89 : enc aC (adS hC u hM v qL) M0 89 = .inl (aC 1, (196, .inl fun _ => i2 0)) := (enc_a KD_89 (by decide)).trans rfl
theorem en_90 : enc aC (adS hC u hM v qL) M0 90 = .inl (aC 1, (42, .inl fun _ => i2 0)) := (enc_a KD_90 (by decide)).trans rfl
theorem en_91 : enc aC (adS hC u hM v qL) M0 91 = .inl (aC 0, (3, .inl fun _ => i2 14)) := (enc_a KD_91 (by decide)).trans rfl
theorem en_92 : enc aC (adS hC u hM v qL) M0 92 = .inl (aC 0, (300, .inl fun _ => i2 0)) := (enc_a KD_92 (by decide)).trans rfl
theorem en_93 : enc aC (adS hC u hM v qL) M0 93 = .inl (aC 0, (300, .inl fun _ => i2 0)) := (enc_a KD_93 (by decide)).trans rfl
theorem en_94 : enc aC (adS hC u hM v qL) M0 94 = .inl (aC 0, (300, .inl fun _ => i2 0)) := (enc_a KD_94 (by decide)).trans rfl
theorem en_95 : enc aC (adS hC u hM v qL) M0 95 = .inl (aC 0, (300, .inl fun _ => i2 0)) := (enc_a KD_95 (by decide)).trans rfl
theorem en_96 : enc aC (adS hC u hM v qL) M0 96 = .inl (aC 0, (300, .inl fun _ => i2 0)) := (enc_a KD_96 (by decide)).trans rfl
theorem en_97 : enc aC (adS hC u hM v qL) M0 97 = .inl (aC 0, (32, .inl fun _ => i2 0)) := (enc_a KD_97 (by decide)).trans rfl
theorem en_98 : enc aC (adS hC u hM v qL) M0 98 = .inl (aC 0, (32, .inl fun _ => i2 0)) := (enc_a KD_98 (by decide)).trans rfl
theorem en_99 : enc aC (adS hC u hM v qL) M0 99 = .inl (aC 0, (32, .inl fun _ => i2 0)) := (enc_a KD_99 (by decide)).trans rfl
theorem en_100 : enc aC (adS hC u hM v qL) M0 100 = .inl (aC 0, (64, .inl fun _ => i2 0)) := (enc_a KD_100 (by decide)).trans rfl
theorem en_101 : enc aC (adS hC u hM v qL) M0 101 = .inl (aC 1, (256, .inl fun _ => i2 0)) := (enc_a KD_101 (by decide)).trans rfl
theorem en_102 : enc aC (adS hC u hM v qL) M0 102 = .inl (aC 0, (256, .inl fun _ => i2 0)) := (enc_a KD_102 (by decide)).trans rfl
theorem en_103 : enc aC (adS hC u hM v qL) M0 103 = .inl (aC 0, (256, .inl fun _ => i2 0)) := (enc_a KD_103 (by decide)).trans rfl
theorem en_104 : enc aC (adS hC u hM v qL) M0 104 = .inl (aC 0, (256, .inl fun _ => i2 0)) := (enc_a KD_104 (by decide)).trans rfl
theorem en_105 : enc aC (adS hC u hM v qL) M0 105 = .inl (aC 3, (400, .inl fun _ => i2 0)) := (enc_a KD_105 (by decide)).trans rfl
theorem en_106 : enc aC (adS hC u hM v qL) M0 106 = .inl (aC 0, (98, .inl fun _ => i2 0)) := (enc_a KD_106 (by decide)).trans rfl
theorem en_107 : enc aC (adS hC u hM v qL) M0 107 = .inl (aC 1, (448, .inl fun _ => i2 0)) := (enc_a KD_107 (by decide)).trans rfl
theorem en_108 : enc aC (adS hC u hM v qL) M0 108 = .inl (aC 0, (14, .inl fun _ => i2 0)) := (enc_a KD_108 (by decide)).trans rfl
theorem en_109 : enc aC (adS hC u hM v qL) M0 109 = .inl (aC 0, (14, .inl fun _ => i2 0)) := (enc_a KD_109 (by decide)).trans rfl
theorem en_110 : enc aC (adS hC u hM v qL) M0 110 = .inl (aC 0, (14, .inl fun _ => i2 (-1))) := (enc_a KD_110 (by decide)).trans rfl
theorem en_111 : enc aC (adS hC u hM v qL) M0 111 = .inl (aC 1, (14, .inl fun _ => i2 0)) := (enc_a KD_111 (by decide)).trans rfl
theorem en_112 : enc aC (adS hC u hM v qL) M0 112 = .inl (aC 0, (6, .inl fun _ => i2 0)) := (enc_a KD_112 (by decide)).trans rfl
theorem en_113 : enc aC (adS hC u hM v qL) M0 113 = .inl (aC 0, (6, .inl fun _ => i2 0)) := (enc_a KD_113 (by decide)).trans rfl
theorem en_114 : enc aC (adS hC u hM v qL) M0 114 = .inl (aC 0, (14, .inl fun _ => i2 (-1))) := (enc_a KD_114 (by decide)).trans rfl
theorem en_115 : enc aC (adS hC u hM v qL) M0 115 = .inl (aC 0, (14, .inl fun _ => i2 (-1))) := (enc_a KD_115 (by decide)).trans rfl
theorem en_116 : enc aC (adS hC u hM v qL) M0 116 = .inl (aC 0, (400, .inl fun _ => i2 0)) := (enc_a KD_116 (by decide)).trans rfl
theorem en_117 : enc aC (adS hC u hM v qL) M0 117 = .inl (aC 0, (400, .inl fun _ => i2 0)) := (enc_a KD_117 (by decide)).trans rfl
theorem en_118 : enc aC (adS hC u hM v qL) M0 118 = .inl (aC 0, (400, .inl fun _ => i2 0)) := (enc_a KD_118 (by decide)).trans rfl
theorem en_119 : enc aC (adS hC u hM v qL) M0 119 = .inl (aC 0, (14, .inl fun _ => i2 (-1))) := (enc_a KD_119 (by decide)).trans rfl
theorem en_120 : enc aC (adS hC u hM v qL) M0 120 = .inl (aC 4, (1, .inr (.inl fun _ => Int64.ofInt 0))) := (enc_l KD_120).trans rfl
theorem ch_0 : (wS aC hC u hM v qL)[0]? = some (hC, .inr (10, [.ref (u 1 0), .ref (u 2 0), .ref (u 3 0), .ref (u 4 0), .ref (u 5 0), .ref (u 6 0), .ref (u 7 0), .ref (u 8 0), .ref (u 9 0), .ref (u 0 1), .ref (u 0 2), .ref (u 10 0), .ref (u 11 0), .int (i2 0), .int (i2 0), .int (i2 (-1)), .int (i2 0), .int (i2 0), .int (i2 0)])) := ga_l (ga_l rfl)
theorem ch_1 : (wS aC hC u hM v qL)[60]? = some (u 0 1, .inl (aC 0, (14, .inl fun _ => i2 (-1)))) := ga_l (ga_l (ga_c (ga_l (ga_l (ga_l (ga_r 59 0 lp_8 (rfl : ([arC (u 0 1) (aC 0) 14 (-1)] : va_W)[0]? = some (u 0 1, .inl (aC 0, (14, .inl fun _ => i2 (-1)))))))))))
theorem ch_2 : (wS aC hC u hM v qL)[61]? = some (u 0 2, .inl (aC 0, (3, .inl fun _ => i2 0))) := ga_l (ga_l (ga_c (ga_l (ga_l (ga_r 60 0 lp_9 (rfl : ([arC (u 0 2) (aC 0) 3 0] : va_W)[0]? = some (u 0 2, .inl (aC 0, (3, .inl fun _ => i2 0)))))))))
theorem ch_3 : (wS aC hC u hM v qL)[1]? = some (u 1 0, .inr (1, [.int (i2 0), .ref (u 1 1), .ref (u 1 2), .ref (u 1 3), .ref (u 1 4), .ref (u 1 5), .ref (u 1 6), .ref (u 1 7), .ref (u 1 8), .ref (u 1 9), .ref (u 1 10), .ref (u 1 11), .ref (u 1 12), .int (i2 2), .ref (u 1 13)])) := ga_l (ga_l (ga_c (ga_l (ga_l (ga_l (ga_l (ga_l (ga_l (ga_l (ga_l (ga_l (ga_l (ga_l (ga_l (rfl : (wX1 aC (u 1 0) (u 1) : va_W)[0]? = some (u 1 0, .inr (1, [.int (i2 0), .ref (u 1 1), .ref (u 1 2), .ref (u 1 3), .ref (u 1 4), .ref (u 1 5), .ref (u 1 6), .ref (u 1 7), .ref (u 1 8), .ref (u 1 9), .ref (u 1 10), .ref (u 1 11), .ref (u 1 12), .int (i2 2), .ref (u 1 13)])))))))))))))))))
theorem ch_4 : (wS aC hC u hM v qL)[2]? = some (u 1 1, .inl (aC 0, (14, .inl fun _ => i2 0))) := ga_l (ga_l (ga_c (ga_l (ga_l (ga_l (ga_l (ga_l (ga_l (ga_l (ga_l (ga_l (ga_l (ga_l (ga_l (rfl : (wX1 aC (u 1 0) (u 1) : va_W)[1]? = some (u 1 1, .inl (aC 0, (14, .inl fun _ => i2 0))))))))))))))))))
theorem ch_5 : (wS aC hC u hM v qL)[3]? = some (u 1 2, .inl (aC 0, (14, .inl fun _ => i2 0))) := ga_l (ga_l (ga_c (ga_l (ga_l (ga_l (ga_l (ga_l (ga_l (ga_l (ga_l (ga_l (ga_l (ga_l (ga_l (rfl : (wX1 aC (u 1 0) (u 1) : va_W)[2]? = some (u 1 2, .inl (aC 0, (14, .inl fun _ => i2 0))))))))))))))))))
theorem ch_6 : (wS aC hC u hM v qL)[4]? = some (u 1 3, .inl (aC 0, (14, .inl fun _ => i2 0))) := ga_l (ga_l (ga_c (ga_l (ga_l (ga_l (ga_l (ga_l (ga_l (ga_l (ga_l (ga_l (ga_l (ga_l (ga_l (rfl : (wX1 aC (u 1 0) (u 1) : va_W)[3]? = some (u 1 3, .inl (aC 0, (14, .inl fun _ => i2 0))))))))))))))))))
theorem ch_7 : (wS aC hC u hM v qL)[5]? = some (u 1 4, .inl (aC 0, (14, .inl fun _ => i2 0))) := ga_l (ga_l (ga_c (ga_l (ga_l (ga_l (ga_l (ga_l (ga_l (ga_l (ga_l (ga_l (ga_l (ga_l (ga_l (rfl : (wX1 aC (u 1 0) (u 1) : va_W)[4]? = some (u 1 4, .inl (aC 0, (14, .inl fun _ => i2 0))))))))))))))))))
theorem ch_8 : (wS aC hC u hM v qL)[6]? = some (u 1 5, .inl (aC 0, (14, .inl fun _ => i2 0))) := ga_l (ga_l (ga_c (ga_l (ga_l (ga_l (ga_l (ga_l (ga_l (ga_l (ga_l (ga_l (ga_l (ga_l (ga_l (rfl : (wX1 aC (u 1 0) (u 1) : va_W)[5]? = some (u 1 5, .inl (aC 0, (14, .inl fun _ => i2 0))))))))))))))))))
theorem ch_9 : (wS aC hC u hM v qL)[7]? = some (u 1 6, .inl (aC 0, (42, .inl fun _ => i2 (-1)))) := ga_l (ga_l (ga_c (ga_l (ga_l (ga_l (ga_l (ga_l (ga_l (ga_l (ga_l (ga_l (ga_l (ga_l (ga_l (rfl : (wX1 aC (u 1 0) (u 1) : va_W)[6]? = some (u 1 6, .inl (aC 0, (42, .inl fun _ => i2 (-1)))))))))))))))))))
theorem ch_10 : (wS aC hC u hM v qL)[8]? = some (u 1 7, .inl (aC 0, (14, .inl fun _ => i2 0))) := ga_l (ga_l (ga_c (ga_l (ga_l (ga_l (ga_l (ga_l (ga_l (ga_l (ga_l (ga_l (ga_l (ga_l (ga_l (rfl : (wX1 aC (u 1 0) (u 1) : va_W)[7]? = some (u 1 7, .inl (aC 0, (14, .inl fun _ => i2 0))))))))))))))))))
theorem ch_11 : (wS aC hC u hM v qL)[9]? = some (u 1 8, .inl (aC 0, (14, .inl fun _ => i2 0))) := ga_l (ga_l (ga_c (ga_l (ga_l (ga_l (ga_l (ga_l (ga_l (ga_l (ga_l (ga_l (ga_l (ga_l (ga_l (rfl : (wX1 aC (u 1 0) (u 1) : va_W)[8]? = some (u 1 8, .inl (aC 0, (14, .inl fun _ => i2 0))))))))))))))))))
theorem ch_12 : (wS aC hC u hM v qL)[10]? = some (u 1 9, .inl (aC 0, (3, .inl fun _ => i2 0))) := ga_l (ga_l (ga_c (ga_l (ga_l (ga_l (ga_l (ga_l (ga_l (ga_l (ga_l (ga_l (ga_l (ga_l (ga_l (rfl : (wX1 aC (u 1 0) (u 1) : va_W)[9]? = some (u 1 9, .inl (aC 0, (3, .inl fun _ => i2 0))))))))))))))))))
theorem ch_13 : (wS aC hC u hM v qL)[11]? = some (u 1 10, .inl (aC 0, (196, .inl fun _ => i2 0))) := ga_l (ga_l (ga_c (ga_l (ga_l (ga_l (ga_l (ga_l (ga_l (ga_l (ga_l (ga_l (ga_l (ga_l (ga_l (rfl : (wX1 aC (u 1 0) (u 1) : va_W)[10]? = some (u 1 10, .inl (aC 0, (196, .inl fun _ => i2 0))))))))))))))))))
theorem ch_14 : (wS aC hC u hM v qL)[12]? = some (u 1 11, .inl (aC 0, (14, .inl fun _ => i2 (-1)))) := ga_l (ga_l (ga_c (ga_l (ga_l (ga_l (ga_l (ga_l (ga_l (ga_l (ga_l (ga_l (ga_l (ga_l (ga_l (rfl : (wX1 aC (u 1 0) (u 1) : va_W)[11]? = some (u 1 11, .inl (aC 0, (14, .inl fun _ => i2 (-1)))))))))))))))))))
theorem ch_15 : (wS aC hC u hM v qL)[13]? = some (u 1 12, .inl (aC 0, (14, .inl fun _ => i2 (-1)))) := ga_l (ga_l (ga_c (ga_l (ga_l (ga_l (ga_l (ga_l (ga_l (ga_l (ga_l (ga_l (ga_l (ga_l (ga_l (rfl : (wX1 aC (u 1 0) (u 1) : va_W)[12]? = some (u 1 12, .inl (aC 0, (14, .inl fun _ => i2 (-1)))))))))))))))))))
theorem ch_16 : (wS aC hC u hM v qL)[14]? = some (u 1 13, .inl (aC 0, (3, .inl fun _ => i2 14))) := ga_l (ga_l (ga_c (ga_l (ga_l (ga_l (ga_l (ga_l (ga_l (ga_l (ga_l (ga_l (ga_l (ga_l (ga_l (rfl : (wX1 aC (u 1 0) (u 1) : va_W)[13]? = some (u 1 13, .inl (aC 0, (3, .inl fun _ => i2 14))))))))))))))))))
theorem ch_17 : (wS aC hC u hM v qL)[15]? = some (u 2 0, .inr (5, [.int (i2 0), .ref (u 2 1), .ref (u 2 2), .ref (u 2 3), .ref (u 2 4), .ref (u 2 5), .ref (u 2 6)])) := ga_l (ga_l (ga_c (ga_l (ga_l (ga_l (ga_l (ga_l (ga_l (ga_l (ga_l (ga_l (ga_l (ga_l (ga_r 14 0 lp_0 (rfl : (wX5 aC (u 2 0) (u 2) : va_W)[0]? = some (u 2 0, .inr (5, [.int (i2 0), .ref (u 2 1), .ref (u 2 2), .ref (u 2 3), .ref (u 2 4), .ref (u 2 5), .ref (u 2 6)])))))))))))))))))
theorem ch_18 : (wS aC hC u hM v qL)[16]? = some (u 2 1, .inl (aC 0, (300, .inl fun _ => i2 0))) := ga_l (ga_l (ga_c (ga_l (ga_l (ga_l (ga_l (ga_l (ga_l (ga_l (ga_l (ga_l (ga_l (ga_l (ga_r 14 1 lp_0 (rfl : (wX5 aC (u 2 0) (u 2) : va_W)[1]? = some (u 2 1, .inl (aC 0, (300, .inl fun _ => i2 0))))))))))))))))))
theorem ch_19 : (wS aC hC u hM v qL)[17]? = some (u 2 2, .inl (aC 0, (300, .inl fun _ => i2 0))) := ga_l (ga_l (ga_c (ga_l (ga_l (ga_l (ga_l (ga_l (ga_l (ga_l (ga_l (ga_l (ga_l (ga_l (ga_r 14 2 lp_0 (rfl : (wX5 aC (u 2 0) (u 2) : va_W)[2]? = some (u 2 2, .inl (aC 0, (300, .inl fun _ => i2 0))))))))))))))))))
theorem ch_20 : (wS aC hC u hM v qL)[18]? = some (u 2 3, .inl (aC 0, (300, .inl fun _ => i2 0))) := ga_l (ga_l (ga_c (ga_l (ga_l (ga_l (ga_l (ga_l (ga_l (ga_l (ga_l (ga_l (ga_l (ga_l (ga_r 14 3 lp_0 (rfl : (wX5 aC (u 2 0) (u 2) : va_W)[3]? = some (u 2 3, .inl (aC 0, (300, .inl fun _ => i2 0))))))))))))))))))
theorem ch_21 : (wS aC hC u hM v qL)[19]? = some (u 2 4, .inl (aC 0, (300, .inl fun _ => i2 0))) := ga_l (ga_l (ga_c (ga_l (ga_l (ga_l (ga_l (ga_l (ga_l (ga_l (ga_l (ga_l (ga_l (ga_l (ga_r 14 4 lp_0 (rfl : (wX5 aC (u 2 0) (u 2) : va_W)[4]? = some (u 2 4, .inl (aC 0, (300, .inl fun _ => i2 0))))))))))))))))))
theorem ch_22 : (wS aC hC u hM v qL)[20]? = some (u 2 5, .inl (aC 0, (300, .inl fun _ => i2 0))) := ga_l (ga_l (ga_c (ga_l (ga_l (ga_l (ga_l (ga_l (ga_l (ga_l (ga_l (ga_l (ga_l (ga_l (ga_r 14 5 lp_0 (rfl : (wX5 aC (u 2 0) (u 2) : va_W)[5]? = some (u 2 5, .inl (aC 0, (300, .inl fun _ => i2 0))))))))))))))))))
theorem ch_23 : (wS aC hC u hM v qL)[21]? = some (u 2 6, .inl (aC 0, (112, .inl fun _ => i2 0))) := ga_l (ga_l (ga_c (ga_l (ga_l (ga_l (ga_l (ga_l (ga_l (ga_l (ga_l (ga_l (ga_l (ga_l (ga_r 14 6 lp_0 (rfl : (wX5 aC (u 2 0) (u 2) : va_W)[6]? = some (u 2 6, .inl (aC 0, (112, .inl fun _ => i2 0))))))))))))))))))
theorem ch_24 : (wS aC hC u hM v qL)[22]? = some (u 3 0, .inr (9, [.int (i2 0), .ref (u 3 1), .int (i2 0), .ref (u 3 2), .ref (u 3 3), .ref (u 3 4)])) := ga_l (ga_l (ga_c (ga_l (ga_l (ga_l (ga_l (ga_l (ga_l (ga_l (ga_l (ga_l (ga_l (ga_r 21 0 lp_1 (rfl : (wX9 aC (u 3 0) (u 3) : va_W)[0]? = some (u 3 0, .inr (9, [.int (i2 0), .ref (u 3 1), .int (i2 0), .ref (u 3 2), .ref (u 3 3), .ref (u 3 4)]))))))))))))))))
theorem ch_25 : (wS aC hC u hM v qL)[23]? = some (u 3 1, .inl (aC 2, (400, .inl fun _ => i2 0))) := ga_l (ga_l (ga_c (ga_l (ga_l (ga_l (ga_l (ga_l (ga_l (ga_l (ga_l (ga_l (ga_l (ga_r 21 1 lp_1 (rfl : (wX9 aC (u 3 0) (u 3) : va_W)[1]? = some (u 3 1, .inl (aC 2, (400, .inl fun _ => i2 0)))))))))))))))))
theorem ch_26 : (wS aC hC u hM v qL)[24]? = some (u 3 2, .inl (aC 0, (401, .inl fun _ => i2 0))) := ga_l (ga_l (ga_c (ga_l (ga_l (ga_l (ga_l (ga_l (ga_l (ga_l (ga_l (ga_l (ga_l (ga_r 21 2 lp_1 (rfl : (wX9 aC (u 3 0) (u 3) : va_W)[2]? = some (u 3 2, .inl (aC 0, (401, .inl fun _ => i2 0)))))))))))))))))
theorem ch_27 : (wS aC hC u hM v qL)[25]? = some (u 3 3, .inl (aC 0, (401, .inl fun _ => i2 0))) := ga_l (ga_l (ga_c (ga_l (ga_l (ga_l (ga_l (ga_l (ga_l (ga_l (ga_l (ga_l (ga_l (ga_r 21 3 lp_1 (rfl : (wX9 aC (u 3 0) (u 3) : va_W)[3]? = some (u 3 3, .inl (aC 0, (401, .inl fun _ => i2 0)))))))))))))))))
theorem ch_28 : (wS aC hC u hM v qL)[26]? = some (u 3 4, .inl (aC 0, (401, .inl fun _ => i2 0))) := ga_l (ga_l (ga_c (ga_l (ga_l (ga_l (ga_l (ga_l (ga_l (ga_l (ga_l (ga_l (ga_l (ga_r 21 4 lp_1 (rfl : (wX9 aC (u 3 0) (u 3) : va_W)[4]? = some (u 3 4, .inl (aC 0, (401, .inl fun _ => i2 0)))))))))))))))))
theorem ch_29 : (wS aC hC u hM v qL)[27]? = some (u 4 0, .inr (6, [.int (i2 0), .int (i2 (-1)), .ref (u 3 0), .null, .int (i2 0), .int (i2 0), .int (i2 0), .int (i2 0)])) := ga_l (ga_l (ga_c (ga_l (ga_l (ga_l (ga_l (ga_l (ga_l (ga_l (ga_l (ga_l (ga_r 26 0 lp_2 (rfl : (wX6 aC (u 4 0) (u 3 0) (u 4) : va_W)[0]? = some (u 4 0, .inr (6, [.int (i2 0), .int (i2 (-1)), .ref (u 3 0), .null, .int (i2 0), .int (i2 0), .int (i2 0), .int (i2 0)])))))))))))))))
theorem ch_30 : (wS aC hC u hM v qL)[28]? = some (u 5 0, .inr (4, [.ref (u 1 0), .ref (u 2 0), .null, .int (i2 0), .ref (u 5 1), .ref (u 5 2), .ref (u 5 3), .ref (u 5 4)])) := ga_l (ga_l (ga_c (ga_l (ga_l (ga_l (ga_l (ga_l (ga_l (ga_l (ga_l (ga_r 27 0 lp_3 (rfl : (wX4 aC (u 5 0) (u 1 0) (u 2 0) (u 5) : va_W)[0]? = some (u 5 0, .inr (4, [.ref (u 1 0), .ref (u 2 0), .null, .int (i2 0), .ref (u 5 1), .ref (u 5 2), .ref (u 5 3), .ref (u 5 4)]))))))))))))))
theorem ch_31 : (wS aC hC u hM v qL)[29]? = some (u 5 1, .inl (aC 0, (98, .inl fun _ => i2 0))) := ga_l (ga_l (ga_c (ga_l (ga_l (ga_l (ga_l (ga_l (ga_l (ga_l (ga_l (ga_r 27 1 lp_3 (rfl : (wX4 aC (u 5 0) (u 1 0) (u 2 0) (u 5) : va_W)[1]? = some (u 5 1, .inl (aC 0, (98, .inl fun _ => i2 0)))))))))))))))
theorem ch_32 : (wS aC hC u hM v qL)[30]? = some (u 5 2, .inl (aC 0, (14, .inl fun _ => i2 0))) := ga_l (ga_l (ga_c (ga_l (ga_l (ga_l (ga_l (ga_l (ga_l (ga_l (ga_l (ga_r 27 2 lp_3 (rfl : (wX4 aC (u 5 0) (u 1 0) (u 2 0) (u 5) : va_W)[2]? = some (u 5 2, .inl (aC 0, (14, .inl fun _ => i2 0)))))))))))))))
theorem ch_33 : (wS aC hC u hM v qL)[31]? = some (u 5 3, .inl (aC 0, (16, .inl fun _ => i2 0))) := ga_l (ga_l (ga_c (ga_l (ga_l (ga_l (ga_l (ga_l (ga_l (ga_l (ga_l (ga_r 27 3 lp_3 (rfl : (wX4 aC (u 5 0) (u 1 0) (u 2 0) (u 5) : va_W)[3]? = some (u 5 3, .inl (aC 0, (16, .inl fun _ => i2 0)))))))))))))))
theorem ch_34 : (wS aC hC u hM v qL)[32]? = some (u 5 4, .inl (aC 0, (16, .inl fun _ => i2 0))) := ga_l (ga_l (ga_c (ga_l (ga_l (ga_l (ga_l (ga_l (ga_l (ga_l (ga_l (ga_r 27 4 lp_3 (rfl : (wX4 aC (u 5 0) (u 1 0) (u 2 0) (u 5) : va_W)[4]? = some (u 5 4, .inl (aC 0, (16, .inl fun _ => i2 0)))))))))))))))
theorem ch_35 : (wS aC hC u hM v qL)[33]? = some (u 6 0, .inr (8, [.ref (u 1 0), .ref (u 5 0), .int (i2 0), .ref (u 6 1), .ref (u 6 2), .ref (u 6 3), .ref (u 6 4), .ref (u 6 5), .ref (u 6 6), .int (i2 0), .ref (u 6 7), .ref (u 6 8), .ref (u 6 9), .ref (u 6 10), .ref (u 6 11), .ref (u 6 12), .int (i2 0), .int (i2 0), .int (i2 0), .int (i2 0)])) := ga_l (ga_l (ga_c (ga_l (ga_l (ga_l (ga_l (ga_l (ga_l (ga_l (ga_r 32 0 lp_4 (rfl : (wX8 aC (u 6 0) (u 1 0) (u 5 0) (u 6) : va_W)[0]? = some (u 6 0, .inr (8, [.ref (u 1 0), .ref (u 5 0), .int (i2 0), .ref (u 6 1), .ref (u 6 2), .ref (u 6 3), .ref (u 6 4), .ref (u 6 5), .ref (u 6 6), .int (i2 0), .ref (u 6 7), .ref (u 6 8), .ref (u 6 9), .ref (u 6 10), .ref (u 6 11), .ref (u 6 12), .int (i2 0), .int (i2 0), .int (i2 0), .int (i2 0)])))))))))))))
theorem ch_36 : (wS aC hC u hM v qL)[34]? = some (u 6 1, .inl (aC 0, (9, .inl fun _ => i2 0))) := ga_l (ga_l (ga_c (ga_l (ga_l (ga_l (ga_l (ga_l (ga_l (ga_l (ga_r 32 1 lp_4 (rfl : (wX8 aC (u 6 0) (u 1 0) (u 5 0) (u 6) : va_W)[1]? = some (u 6 1, .inl (aC 0, (9, .inl fun _ => i2 0))))))))))))))
theorem ch_37 : (wS aC hC u hM v qL)[35]? = some (u 6 2, .inl (aC 0, (9, .inl fun _ => i2 0))) := ga_l (ga_l (ga_c (ga_l (ga_l (ga_l (ga_l (ga_l (ga_l (ga_l (ga_r 32 2 lp_4 (rfl : (wX8 aC (u 6 0) (u 1 0) (u 5 0) (u 6) : va_W)[2]? = some (u 6 2, .inl (aC 0, (9, .inl fun _ => i2 0))))))))))))))
theorem ch_38 : (wS aC hC u hM v qL)[36]? = some (u 6 3, .inl (aC 0, (9, .inl fun _ => i2 0))) := ga_l (ga_l (ga_c (ga_l (ga_l (ga_l (ga_l (ga_l (ga_l (ga_l (ga_r 32 3 lp_4 (rfl : (wX8 aC (u 6 0) (u 1 0) (u 5 0) (u 6) : va_W)[3]? = some (u 6 3, .inl (aC 0, (9, .inl fun _ => i2 0))))))))))))))
theorem ch_39 : (wS aC hC u hM v qL)[37]? = some (u 6 4, .inl (aC 0, (512, .inl fun _ => i2 0))) := ga_l (ga_l (ga_c (ga_l (ga_l (ga_l (ga_l (ga_l (ga_l (ga_l (ga_r 32 4 lp_4 (rfl : (wX8 aC (u 6 0) (u 1 0) (u 5 0) (u 6) : va_W)[4]? = some (u 6 4, .inl (aC 0, (512, .inl fun _ => i2 0))))))))))))))
theorem ch_40 : (wS aC hC u hM v qL)[38]? = some (u 6 5, .inl (aC 0, (512, .inl fun _ => i2 0))) := ga_l (ga_l (ga_c (ga_l (ga_l (ga_l (ga_l (ga_l (ga_l (ga_l (ga_r 32 5 lp_4 (rfl : (wX8 aC (u 6 0) (u 1 0) (u 5 0) (u 6) : va_W)[5]? = some (u 6 5, .inl (aC 0, (512, .inl fun _ => i2 0))))))))))))))
theorem ch_41 : (wS aC hC u hM v qL)[39]? = some (u 6 6, .inl (aC 0, (512, .inl fun _ => i2 0))) := ga_l (ga_l (ga_c (ga_l (ga_l (ga_l (ga_l (ga_l (ga_l (ga_l (ga_r 32 6 lp_4 (rfl : (wX8 aC (u 6 0) (u 1 0) (u 5 0) (u 6) : va_W)[6]? = some (u 6 6, .inl (aC 0, (512, .inl fun _ => i2 0))))))))))))))
theorem ch_42 : (wS aC hC u hM v qL)[40]? = some (u 6 7, .inl (aC 0, (16, .inl fun _ => i2 0))) := ga_l (ga_l (ga_c (ga_l (ga_l (ga_l (ga_l (ga_l (ga_l (ga_l (ga_r 32 7 lp_4 (rfl : (wX8 aC (u 6 0) (u 1 0) (u 5 0) (u 6) : va_W)[7]? = some (u 6 7, .inl (aC 0, (16, .inl fun _ => i2 0))))))))))))))
theorem ch_43 : (wS aC hC u hM v qL)[41]? = some (u 6 8, .inl (aC 0, (144, .inl fun _ => i2 0))) := ga_l (ga_l (ga_c (ga_l (ga_l (ga_l (ga_l (ga_l (ga_l (ga_l (ga_r 32 8 lp_4 (rfl : (wX8 aC (u 6 0) (u 1 0) (u 5 0) (u 6) : va_W)[8]? = some (u 6 8, .inl (aC 0, (144, .inl fun _ => i2 0))))))))))))))
theorem ch_44 : (wS aC hC u hM v qL)[42]? = some (u 6 9, .inl (aC 0, (48, .inl fun _ => i2 0))) := ga_l (ga_l (ga_c (ga_l (ga_l (ga_l (ga_l (ga_l (ga_l (ga_l (ga_r 32 9 lp_4 (rfl : (wX8 aC (u 6 0) (u 1 0) (u 5 0) (u 6) : va_W)[9]? = some (u 6 9, .inl (aC 0, (48, .inl fun _ => i2 0))))))))))))))
theorem ch_45 : (wS aC hC u hM v qL)[43]? = some (u 6 10, .inl (aC 0, (3, .inl fun _ => i2 0))) := ga_l (ga_l (ga_c (ga_l (ga_l (ga_l (ga_l (ga_l (ga_l (ga_l (ga_r 32 10 lp_4 (rfl : (wX8 aC (u 6 0) (u 1 0) (u 5 0) (u 6) : va_W)[10]? = some (u 6 10, .inl (aC 0, (3, .inl fun _ => i2 0))))))))))))))
theorem ch_46 : (wS aC hC u hM v qL)[44]? = some (u 6 11, .inl (aC 0, (9, .inl fun _ => i2 0))) := ga_l (ga_l (ga_c (ga_l (ga_l (ga_l (ga_l (ga_l (ga_l (ga_l (ga_r 32 11 lp_4 (rfl : (wX8 aC (u 6 0) (u 1 0) (u 5 0) (u 6) : va_W)[11]? = some (u 6 11, .inl (aC 0, (9, .inl fun _ => i2 0))))))))))))))
theorem ch_47 : (wS aC hC u hM v qL)[45]? = some (u 6 12, .inl (aC 0, (9, .inl fun _ => i2 0))) := ga_l (ga_l (ga_c (ga_l (ga_l (ga_l (ga_l (ga_l (ga_l (ga_l (ga_r 32 12 lp_4 (rfl : (wX8 aC (u 6 0) (u 1 0) (u 5 0) (u 6) : va_W)[12]? = some (u 6 12, .inl (aC 0, (9, .inl fun _ => i2 0))))))))))))))
theorem ch_48 : (wS aC hC u hM v qL)[46]? = some (u 7 0, .inr (2, [.ref (u 1 0), .ref (u 5 0), .ref (u 7 1), .ref (u 7 2), .int (i2 0), .int (i2 0), .int (i2 0)])) := ga_l (ga_l (ga_c (ga_l (ga_l (ga_l (ga_l (ga_l (ga_l (ga_r 45 0 lp_5 (rfl : (wX2 aC (u 7 0) (u 1 0) (u 5 0) (u 7) : va_W)[0]? = some (u 7 0, .inr (2, [.ref (u 1 0), .ref (u 5 0), .ref (u 7 1), .ref (u 7 2), .int (i2 0), .int (i2 0), .int (i2 0)]))))))))))))
theorem ch_49 : (wS aC hC u hM v qL)[47]? = some (u 7 1, .inl (aC 0, (3, .inl fun _ => i2 0))) := ga_l (ga_l (ga_c (ga_l (ga_l (ga_l (ga_l (ga_l (ga_l (ga_r 45 1 lp_5 (rfl : (wX2 aC (u 7 0) (u 1 0) (u 5 0) (u 7) : va_W)[1]? = some (u 7 1, .inl (aC 0, (3, .inl fun _ => i2 0)))))))))))))
theorem ch_50 : (wS aC hC u hM v qL)[48]? = some (u 7 2, .inl (aC 0, (14, .inl fun _ => i2 0))) := ga_l (ga_l (ga_c (ga_l (ga_l (ga_l (ga_l (ga_l (ga_l (ga_r 45 2 lp_5 (rfl : (wX2 aC (u 7 0) (u 1 0) (u 5 0) (u 7) : va_W)[2]? = some (u 7 2, .inl (aC 0, (14, .inl fun _ => i2 0)))))))))))))
theorem ch_51 : (wS aC hC u hM v qL)[49]? = some (u 8 0, .inr (3, [.int (i2 0), .ref (u 8 1), .ref (u 8 2), .ref (u 8 3), .ref (u 8 4), .ref (u 8 5), .int (i2 0)])) := ga_l (ga_l (ga_c (ga_l (ga_l (ga_l (ga_l (ga_l (ga_r 48 0 lp_6 (rfl : (wX3 aC (u 8 0) (u 8) : va_W)[0]? = some (u 8 0, .inr (3, [.int (i2 0), .ref (u 8 1), .ref (u 8 2), .ref (u 8 3), .ref (u 8 4), .ref (u 8 5), .int (i2 0)])))))))))))
theorem ch_52 : (wS aC hC u hM v qL)[50]? = some (u 8 1, .inl (aC 0, (6, .inl fun _ => i2 0))) := ga_l (ga_l (ga_c (ga_l (ga_l (ga_l (ga_l (ga_l (ga_r 48 1 lp_6 (rfl : (wX3 aC (u 8 0) (u 8) : va_W)[1]? = some (u 8 1, .inl (aC 0, (6, .inl fun _ => i2 0))))))))))))
theorem ch_53 : (wS aC hC u hM v qL)[51]? = some (u 8 2, .inl (aC 0, (3, .inl fun _ => i2 0))) := ga_l (ga_l (ga_c (ga_l (ga_l (ga_l (ga_l (ga_l (ga_r 48 2 lp_6 (rfl : (wX3 aC (u 8 0) (u 8) : va_W)[2]? = some (u 8 2, .inl (aC 0, (3, .inl fun _ => i2 0))))))))))))
theorem ch_54 : (wS aC hC u hM v qL)[52]? = some (u 8 3, .inl (aC 0, (3, .inl fun _ => i2 0))) := ga_l (ga_l (ga_c (ga_l (ga_l (ga_l (ga_l (ga_l (ga_r 48 3 lp_6 (rfl : (wX3 aC (u 8 0) (u 8) : va_W)[3]? = some (u 8 3, .inl (aC 0, (3, .inl fun _ => i2 0))))))))))))
theorem ch_55 : (wS aC hC u hM v qL)[53]? = some (u 8 4, .inl (aC 0, (6, .inl fun _ => i2 0))) := ga_l (ga_l (ga_c (ga_l (ga_l (ga_l (ga_l (ga_l (ga_r 48 4 lp_6 (rfl : (wX3 aC (u 8 0) (u 8) : va_W)[4]? = some (u 8 4, .inl (aC 0, (6, .inl fun _ => i2 0))))))))))))
theorem ch_56 : (wS aC hC u hM v qL)[54]? = some (u 8 5, .inl (aC 0, (6, .inl fun _ => i2 0))) := ga_l (ga_l (ga_c (ga_l (ga_l (ga_l (ga_l (ga_l (ga_r 48 5 lp_6 (rfl : (wX3 aC (u 8 0) (u 8) : va_W)[5]? = some (u 8 5, .inl (aC 0, (6, .inl fun _ => i2 0))))))))))))
theorem ch_57 : (wS aC hC u hM v qL)[55]? = some (u 9 0, .inr (0, [.int (i2 0), .ref (u 9 1), .ref (u 9 2), .ref (u 9 3), .ref (u 9 4)])) := ga_l (ga_l (ga_c (ga_l (ga_l (ga_l (ga_l (ga_r 54 0 lp_7 (rfl : (wX0 aC (u 9 0) (u 9) : va_W)[0]? = some (u 9 0, .inr (0, [.int (i2 0), .ref (u 9 1), .ref (u 9 2), .ref (u 9 3), .ref (u 9 4)]))))))))))
theorem ch_58 : (wS aC hC u hM v qL)[56]? = some (u 9 1, .inl (aC 0, (400, .inl fun _ => i2 0))) := ga_l (ga_l (ga_c (ga_l (ga_l (ga_l (ga_l (ga_r 54 1 lp_7 (rfl : (wX0 aC (u 9 0) (u 9) : va_W)[1]? = some (u 9 1, .inl (aC 0, (400, .inl fun _ => i2 0)))))))))))
theorem ch_59 : (wS aC hC u hM v qL)[57]? = some (u 9 2, .inl (aC 0, (400, .inl fun _ => i2 0))) := ga_l (ga_l (ga_c (ga_l (ga_l (ga_l (ga_l (ga_r 54 2 lp_7 (rfl : (wX0 aC (u 9 0) (u 9) : va_W)[2]? = some (u 9 2, .inl (aC 0, (400, .inl fun _ => i2 0)))))))))))
theorem ch_60 : (wS aC hC u hM v qL)[58]? = some (u 9 3, .inl (aC 0, (400, .inl fun _ => i2 0))) := ga_l (ga_l (ga_c (ga_l (ga_l (ga_l (ga_l (ga_r 54 3 lp_7 (rfl : (wX0 aC (u 9 0) (u 9) : va_W)[3]? = some (u 9 3, .inl (aC 0, (400, .inl fun _ => i2 0)))))))))))
theorem ch_61 : (wS aC hC u hM v qL)[59]? = some (u 9 4, .inl (aC 0, (14, .inl fun _ => i2 (-1)))) := ga_l (ga_l (ga_c (ga_l (ga_l (ga_l (ga_l (ga_r 54 4 lp_7 (rfl : (wX0 aC (u 9 0) (u 9) : va_W)[4]? = some (u 9 4, .inl (aC 0, (14, .inl fun _ => i2 (-1))))))))))))
theorem ch_62 : (wS aC hC u hM v qL)[62]? = some (u 10 0, .inr (7, [.int (i2 0), .ref (u 10 1), .ref (u 10 2), .ref (u 10 3), .ref (u 10 4), .ref (u 10 5), .ref (u 10 6), .ref (u 10 7), .ref (u 10 8)])) := ga_l (ga_l (ga_c (ga_l (ga_r 61 0 lp_10 (rfl : (wX7 aC (u 10 0) (u 10) : va_W)[0]? = some (u 10 0, .inr (7, [.int (i2 0), .ref (u 10 1), .ref (u 10 2), .ref (u 10 3), .ref (u 10 4), .ref (u 10 5), .ref (u 10 6), .ref (u 10 7), .ref (u 10 8)])))))))
theorem ch_63 : (wS aC hC u hM v qL)[63]? = some (u 10 1, .inl (aC 0, (16, .inl fun _ => i2 0))) := ga_l (ga_l (ga_c (ga_l (ga_r 61 1 lp_10 (rfl : (wX7 aC (u 10 0) (u 10) : va_W)[1]? = some (u 10 1, .inl (aC 0, (16, .inl fun _ => i2 0))))))))
theorem ch_64 : (wS aC hC u hM v qL)[64]? = some (u 10 2, .inl (aC 0, (16, .inl fun _ => i2 0))) := ga_l (ga_l (ga_c (ga_l (ga_r 61 2 lp_10 (rfl : (wX7 aC (u 10 0) (u 10) : va_W)[2]? = some (u 10 2, .inl (aC 0, (16, .inl fun _ => i2 0))))))))
theorem ch_65 : (wS aC hC u hM v qL)[65]? = some (u 10 3, .inl (aC 0, (16, .inl fun _ => i2 0))) := ga_l (ga_l (ga_c (ga_l (ga_r 61 3 lp_10 (rfl : (wX7 aC (u 10 0) (u 10) : va_W)[3]? = some (u 10 3, .inl (aC 0, (16, .inl fun _ => i2 0))))))))
theorem ch_66 : (wS aC hC u hM v qL)[66]? = some (u 10 4, .inl (aC 0, (32, .inl fun _ => i2 0))) := ga_l (ga_l (ga_c (ga_l (ga_r 61 4 lp_10 (rfl : (wX7 aC (u 10 0) (u 10) : va_W)[4]? = some (u 10 4, .inl (aC 0, (32, .inl fun _ => i2 0))))))))
theorem ch_67 : (wS aC hC u hM v qL)[67]? = some (u 10 5, .inl (aC 1, (128, .inl fun _ => i2 0))) := ga_l (ga_l (ga_c (ga_l (ga_r 61 5 lp_10 (rfl : (wX7 aC (u 10 0) (u 10) : va_W)[5]? = some (u 10 5, .inl (aC 1, (128, .inl fun _ => i2 0))))))))
theorem ch_68 : (wS aC hC u hM v qL)[68]? = some (u 10 6, .inl (aC 0, (128, .inl fun _ => i2 0))) := ga_l (ga_l (ga_c (ga_l (ga_r 61 6 lp_10 (rfl : (wX7 aC (u 10 0) (u 10) : va_W)[6]? = some (u 10 6, .inl (aC 0, (128, .inl fun _ => i2 0))))))))
theorem ch_69 : (wS aC hC u hM v qL)[69]? = some (u 10 7, .inl (aC 0, (128, .inl fun _ => i2 0))) := ga_l (ga_l (ga_c (ga_l (ga_r 61 7 lp_10 (rfl : (wX7 aC (u 10 0) (u 10) : va_W)[7]? = some (u 10 7, .inl (aC 0, (128, .inl fun _ => i2 0))))))))
theorem ch_70 : (wS aC hC u hM v qL)[70]? = some (u 10 8, .inl (aC 0, (128, .inl fun _ => i2 0))) := ga_l (ga_l (ga_c (ga_l (ga_r 61 8 lp_10 (rfl : (wX7 aC (u 10 0) (u 10) : va_W)[8]? = some (u 10 8, .inl (aC 0, (128, .inl fun _ => i2 0))))))))
theorem ch_71 : (wS aC hC u hM v qL)[71]? = some (u 11 0, .inr (7, [.int (i2 0), .ref (u 11 1), .ref (u 11 2), .ref (u 11 3), .ref (u 11 4), .ref (u 11 5), .ref (u 11 6), .ref (u 11 7), .ref (u 11 8)])) := ga_l (ga_l (ga_c (ga_r 70 0 lp_11 (rfl : (wX7 aC (u 11 0) (u 11) : va_W)[0]? = some (u 11 0, .inr (7, [.int (i2 0), .ref (u 11 1), .ref (u 11 2), .ref (u 11 3), .ref (u 11 4), .ref (u 11 5), .ref (u 11 6), .ref (u 11 7), .ref (u 11 8)]))))))
theorem ch_72 : (wS aC hC u hM v qL)[72]? = some (u 11 1, .inl (aC 0, (16, .inl fun _ => i2 0))) := ga_l (ga_l (ga_c (ga_r 70 1 lp_11 (rfl : (wX7 aC (u 11 0) (u 11) : va_W)[1]? = some (u 11 1, .inl (aC 0, (16, .inl fun _ => i2 0)))))))
theorem ch_73 : (wS aC hC u hM v qL)[73]? = some (u 11 2, .inl (aC 0, (16, .inl fun _ => i2 0))) := ga_l (ga_l (ga_c (ga_r 70 2 lp_11 (rfl : (wX7 aC (u 11 0) (u 11) : va_W)[2]? = some (u 11 2, .inl (aC 0, (16, .inl fun _ => i2 0)))))))
theorem ch_74 : (wS aC hC u hM v qL)[74]? = some (u 11 3, .inl (aC 0, (16, .inl fun _ => i2 0))) := ga_l (ga_l (ga_c (ga_r 70 3 lp_11 (rfl : (wX7 aC (u 11 0) (u 11) : va_W)[3]? = some (u 11 3, .inl (aC 0, (16, .inl fun _ => i2 0)))))))
theorem ch_75 : (wS aC hC u hM v qL)[75]? = some (u 11 4, .inl (aC 0, (32, .inl fun _ => i2 0))) := ga_l (ga_l (ga_c (ga_r 70 4 lp_11 (rfl : (wX7 aC (u 11 0) (u 11) : va_W)[4]? = some (u 11 4, .inl (aC 0, (32, .inl fun _ => i2 0)))))))
theorem ch_76 : (wS aC hC u hM v qL)[76]? = some (u 11 5, .inl (aC 1, (128, .inl fun _ => i2 0))) := ga_l (ga_l (ga_c (ga_r 70 5 lp_11 (rfl : (wX7 aC (u 11 0) (u 11) : va_W)[5]? = some (u 11 5, .inl (aC 1, (128, .inl fun _ => i2 0)))))))
theorem ch_77 : (wS aC hC u hM v qL)[77]? = some (u 11 6, .inl (aC 0, (128, .inl fun _ => i2 0))) := ga_l (ga_l (ga_c (ga_r 70 6 lp_11 (rfl : (wX7 aC (u 11 0) (u 11) : va_W)[6]? = some (u 11 6, .inl (aC 0, (128, .inl fun _ => i2 0)))))))
theorem ch_78 : (wS aC hC u hM v qL)[78]? = some (u 11 7, .inl (aC 0, (128, .inl fun _ => i2 0))) := ga_l (ga_l (ga_c (ga_r 70 7 lp_11 (rfl : (wX7 aC (u 11 0) (u 11) : va_W)[7]? = some (u 11 7, .inl (aC 0, (128, .inl fun _ => i2 0)))))))
theorem ch_79 : (wS aC hC u hM v qL)[79]? = some (u 11 8, .inl (aC 0, (128, .inl fun _ => i2 0))) := ga_l (ga_l (ga_c (ga_r 70 8 lp_11 (rfl : (wX7 aC (u 11 0) (u 11) : va_W)[8]? = some (u 11 8, .inl (aC 0, (128, .inl fun _ => i2 0)))))))
theorem ch_80 : (wS aC hC u hM v qL)[80]? = some (hM, .inr (11, [.int (i2 0), .int (i2 0), .ref (v 1), .ref (v 2), .ref (v 3), .ref (v 4), .ref (v 5), .ref (v 6), .ref (v 7), .ref (v 8), .ref (v 9), .ref (v 10), .int (i2 2), .ref (v 11), .int (i2 0), .int (i2 0), .ref (v 12), .ref (v 13), .ref (v 14), .ref (v 15), .ref (v 16), .int (i2 0), .int (i2 0), .ref (v 17), .ref (v 18), .ref (v 19), .ref (v 20), .ref (v 21), .ref (v 22), .ref (v 23), .ref (v 24), .ref (v 25), .int (i2 0), .int (i2 0), .int (i2 (-1)), .int (i2 0), .int (i2 0), .int (i2 0), .int (i2 0), .ref (v 26), .ref (v 27), .ref (v 28), .ref (v 29), .int (i2 0), .int (i2 0), .int (i2 0), .int (i2 0), .ref (v 30), .int (i2 (-1)), .ref (v 31), .int (i2 0), .ref (v 32), .ref (v 33), .ref (v 34), .ref (v 35), .int (i2 0), .int (i2 0), .ref (v 36), .ref (v 37), .ref (v 38), .ref (v 39)])) := ga_l (ga_r 80 0 lw_10 rfl)
theorem ch_81 : (wS aC hC u hM v qL)[81]? = some (v 1, .inl (aC 0, (14, .inl fun _ => i2 0))) := ga_l (ga_r 80 1 lw_10 rfl)
theorem ch_82 : (wS aC hC u hM v qL)[82]? = some (v 2, .inl (aC 0, (14, .inl fun _ => i2 0))) := ga_l (ga_r 80 2 lw_10 rfl)
theorem ch_83 : (wS aC hC u hM v qL)[83]? = some (v 3, .inl (aC 0, (14, .inl fun _ => i2 0))) := ga_l (ga_r 80 3 lw_10 rfl)
theorem ch_84 : (wS aC hC u hM v qL)[84]? = some (v 4, .inl (aC 0, (14, .inl fun _ => i2 0))) := ga_l (ga_r 80 4 lw_10 rfl)
theorem ch_85 : (wS aC hC u hM v qL)[85]? = some (v 5, .inl (aC 0, (14, .inl fun _ => i2 0))) := ga_l (ga_r 80 5 lw_10 rfl)
theorem ch_86 : (wS aC hC u hM v qL)[86]? = some (v 6, .inl (aC 0, (42, .inl fun _ => i2 (-1)))) := ga_l (ga_r 80 6 lw_10 rfl)
theorem ch_87 : (wS aC hC u hM v qL)[87]? = some (v 7, .inl (aC 0, (196, .inl fun _ => i2 0))) := ga_l (ga_r 80 7 lw_10 rfl)
theorem ch_88 : (wS aC hC u hM v qL)[88]? = some (v 8, .inl (aC 1, (196, .inl fun _ => i2 0))) := ga_l (ga_r 80 8 lw_10 rfl)
theorem ch_89 : (wS aC hC u hM v qL)[89]? = some (v 9, .inl (aC 1, (196, .inl fun _ => i2 0))) := ga_l (ga_r 80 9 lw_10 rfl)
theorem ch_90 : (wS aC hC u hM v qL)[90]? = some (v 10, .inl (aC 1, (42, .inl fun _ => i2 0))) := ga_l (ga_r 80 10 lw_10 rfl)
theorem ch_91 : (wS aC hC u hM v qL)[91]? = some (v 11, .inl (aC 0, (3, .inl fun _ => i2 14))) := ga_l (ga_r 80 11 lw_10 rfl)
theorem ch_92 : (wS aC hC u hM v qL)[92]? = some (v 12, .inl (aC 0, (300, .inl fun _ => i2 0))) := ga_l (ga_r 80 12 lw_10 rfl)
theorem ch_93 : (wS aC hC u hM v qL)[93]? = some (v 13, .inl (aC 0, (300, .inl fun _ => i2 0))) := ga_l (ga_r 80 13 lw_10 rfl)
theorem ch_94 : (wS aC hC u hM v qL)[94]? = some (v 14, .inl (aC 0, (300, .inl fun _ => i2 0))) := ga_l (ga_r 80 14 lw_10 rfl)
theorem ch_95 : (wS aC hC u hM v qL)[95]? = some (v 15, .inl (aC 0, (300, .inl fun _ => i2 0))) := ga_l (ga_r 80 15 lw_10 rfl)
theorem ch_96 : (wS aC hC u hM v qL)[96]? = some (v 16, .inl (aC 0, (300, .inl fun _ => i2 0))) := ga_l (ga_r 80 16 lw_10 rfl)
theorem ch_97 : (wS aC hC u hM v qL)[97]? = some (v 17, .inl (aC 0, (32, .inl fun _ => i2 0))) := ga_l (ga_r 80 17 lw_10 rfl)
theorem ch_98 : (wS aC hC u hM v qL)[98]? = some (v 18, .inl (aC 0, (32, .inl fun _ => i2 0))) := ga_l (ga_r 80 18 lw_10 rfl)
theorem ch_99 : (wS aC hC u hM v qL)[99]? = some (v 19, .inl (aC 0, (32, .inl fun _ => i2 0))) := ga_l (ga_r 80 19 lw_10 rfl)
theorem ch_100 : (wS aC hC u hM v qL)[100]? = some (v 20, .inl (aC 0, (64, .inl fun _ => i2 0))) := ga_l (ga_r 80 20 lw_10 rfl)
theorem ch_101 : (wS aC hC u hM v qL)[101]? = some (v 21, .inl (aC 1, (256, .inl fun _ => i2 0))) := ga_l (ga_r 80 21 lw_10 rfl)
theorem ch_102 : (wS aC hC u hM v qL)[102]? = some (v 22, .inl (aC 0, (256, .inl fun _ => i2 0))) := ga_l (ga_r 80 22 lw_10 rfl)
theorem ch_103 : (wS aC hC u hM v qL)[103]? = some (v 23, .inl (aC 0, (256, .inl fun _ => i2 0))) := ga_l (ga_r 80 23 lw_10 rfl)
theorem ch_104 : (wS aC hC u hM v qL)[104]? = some (v 24, .inl (aC 0, (256, .inl fun _ => i2 0))) := ga_l (ga_r 80 24 lw_10 rfl)
theorem ch_105 : (wS aC hC u hM v qL)[105]? = some (v 25, .inl (aC 3, (400, .inl fun _ => i2 0))) := ga_l (ga_r 80 25 lw_10 rfl)
theorem ch_106 : (wS aC hC u hM v qL)[106]? = some (v 26, .inl (aC 0, (98, .inl fun _ => i2 0))) := ga_l (ga_r 80 26 lw_10 rfl)
theorem ch_107 : (wS aC hC u hM v qL)[107]? = some (v 27, .inl (aC 1, (448, .inl fun _ => i2 0))) := ga_l (ga_r 80 27 lw_10 rfl)
theorem ch_108 : (wS aC hC u hM v qL)[108]? = some (v 28, .inl (aC 0, (14, .inl fun _ => i2 0))) := ga_l (ga_r 80 28 lw_10 rfl)
theorem ch_109 : (wS aC hC u hM v qL)[109]? = some (v 29, .inl (aC 0, (14, .inl fun _ => i2 0))) := ga_l (ga_r 80 29 lw_10 rfl)
theorem ch_110 : (wS aC hC u hM v qL)[110]? = some (v 30, .inl (aC 0, (14, .inl fun _ => i2 (-1)))) := ga_l (ga_r 80 30 lw_10 rfl)
theorem ch_111 : (wS aC hC u hM v qL)[111]? = some (v 31, .inl (aC 1, (14, .inl fun _ => i2 0))) := ga_l (ga_r 80 31 lw_10 rfl)
theorem ch_112 : (wS aC hC u hM v qL)[112]? = some (v 32, .inl (aC 0, (6, .inl fun _ => i2 0))) := ga_l (ga_r 80 32 lw_10 rfl)
theorem ch_113 : (wS aC hC u hM v qL)[113]? = some (v 33, .inl (aC 0, (6, .inl fun _ => i2 0))) := ga_l (ga_r 80 33 lw_10 rfl)
theorem ch_114 : (wS aC hC u hM v qL)[114]? = some (v 34, .inl (aC 0, (14, .inl fun _ => i2 (-1)))) := ga_l (ga_r 80 34 lw_10 rfl)
theorem ch_115 : (wS aC hC u hM v qL)[115]? = some (v 35, .inl (aC 0, (14, .inl fun _ => i2 (-1)))) := ga_l (ga_r 80 35 lw_10 rfl)
theorem ch_116 : (wS aC hC u hM v qL)[116]? = some (v 36, .inl (aC 0, (400, .inl fun _ => i2 0))) := ga_l (ga_r 80 36 lw_10 rfl)
theorem ch_117 : (wS aC hC u hM v qL)[117]? = some (v 37, .inl (aC 0, (400, .inl fun _ => i2 0))) := ga_l (ga_r 80 37 lw_10 rfl)
theorem ch_118 : (wS aC hC u hM v qL)[118]? = some (v 38, .inl (aC 0, (400, .inl fun _ => i2 0))) := ga_l (ga_r 80 38 lw_10 rfl)
theorem ch_119 : (wS aC hC u hM v qL)[119]? = some (v 39, .inl (aC 0, (14, .inl fun _ => i2 (-1)))) := ga_l (ga_r 80 39 lw_10 rfl)
theorem ch_120 : (wS aC hC u hM v qL)[120]? = some (qL, .inl (aC 4, (1, .inr (.inl fun _ => Int64.ofInt 0)))) := ga_r 120 0 lw_11 rfl
theorem eS_0 : (wS aC hC u hM v qL)[gS 0]? = some (adS hC u hM v qL 0, enc aC (adS hC u hM v qL) M0 0) := by rw [ad_0, en_0]; exact ch_0
theorem eS_1 : (wS aC hC u hM v qL)[gS 1]? = some (adS hC u hM v qL 1, enc aC (adS hC u hM v qL) M0 1) := by rw [ad_1, en_1]; exact ch_1
theorem eS_2 : (wS aC hC u hM v qL)[gS 2]? = some (adS hC u hM v qL 2, enc aC (adS hC u hM v qL) M0 2) := by rw [ad_2, en_2]; exact ch_2
theorem eS_3 : (wS aC hC u hM v qL)[gS 3]? = some (adS hC u hM v qL 3, enc aC (adS hC u hM v qL) M0 3) := by rw [ad_3, en_3]; exact ch_3
theorem eS_4 : (wS aC hC u hM v qL)[gS 4]? = some (adS hC u hM v qL 4, enc aC (adS hC u hM v qL) M0 4) := by rw [ad_4, en_4]; exact ch_4
theorem eS_5 : (wS aC hC u hM v qL)[gS 5]? = some (adS hC u hM v qL 5, enc aC (adS hC u hM v qL) M0 5) := by rw [ad_5, en_5]; exact ch_5
theorem eS_6 : (wS aC hC u hM v qL)[gS 6]? = some (adS hC u hM v qL 6, enc aC (adS hC u hM v qL) M0 6) := by rw [ad_6, en_6]; exact ch_6
theorem eS_7 : (wS aC hC u hM v qL)[gS 7]? = some (adS hC u hM v qL 7, enc aC (adS hC u hM v qL) M0 7) := by rw [ad_7, en_7]; exact ch_7
theorem eS_8 : (wS aC hC u hM v qL)[gS 8]? = some (adS hC u hM v qL 8, enc aC (adS hC u hM v qL) M0 8) := by rw [ad_8, en_8]; exact ch_8
theorem eS_9 : (wS aC hC u hM v qL)[gS 9]? = some (adS hC u hM v qL 9, enc aC (adS hC u hM v qL) M0 9) := by rw [ad_9, en_9]; exact ch_9
theorem eS_10 : (wS aC hC u hM v qL)[gS 10]? = some (adS hC u hM v qL 10, enc aC (adS hC u hM v qL) M0 10) := by rw [ad_10, en_10]; exact ch_10
theorem eS_11 : (wS aC hC u hM v qL)[gS 11]? = some (adS hC u hM v qL 11, enc aC (adS hC u hM v qL) M0 11) := by rw [ad_11, en_11]; exact ch_11
theorem eS_12 : (wS aC hC u hM v qL)[gS 12]? = some (adS hC u hM v qL 12, enc aC (adS hC u hM v qL) M0 12) := by rw [ad_12, en_12]; exact ch_12
theorem eS_13 : (wS aC hC u hM v qL)[gS 13]? = some (adS hC u hM v qL 13, enc aC (adS hC u hM v qL) M0 13) := by rw [ad_13, en_13]; exact ch_13
theorem eS_14 : (wS aC hC u hM v qL)[gS 14]? = some (adS hC u hM v qL 14, enc aC (adS hC u hM v qL) M0 14) := by rw [ad_14, en_14]; exact ch_14
theorem eS_15 : (wS aC hC u hM v qL)[gS 15]? = some (adS hC u hM v qL 15, enc aC (adS hC u hM v qL) M0 15) := by rw [ad_15, en_15]; exact ch_15
theorem eS_16 : (wS aC hC u hM v qL)[gS 16]? = some (adS hC u hM v qL 16, enc aC (adS hC u hM v qL) M0 16) := by rw [ad_16, en_16]; exact ch_16
theorem eS_17 : (wS aC hC u hM v qL)[gS 17]? = some (adS hC u hM v qL 17, enc aC (adS hC u hM v qL) M0 17) := by rw [ad_17, en_17]; exact ch_17
theorem eS_18 : (wS aC hC u hM v qL)[gS 18]? = some (adS hC u hM v qL 18, enc aC (adS hC u hM v qL) M0 18) := by rw [ad_18, en_18]; exact ch_18
theorem eS_19 : (wS aC hC u hM v qL)[gS 19]? = some (adS hC u hM v qL 19, enc aC (adS hC u hM v qL) M0 19) := by rw [ad_19, en_19]; exact ch_19
theorem eS_20 : (wS aC hC u hM v qL)[gS 20]? = some (adS hC u hM v qL 20, enc aC (adS hC u hM v qL) M0 20) := by rw [ad_20, en_20]; exact ch_20
theorem eS_21 : (wS aC hC u hM v qL)[gS 21]? = some (adS hC u hM v qL 21, enc aC (adS hC u hM v qL) M0 21) := by rw [ad_21, en_21]; exact ch_21
theorem eS_22 : (wS aC hC u hM v qL)[gS 22]? = some (adS hC u hM v qL 22, enc aC (adS hC u hM v qL) M0 22) := by rw [ad_22, en_22]; exact ch_22
theorem eS_23 : (wS aC hC u hM v qL)[gS 23]? = some (adS hC u hM v qL 23, enc aC (adS hC u hM v qL) M0 23) := by rw [ad_23, en_23]; exact ch_23
theorem eS_24 : (wS aC hC u hM v qL)[gS 24]? = some (adS hC u hM v qL 24, enc aC (adS hC u hM v qL) M0 24) := by rw [ad_24, en_24]; exact ch_24
theorem eS_25 : (wS aC hC u hM v qL)[gS 25]? = some (adS hC u hM v qL 25, enc aC (adS hC u hM v qL) M0 25) := by rw [ad_25, en_25]; exact ch_25
theorem eS_26 : (wS aC hC u hM v qL)[gS 26]? = some (adS hC u hM v qL 26, enc aC (adS hC u hM v qL) M0 26) := by rw [ad_26, en_26]; exact ch_26
theorem eS_27 : (wS aC hC u hM v qL)[gS 27]? = some (adS hC u hM v qL 27, enc aC (adS hC u hM v qL) M0 27) := by rw [ad_27, en_27]; exact ch_27
theorem eS_28 : (wS aC hC u hM v qL)[gS 28]? = some (adS hC u hM v qL 28, enc aC (adS hC u hM v qL) M0 28) := by rw [ad_28, en_28]; exact ch_28
theorem eS_29 : (wS aC hC u hM v qL)[gS 29]? = some (adS hC u hM v qL 29, enc aC (adS hC u hM v qL) M0 29) := by rw [ad_29, en_29]; exact ch_29
theorem eS_30 : (wS aC hC u hM v qL)[gS 30]? = some (adS hC u hM v qL 30, enc aC (adS hC u hM v qL) M0 30) := by rw [ad_30, en_30]; exact ch_30
theorem eS_31 : (wS aC hC u hM v qL)[gS 31]? = some (adS hC u hM v qL 31, enc aC (adS hC u hM v qL) M0 31) := by rw [ad_31, en_31]; exact ch_31
theorem eS_32 : (wS aC hC u hM v qL)[gS 32]? = some (adS hC u hM v qL 32, enc aC (adS hC u hM v qL) M0 32) := by rw [ad_32, en_32]; exact ch_32
theorem eS_33 : (wS aC hC u hM v qL)[gS 33]? = some (adS hC u hM v qL 33, enc aC (adS hC u hM v qL) M0 33) := by rw [ad_33, en_33]; exact ch_33
theorem eS_34 : (wS aC hC u hM v qL)[gS 34]? = some (adS hC u hM v qL 34, enc aC (adS hC u hM v qL) M0 34) := by rw [ad_34, en_34]; exact ch_34
theorem eS_35 : (wS aC hC u hM v qL)[gS 35]? = some (adS hC u hM v qL 35, enc aC (adS hC u hM v qL) M0 35) := by rw [ad_35, en_35]; exact ch_35
theorem eS_36 : (wS aC hC u hM v qL)[gS 36]? = some (adS hC u hM v qL 36, enc aC (adS hC u hM v qL) M0 36) := by rw [ad_36, en_36]; exact ch_36
theorem eS_37 : (wS aC hC u hM v qL)[gS 37]? = some (adS hC u hM v qL 37, enc aC (adS hC u hM v qL) M0 37) := by rw [ad_37, en_37]; exact ch_37
theorem eS_38 : (wS aC hC u hM v qL)[gS 38]? = some (adS hC u hM v qL 38, enc aC (adS hC u hM v qL) M0 38) := by rw [ad_38, en_38]; exact ch_38
theorem eS_39 : (wS aC hC u hM v qL)[gS 39]? = some (adS hC u hM v qL 39, enc aC (adS hC u hM v qL) M0 39) := by rw [ad_39, en_39]; exact ch_39
theorem eS_40 : (wS aC hC u hM v qL)[gS 40]? = some (adS hC u hM v qL 40, enc aC (adS hC u hM v qL) M0 40) := by rw [ad_40, en_40]; exact ch_40
theorem eS_41 : (wS aC hC u hM v qL)[gS 41]? = some (adS hC u hM v qL 41, enc aC (adS hC u hM v qL) M0 41) := by rw [ad_41, en_41]; exact ch_41
theorem eS_42 : (wS aC hC u hM v qL)[gS 42]? = some (adS hC u hM v qL 42, enc aC (adS hC u hM v qL) M0 42) := by rw [ad_42, en_42]; exact ch_42
theorem eS_43 : (wS aC hC u hM v qL)[gS 43]? = some (adS hC u hM v qL 43, enc aC (adS hC u hM v qL) M0 43) := by rw [ad_43, en_43]; exact ch_43
theorem eS_44 : (wS aC hC u hM v qL)[gS 44]? = some (adS hC u hM v qL 44, enc aC (adS hC u hM v qL) M0 44) := by rw [ad_44, en_44]; exact ch_44
theorem eS_45 : (wS aC hC u hM v qL)[gS 45]? = some (adS hC u hM v qL 45, enc aC (adS hC u hM v qL) M0 45) := by rw [ad_45, en_45]; exact ch_45
theorem eS_46 : (wS aC hC u hM v qL)[gS 46]? = some (adS hC u hM v qL 46, enc aC (adS hC u hM v qL) M0 46) := by rw [ad_46, en_46]; exact ch_46
theorem eS_47 : (wS aC hC u hM v qL)[gS 47]? = some (adS hC u hM v qL 47, enc aC (adS hC u hM v qL) M0 47) := by rw [ad_47, en_47]; exact ch_47
theorem eS_48 : (wS aC hC u hM v qL)[gS 48]? = some (adS hC u hM v qL 48, enc aC (adS hC u hM v qL) M0 48) := by rw [ad_48, en_48]; exact ch_48
theorem eS_49 : (wS aC hC u hM v qL)[gS 49]? = some (adS hC u hM v qL 49, enc aC (adS hC u hM v qL) M0 49) := by rw [ad_49, en_49]; exact ch_49
theorem eS_50 : (wS aC hC u hM v qL)[gS 50]? = some (adS hC u hM v qL 50, enc aC (adS hC u hM v qL) M0 50) := by rw [ad_50, en_50]; exact ch_50
theorem eS_51 : (wS aC hC u hM v qL)[gS 51]? = some (adS hC u hM v qL 51, enc aC (adS hC u hM v qL) M0 51) := by rw [ad_51, en_51]; exact ch_51
theorem eS_52 : (wS aC hC u hM v qL)[gS 52]? = some (adS hC u hM v qL 52, enc aC (adS hC u hM v qL) M0 52) := by rw [ad_52, en_52]; exact ch_52
theorem eS_53 : (wS aC hC u hM v qL)[gS 53]? = some (adS hC u hM v qL 53, enc aC (adS hC u hM v qL) M0 53) := by rw [ad_53, en_53]; exact ch_53
theorem eS_54 : (wS aC hC u hM v qL)[gS 54]? = some (adS hC u hM v qL 54, enc aC (adS hC u hM v qL) M0 54) := by rw [ad_54, en_54]; exact ch_54
theorem eS_55 : (wS aC hC u hM v qL)[gS 55]? = some (adS hC u hM v qL 55, enc aC (adS hC u hM v qL) M0 55) := by rw [ad_55, en_55]; exact ch_55
theorem eS_56 : (wS aC hC u hM v qL)[gS 56]? = some (adS hC u hM v qL 56, enc aC (adS hC u hM v qL) M0 56) := by rw [ad_56, en_56]; exact ch_56
theorem eS_57 : (wS aC hC u hM v qL)[gS 57]? = some (adS hC u hM v qL 57, enc aC (adS hC u hM v qL) M0 57) := by rw [ad_57, en_57]; exact ch_57
theorem eS_58 : (wS aC hC u hM v qL)[gS 58]? = some (adS hC u hM v qL 58, enc aC (adS hC u hM v qL) M0 58) := by rw [ad_58, en_58]; exact ch_58
theorem eS_59 : (wS aC hC u hM v qL)[gS 59]? = some (adS hC u hM v qL 59, enc aC (adS hC u hM v qL) M0 59) := by rw [ad_59, en_59]; exact ch_59
theorem eS_60 : (wS aC hC u hM v qL)[gS 60]? = some (adS hC u hM v qL 60, enc aC (adS hC u hM v qL) M0 60) := by rw [ad_60, en_60]; exact ch_60
theorem eS_61 : (wS aC hC u hM v qL)[gS 61]? = some (adS hC u hM v qL 61, enc aC (adS hC u hM v qL) M0 61) := by rw [ad_61, en_61]; exact ch_61
theorem eS_62 : (wS aC hC u hM v qL)[gS 62]? = some (adS hC u hM v qL 62, enc aC (adS hC u hM v qL) M0 62) := by rw [ad_62, en_62]; exact ch_62
theorem eS_63 : (wS aC hC u hM v qL)[gS 63]? = some (adS hC u hM v qL 63, enc aC (adS hC u hM v qL) M0 63) := by rw [ad_63, en_63]; exact ch_63
theorem eS_64 : (wS aC hC u hM v qL)[gS 64]? = some (adS hC u hM v qL 64, enc aC (adS hC u hM v qL) M0 64) := by rw [ad_64, en_64]; exact ch_64
theorem eS_65 : (wS aC hC u hM v qL)[gS 65]? = some (adS hC u hM v qL 65, enc aC (adS hC u hM v qL) M0 65) := by rw [ad_65, en_65]; exact ch_65
theorem eS_66 : (wS aC hC u hM v qL)[gS 66]? = some (adS hC u hM v qL 66, enc aC (adS hC u hM v qL) M0 66) := by rw [ad_66, en_66]; exact ch_66
theorem eS_67 : (wS aC hC u hM v qL)[gS 67]? = some (adS hC u hM v qL 67, enc aC (adS hC u hM v qL) M0 67) := by rw [ad_67, en_67]; exact ch_67
theorem eS_68 : (wS aC hC u hM v qL)[gS 68]? = some (adS hC u hM v qL 68, enc aC (adS hC u hM v qL) M0 68) := by rw [ad_68, en_68]; exact ch_68
theorem eS_69 : (wS aC hC u hM v qL)[gS 69]? = some (adS hC u hM v qL 69, enc aC (adS hC u hM v qL) M0 69) := by rw [ad_69, en_69]; exact ch_69
theorem eS_70 : (wS aC hC u hM v qL)[gS 70]? = some (adS hC u hM v qL 70, enc aC (adS hC u hM v qL) M0 70) := by rw [ad_70, en_70]; exact ch_70
theorem eS_71 : (wS aC hC u hM v qL)[gS 71]? = some (adS hC u hM v qL 71, enc aC (adS hC u hM v qL) M0 71) := by rw [ad_71, en_71]; exact ch_71
theorem eS_72 : (wS aC hC u hM v qL)[gS 72]? = some (adS hC u hM v qL 72, enc aC (adS hC u hM v qL) M0 72) := by rw [ad_72, en_72]; exact ch_72
theorem eS_73 : (wS aC hC u hM v qL)[gS 73]? = some (adS hC u hM v qL 73, enc aC (adS hC u hM v qL) M0 73) := by rw [ad_73, en_73]; exact ch_73
theorem eS_74 : (wS aC hC u hM v qL)[gS 74]? = some (adS hC u hM v qL 74, enc aC (adS hC u hM v qL) M0 74) := by rw [ad_74, en_74]; exact ch_74
theorem eS_75 : (wS aC hC u hM v qL)[gS 75]? = some (adS hC u hM v qL 75, enc aC (adS hC u hM v qL) M0 75) := by rw [ad_75, en_75]; exact ch_75
theorem eS_76 : (wS aC hC u hM v qL)[gS 76]? = some (adS hC u hM v qL 76, enc aC (adS hC u hM v qL) M0 76) := by rw [ad_76, en_76]; exact ch_76
theorem eS_77 : (wS aC hC u hM v qL)[gS 77]? = some (adS hC u hM v qL 77, enc aC (adS hC u hM v qL) M0 77) := by rw [ad_77, en_77]; exact ch_77
theorem eS_78 : (wS aC hC u hM v qL)[gS 78]? = some (adS hC u hM v qL 78, enc aC (adS hC u hM v qL) M0 78) := by rw [ad_78, en_78]; exact ch_78
theorem eS_79 : (wS aC hC u hM v qL)[gS 79]? = some (adS hC u hM v qL 79, enc aC (adS hC u hM v qL) M0 79) := by rw [ad_79, en_79]; exact ch_79
theorem eS_80 : (wS aC hC u hM v qL)[gS 80]? = some (adS hC u hM v qL 80, enc aC (adS hC u hM v qL) M0 80) := by rw [ad_80, en_80]; exact ch_80
theorem eS_81 : (wS aC hC u hM v qL)[gS 81]? = some (adS hC u hM v qL 81, enc aC (adS hC u hM v qL) M0 81) := by rw [ad_81, en_81]; exact ch_81
theorem eS_82 : (wS aC hC u hM v qL)[gS 82]? = some (adS hC u hM v qL 82, enc aC (adS hC u hM v qL) M0 82) := by rw [ad_82, en_82]; exact ch_82
theorem eS_83 : (wS aC hC u hM v qL)[gS 83]? = some (adS hC u hM v qL 83, enc aC (adS hC u hM v qL) M0 83) := by rw [ad_83, en_83]; exact ch_83
theorem eS_84 : (wS aC hC u hM v qL)[gS 84]? = some (adS hC u hM v qL 84, enc aC (adS hC u hM v qL) M0 84) := by rw [ad_84, en_84]; exact ch_84
theorem eS_85 : (wS aC hC u hM v qL)[gS 85]? = some (adS hC u hM v qL 85, enc aC (adS hC u hM v qL) M0 85) := by rw [ad_85, en_85]; exact ch_85
theorem eS_86 : (wS aC hC u hM v qL)[gS 86]? = some (adS hC u hM v qL 86, enc aC (adS hC u hM v qL) M0 86) := by rw [ad_86, en_86]; exact ch_86
theorem eS_87 : (wS aC hC u hM v qL)[gS 87]? = some (adS hC u hM v qL 87, enc aC (adS hC u hM v qL) M0 87) := by rw [ad_87, en_87]; exact ch_87
theorem eS_88 : (wS aC hC u hM v qL)[gS 88]? = some (adS hC u hM v qL 88, enc aC (adS hC u hM v qL) M0 88) := by rw [ad_88, en_88]; exact ch_88
theorem eS_89 : (wS aC hC u hM v qL)[gS 89]? = some (adS hC u hM v qL 89, enc aC (adS hC u hM v qL) M0 89) := by rw [ad_89, en_89]; exact ch_89
theorem eS_90 : (wS aC hC u hM v qL)[gS 90]? = some (adS hC u hM v qL 90, enc aC (adS hC u hM v qL) M0 90) := by rw [ad_90, en_90]; exact ch_90
theorem eS_91 : (wS aC hC u hM v qL)[gS 91]? = some (adS hC u hM v qL 91, enc aC (adS hC u hM v qL) M0 91) := by rw [ad_91, en_91]; exact ch_91
theorem eS_92 : (wS aC hC u hM v qL)[gS 92]? = some (adS hC u hM v qL 92, enc aC (adS hC u hM v qL) M0 92) := by rw [ad_92, en_92]; exact ch_92
theorem eS_93 : (wS aC hC u hM v qL)[gS 93]? = some (adS hC u hM v qL 93, enc aC (adS hC u hM v qL) M0 93) := by rw [ad_93, en_93]; exact ch_93
theorem eS_94 : (wS aC hC u hM v qL)[gS 94]? = some (adS hC u hM v qL 94, enc aC (adS hC u hM v qL) M0 94) := by rw [ad_94, en_94]; exact ch_94
theorem eS_95 : (wS aC hC u hM v qL)[gS 95]? = some (adS hC u hM v qL 95, enc aC (adS hC u hM v qL) M0 95) := by rw [ad_95, en_95]; exact ch_95
theorem eS_96 : (wS aC hC u hM v qL)[gS 96]? = some (adS hC u hM v qL 96, enc aC (adS hC u hM v qL) M0 96) := by rw [ad_96, en_96]; exact ch_96
theorem eS_97 : (wS aC hC u hM v qL)[gS 97]? = some (adS hC u hM v qL 97, enc aC (adS hC u hM v qL) M0 97) := by rw [ad_97, en_97]; exact ch_97
theorem eS_98 : (wS aC hC u hM v qL)[gS 98]? = some (adS hC u hM v qL 98, enc aC (adS hC u hM v qL) M0 98) := by rw [ad_98, en_98]; exact ch_98
theorem eS_99 : (wS aC hC u hM v qL)[gS 99]? = some (adS hC u hM v qL 99, enc aC (adS hC u hM v qL) M0 99) := by rw [ad_99, en_99]; exact ch_99
theorem eS_100 : (wS aC hC u hM v qL)[gS 100]? = some (adS hC u hM v qL 100, enc aC (adS hC u hM v qL) M0 100) := by rw [ad_100, en_100]; exact ch_100
theorem eS_101 : (wS aC hC u hM v qL)[gS 101]? = some (adS hC u hM v qL 101, enc aC (adS hC u hM v qL) M0 101) := by rw [ad_101, en_101]; exact ch_101
theorem eS_102 : (wS aC hC u hM v qL)[gS 102]? = some (adS hC u hM v qL 102, enc aC (adS hC u hM v qL) M0 102) := by rw [ad_102, en_102]; exact ch_102
theorem eS_103 : (wS aC hC u hM v qL)[gS 103]? = some (adS hC u hM v qL 103, enc aC (adS hC u hM v qL) M0 103) := by rw [ad_103, en_103]; exact ch_103
theorem eS_104 : (wS aC hC u hM v qL)[gS 104]? = some (adS hC u hM v qL 104, enc aC (adS hC u hM v qL) M0 104) := by rw [ad_104, en_104]; exact ch_104
theorem eS_105 : (wS aC hC u hM v qL)[gS 105]? = some (adS hC u hM v qL 105, enc aC (adS hC u hM v qL) M0 105) := by rw [ad_105, en_105]; exact ch_105
theorem eS_106 : (wS aC hC u hM v qL)[gS 106]? = some (adS hC u hM v qL 106, enc aC (adS hC u hM v qL) M0 106) := by rw [ad_106, en_106]; exact ch_106
theorem eS_107 : (wS aC hC u hM v qL)[gS 107]? = some (adS hC u hM v qL 107, enc aC (adS hC u hM v qL) M0 107) := by rw [ad_107, en_107]; exact ch_107
theorem eS_108 : (wS aC hC u hM v qL)[gS 108]? = some (adS hC u hM v qL 108, enc aC (adS hC u hM v qL) M0 108) := by rw [ad_108, en_108]; exact ch_108
theorem eS_109 : (wS aC hC u hM v qL)[gS 109]? = some (adS hC u hM v qL 109, enc aC (adS hC u hM v qL) M0 109) := by rw [ad_109, en_109]; exact ch_109
theorem eS_110 : (wS aC hC u hM v qL)[gS 110]? = some (adS hC u hM v qL 110, enc aC (adS hC u hM v qL) M0 110) := by rw [ad_110, en_110]; exact ch_110
theorem eS_111 : (wS aC hC u hM v qL)[gS 111]? = some (adS hC u hM v qL 111, enc aC (adS hC u hM v qL) M0 111) := by rw [ad_111, en_111]; exact ch_111
theorem eS_112 : (wS aC hC u hM v qL)[gS 112]? = some (adS hC u hM v qL 112, enc aC (adS hC u hM v qL) M0 112) := by rw [ad_112, en_112]; exact ch_112
theorem eS_113 : (wS aC hC u hM v qL)[gS 113]? = some (adS hC u hM v qL 113, enc aC (adS hC u hM v qL) M0 113) := by rw [ad_113, en_113]; exact ch_113
theorem eS_114 : (wS aC hC u hM v qL)[gS 114]? = some (adS hC u hM v qL 114, enc aC (adS hC u hM v qL) M0 114) := by rw [ad_114, en_114]; exact ch_114
theorem eS_115 : (wS aC hC u hM v qL)[gS 115]? = some (adS hC u hM v qL 115, enc aC (adS hC u hM v qL) M0 115) := by rw [ad_115, en_115]; exact ch_115
theorem eS_116 : (wS aC hC u hM v qL)[gS 116]? = some (adS hC u hM v qL 116, enc aC (adS hC u hM v qL) M0 116) := by rw [ad_116, en_116]; exact ch_116
theorem eS_117 : (wS aC hC u hM v qL)[gS 117]? = some (adS hC u hM v qL 117, enc aC (adS hC u hM v qL) M0 117) := by rw [ad_117, en_117]; exact ch_117
theorem eS_118 : (wS aC hC u hM v qL)[gS 118]? = some (adS hC u hM v qL 118, enc aC (adS hC u hM v qL) M0 118) := by rw [ad_118, en_118]; exact ch_118
theorem eS_119 : (wS aC hC u hM v qL)[gS 119]? = some (adS hC u hM v qL 119, enc aC (adS hC u hM v qL) M0 119) := by rw [ad_119, en_119]; exact ch_119
theorem eS_120 : (wS aC hC u hM v qL)[gS 120]? = some (adS hC u hM v qL 120, enc aC (adS hC u hM v qL) M0 120) := by rw [ad_120, en_120]; exact ch_120
theorem eS : ∀ k, k < NC → (wS aC hC u hM v qL)[gS k]? = some (adS hC u hM v qL k, enc aC (adS hC u hM v qL) M0 k) := fun k hk => match k, hk with
  | 0, _ => eS_0
  | 1, _ => eS_1
  | 2, _ => eS_2
  | 3, _ => eS_3
  | 4, _ => eS_4
  | 5, _ => eS_5
  | 6, _ => eS_6
  | 7, _ => eS_7
  | 8, _ => eS_8
  | 9, _ => eS_9
  | 10, _ => eS_10
  | 11, _ => eS_11
  | 12, _ => eS_12
  | 13, _ => eS_13
  | 14, _ => eS_14
  | 15, _ => eS_15
  | 16, _ => eS_16
  | 17, _ => eS_17
  | 18, _ => eS_18
  | 19, _ => eS_19
  | 20, _ => eS_20
  | 21, _ => eS_21
  | 22, _ => eS_22
  | 23, _ => eS_23
  | 24, _ => eS_24
  | 25, _ => eS_25
  | 26, _ => eS_26
  | 27, _ => eS_27
  | 28, _ => eS_28
  | 29, _ => eS_29
  | 30, _ => eS_30
  | 31, _ => eS_31
  | 32, _ => eS_32
  | 33, _ => eS_33
  | 34, _ => eS_34
  | 35, _ => eS_35
  | 36, _ => eS_36
  | 37, _ => eS_37
  | 38, _ => eS_38
  | 39, _ => eS_39
  | 40, _ => eS_40
  | 41, _ => eS_41
  | 42, _ => eS_42
  | 43, _ => eS_43
  | 44, _ => eS_44
  | 45, _ => eS_45
  | 46, _ => eS_46
  | 47, _ => eS_47
  | 48, _ => eS_48
  | 49, _ => eS_49
  | 50, _ => eS_50
  | 51, _ => eS_51
  | 52, _ => eS_52
  | 53, _ => eS_53
  | 54, _ => eS_54
  | 55, _ => eS_55
  | 56, _ => eS_56
  | 57, _ => eS_57
  | 58, _ => eS_58
  | 59, _ => eS_59
  | 60, _ => eS_60
  | 61, _ => eS_61
  | 62, _ => eS_62
  | 63, _ => eS_63
  | 64, _ => eS_64
  | 65, _ => eS_65
  | 66, _ => eS_66
  | 67, _ => eS_67
  | 68, _ => eS_68
  | 69, _ => eS_69
  | 70, _ => eS_70
  | 71, _ => eS_71
  | 72, _ => eS_72
  | 73, _ => eS_73
  | 74, _ => eS_74
  | 75, _ => eS_75
  | 76, _ => eS_76
  | 77, _ => eS_77
  | 78, _ => eS_78
  | 79, _ => eS_79
  | 80, _ => eS_80
  | 81, _ => eS_81
  | 82, _ => eS_82
  | 83, _ => eS_83
  | 84, _ => eS_84
  | 85, _ => eS_85
  | 86, _ => eS_86
  | 87, _ => eS_87
  | 88, _ => eS_88
  | 89, _ => eS_89
  | 90, _ => eS_90
  | 91, _ => eS_91
  | 92, _ => eS_92
  | 93, _ => eS_93
  | 94, _ => eS_94
  | 95, _ => eS_95
  | 96, _ => eS_96
  | 97, _ => eS_97
  | 98, _ => eS_98
  | 99, _ => eS_99
  | 100, _ => eS_100
  | 101, _ => eS_101
  | 102, _ => eS_102
  | 103, _ => eS_103
  | 104, _ => eS_104
  | 105, _ => eS_105
  | 106, _ => eS_106
  | 107, _ => eS_107
  | 108, _ => eS_108
  | 109, _ => eS_109
  | 110, _ => eS_110
  | 111, _ => eS_111
  | 112, _ => eS_112
  | 113, _ => eS_113
  | 114, _ => eS_114
  | 115, _ => eS_115
  | 116, _ => eS_116
  | 117, _ => eS_117
  | 118, _ => eS_118
  | 119, _ => eS_119
  | 120, _ => eS_120
  | k + 121, h => absurd h (by unfold NC; omega)
theorem WS.start {D : va_G} {A : Nat → Prop} {H0 H : Heap} {locs : List Loc} (w : WN D A H0 (wS aC hC u hM v qL) H locs) : WS D aC (adS hC u hM v qL) A H0 M0 H locs ∧ Inj (adS hC u hM v qL) ∧ ∀ k, k < NC → A (adS hC u hM v qL k) := by
  refine ⟨⟨w.1.by gS (fun k q hk => ?_), w.2.2, M0_in⟩, fun i j hi hj e => ?_, fun k hk => ?_⟩
  · obtain ⟨h1, rfl⟩ := wl_none hk
    exact eS k h1
  · have h := w.2.1.1 (gS i) (gS j) _ _ (eS i hi) (eS j hj) e
    unfold gS at h
    unfold NC at hi hj
    repeat' split at h
    all_goals omega
  · exact w.2.1.2 (gS k) _ (eS k hk)
end WST
