/-! the two methods that throw -/
/-- at pc the text i is thrown in a NoSuchElementException -/
def thrAt (cc : ByteArray) (own : String) (i pc : Nat) : Prop := i < NS ∧ sOwn.getD i "" = own ∧ decode cc pc = .ok (.new 275, 3) ∧ decode cc (pc + 3) = .ok (.dup, 1) ∧ decode cc (pc + 4) = .ok (.ldc_w (sIdx.getD i 0), 3) ∧ decode cc (pc + 7) = .ok (.invokespecial 279, 3) ∧ decode cc (pc + 10) = .ok (.athrow, 1)
theorem bw_145 : Cond.fieldLink "ClassMaker" 346 "ClassMaker$Facts" "sex" "[I" ∈ BW := BW_in (List.mem_of_getElem? (i := 145) (by decide +kernel)) rfl
theorem bw_148 : Cond.fieldLink "ClassMaker" 349 "ClassMaker$Facts" "month" "[I" ∈ BW := BW_in (List.mem_of_getElem? (i := 148) (by decide +kernel)) rfl
theorem bw_151 : Cond.fieldLink "ClassMaker" 358 "ClassMaker$Facts" "tags" "[I" ∈ BW := BW_in (List.mem_of_getElem? (i := 151) (by decide +kernel)) rfl
theorem bw_153 : Cond.fieldLink "ClassMaker" 352 "ClassMaker$Facts" "came" "[I" ∈ BW := BW_in (List.mem_of_getElem? (i := 153) (by decide +kernel)) rfl
theorem bw_1357 : Cond.methodLink "ClassMaker" 286 (⟨"ClassMaker$Search", "groupOf", "(I)I"⟩ : MethodName) ∈ BW := BW_in (List.mem_of_getElem? (i := 1357) (by decide +kernel)) rfl
theorem bw_1358 : Cond.instanceMethod (⟨"ClassMaker$Search", "groupOf", "(I)I"⟩ : MethodName) ∈ BW := BW_in (List.mem_of_getElem? (i := 1358) (by decide +kernel)) rfl
theorem bw_1359 : Cond.selects "ClassMaker$Search" (⟨"ClassMaker$Search", "groupOf", "(I)I"⟩ : MethodName) (⟨"ClassMaker$Search", "groupOf", "(I)I"⟩ : MethodName) ∈ BW := BW_in (List.mem_of_getElem? (i := 1359) (by decide +kernel)) rfl
theorem bw_1360 : Cond.code (⟨"ClassMaker$Search", "groupOf", "(I)I"⟩ : MethodName) prog_10_method_6_code 5 (some .int) ∈ BW := BW_in (List.mem_of_getElem? (i := 1360) (by decide +kernel)) rfl
theorem fg_X10_346 : FldG RX10 346 1 1 := ⟨RX1, TX1, 15, rfl, by decide, rfl, in_X1, bw_145⟩
theorem fg_X10_349 : FldG RX10 349 1 2 := ⟨RX1, TX1, 15, rfl, by decide, rfl, in_X1, bw_148⟩
theorem fg_X10_352 : FldG RX10 352 1 4 := ⟨RX1, TX1, 15, rfl, by decide, rfl, in_X1, bw_153⟩
theorem fg_X10_358 : FldG RX10 358 1 3 := ⟨RX1, TX1, 15, rfl, by decide, rfl, in_X1, bw_151⟩
theorem lk_X10_286 : LkV RX10 286 yX8_groupOf cX8_groupOf 5 (some .int) 1 := ⟨⟨bw_1360, bw_1357, bw_105, ⟨by decide +kernel, by decide +kernel, by decide +kernel⟩⟩, bw_1358, bw_1359⟩
noncomputable section
def f_X10_of (p1 : Int) (p2 : Int) (M : Mem) : Option (Int × Mem) :=
  obn (f_X1_has p1 M) fun r =>
  if r = 0 then
    some (2147483648, M)
  else
    obn (f_X10_within p2 0 12 M) fun r_2 =>
    if r_2 = 0 then
      some (2147483648, M)
    else
      if p2 < 0 ∨ 12 < p2 then
        gd ((0 : Int) ≤ (wrap ((wrap ((wrap (p1 * 3)) + p2)) - 4)) ∧ ((wrap ((wrap ((wrap (p1 * 3)) + p2)) - 4)) : Int) < 42) <|
        some ((M 9 (wrap ((wrap ((wrap (p1 * 3)) + p2)) - 4)).toNat), M)
      else if p2 = 0 then
        gd ((0 : Int) ≤ p1 ∧ (p1 : Int) < 14) <|
        some ((M 4 p1.toNat), M)
      else if p2 = 1 then
        gd ((0 : Int) ≤ p1 ∧ (p1 : Int) < 14) <|
        some ((M 5 p1.toNat), M)
      else if p2 = 2 then
        gd ((0 : Int) ≤ p1 ∧ (p1 : Int) < 14) <|
        some ((M 7 p1.toNat), M)
      else if p2 = 3 then
        gd ((0 : Int) ≤ p1 ∧ (p1 : Int) < 14) <|
        some ((M 8 p1.toNat), M)
      else if p2 = 4 then
        gd ((0 : Int) ≤ (wrap ((wrap ((wrap (p1 * 3)) + p2)) - 4)) ∧ ((wrap ((wrap ((wrap (p1 * 3)) + p2)) - 4)) : Int) < 42) <|
        some ((M 9 (wrap ((wrap ((wrap (p1 * 3)) + p2)) - 4)).toNat), M)
      else if p2 = 5 then
        gd ((0 : Int) ≤ (wrap ((wrap ((wrap (p1 * 3)) + p2)) - 4)) ∧ ((wrap ((wrap ((wrap (p1 * 3)) + p2)) - 4)) : Int) < 42) <|
        some ((M 9 (wrap ((wrap ((wrap (p1 * 3)) + p2)) - 4)).toNat), M)
      else if p2 = 6 then
        gd ((0 : Int) ≤ (wrap ((wrap ((wrap (p1 * 3)) + p2)) - 4)) ∧ ((wrap ((wrap ((wrap (p1 * 3)) + p2)) - 4)) : Int) < 42) <|
        some ((M 9 (wrap ((wrap ((wrap (p1 * 3)) + p2)) - 4)).toNat), M)
      else if p2 = 7 then
        gd ((0 : Int) ≤ p1 ∧ (p1 : Int) < 14) <|
        some ((M 6 p1.toNat), M)
      else if p2 = 8 then
        gd ((0 : Int) ≤ p1 ∧ (p1 : Int) < 14) <|
        obn (f_J6_bitCount_0f7a4 (M 11 p1.toNat) M) fun r_3 =>
        some (r_3, M)
      else if p2 = 9 then
        gd ((0 : Int) ≤ p1 ∧ (p1 : Int) < 14) <|
        obn (f_J6_bitCount_0f7a4 (M 10 p1.toNat) M) fun r_4 =>
        some (r_4, M)
      else if p2 = 10 then
        obn (f_X1_naming p1 M) fun r_5 =>
        some (r_5, M)
      else if p2 = 11 then
        gd ((0 : Int) ≤ p1 ∧ (p1 : Int) < 14) <|
        some ((M 14 p1.toNat), M)
      else if p2 = 12 then
        gd ((0 : Int) ≤ p1 ∧ (p1 : Int) < 14) <|
        some ((M 15 p1.toNat), M)
      else none
def rm_X10_of : Room := { frames := 8, cells := 1, slots := 6, locals := 120 }
def f_X10_lie_s101 (v1 : Int) (v2 : Int) (v3 : Int) (v4 : Int) (v5 : Int) (v6 : Int) (v7 : Int) (M : Mem) : Option ((Int × Mem) ⊕ (Int × Mem)) :=
  if 3 ≤ v7 then
    some (.inr (v7, M))
  else
    if v7 = v2 then
      lt (wrap (v7 + 1)) fun v7_2 =>
      some (.inl (v7_2, M))
    else
      gd ((0 : Int) ≤ (wrap (v3 + v7)) ∧ ((wrap (v3 + v7)) : Int) < 42) <|
      lt (mup M 9 (wrap (v3 + v7)).toNat (-1)) fun M_2 =>
      lt (wrap (v7 + 1)) fun v7_3 =>
      some (.inl (v7_3, M_2))
def f_X10_lie_l101 (v1 : Int) (v2 : Int) (v3 : Int) (v4 : Int) (v5 : Int) (v6 : Int) (v7 : Int) (M : Mem) : Option (Int × Mem) := whl (fun s => f_X10_lie_s101 v1 v2 v3 v4 v5 v6 s.1 s.2) FU (v7, M)
def f_X10_lie_j132 (v1 : Int) (v3 : Int) (v4 : Int) (v5 : Int) (v6 : Int) (M : Mem) : Option (Int × Mem) :=
  lt (mup M 0 16 0) fun M_2 =>
  bnd (f_X10_bestPlan (M_2 0 13) M_2) fun r M_3 =>
  lt (mup M_3 0 16 0) fun M_4 =>
  gd ((0 : Int) ≤ v3 ∧ (v3 : Int) < 42) <|
  lt (mup M_4 9 v3.toNat v4) fun M_5 =>
  gd ((0 : Int) ≤ (wrap (v3 + 1)) ∧ ((wrap (v3 + 1)) : Int) < 42) <|
  lt (mup M_5 9 (wrap (v3 + 1)).toNat v5) fun M_6 =>
  gd ((0 : Int) ≤ (wrap (v3 + 2)) ∧ ((wrap (v3 + 2)) : Int) < 42) <|
  lt (mup M_6 9 (wrap (v3 + 2)).toNat v6) fun M_7 =>
  if 0 ≤ r then
    obn (f_X8_groupOf v1 M_7) fun r_2 =>
    obn (f_X1_bestWish v1 r_2 M_7) fun r_3 =>
    some (r_3, M_7)
  else
    some (2147483648, M_7)
def f_X10_lie (p1 : Int) (p2 : Int) (M : Mem) : Option (Int × Mem) :=
  obn (f_X1_has p1 M) fun r =>
  if r = 0 then
    some (2147483648, M)
  else
    obn (f_X10_within p2 0 2 M) fun r_2 =>
    if r_2 = 0 then
      some (2147483648, M)
    else
      lt (wrap (p1 * 3)) fun v3 =>
      gd ((0 : Int) ≤ (wrap (v3 + p2)) ∧ ((wrap (v3 + p2)) : Int) < 42) <|
      if (M 9 (wrap (v3 + p2)).toNat) = (-1) then
        some (2147483648, M)
      else
        gd ((0 : Int) ≤ v3 ∧ (v3 : Int) < 42) <|
        lt (M 9 v3.toNat) fun v4 =>
        gd ((0 : Int) ≤ (wrap (v3 + 1)) ∧ ((wrap (v3 + 1)) : Int) < 42) <|
        lt (M 9 (wrap (v3 + 1)).toNat) fun v5 =>
        gd ((0 : Int) ≤ (wrap (v3 + 2)) ∧ ((wrap (v3 + 2)) : Int) < 42) <|
        lt (M 9 (wrap (v3 + 2)).toNat) fun v6 =>
        obn (f_X10_lie_l101 p1 p2 v3 v4 v5 v6 0 M) fun s => f_X10_lie_j132 p1 v3 v4 v5 v6 s.2
def rm_X10_lie : Room := { frames := 18, cells := 1, slots := 6, locals := 550 }
end
section
variable {p : Program} {l : Launch} {e : Env} {s : State} {m : MethodId} {args : Array Value} {below : List Frame} {meth : Method} {c : Code} {Q : State → Prop} {D : va_G} {aC : Nat → ClassId} {ad : Nat → Nat} {sg : SG} {A : Nat → Prop} {H0 : Heap}
set_option maxRecDepth 100000 in
set_option maxHeartbeats 4000000 in
theorem b_X10_of_0 (X : CX p s m args c cX10_of 3 RX10 D aC ad sg A H0) {o : Int × Mem} (HR : ∀ (r : Int) (M1 : Mem) (H : Heap) (locs : List Loc) (pc : Nat) (ls : Array Slot), o = (r, M1) → inR r → WS D aC ad A H0 M1 H locs → decode cX10_of pc = .ok (.ireturn, 1) → W p l e rm_X10_of s m args below meth c H locs 0 0 Q (F0 m pc ls [.int (i2 r)])) (HX : ∀ (M1 : Mem) (i : Nat) (H : Heap) (locs : List Loc) (pc : Nat) (ls : Array Slot), o = (2147483648, M1) → WS D aC ad A H0 M1 H locs → thrAt cX10_of RX10 i pc → ls.size = 3 → W p l e rm_X10_of s m args below meth c H locs 0 0 Q (F0 m pc ls [])) (p1 : Int) (hp1 : inR p1) (p2 : Int) (hp2 : inR p2) (M : Mem) (hf : f_X10_of p1 p2 M = some o) {H : Heap} {locs : List Loc} {ls : Array Slot} (hl : lv_has ls 3 [(0, .ref (ad 0)), (1, .int (i2 p1)), (2, .int (i2 p2))]) (w : WS D aC ad A H0 M H locs) : W p l e rm_X10_of s m args below meth c H locs 0 0 Q (F0 m 0 ls []) := by
  have hx := X.1.1
  have hb := X.1.2.1
  unfold f_X10_of at hf
  refine lv_aload_n hx hb dX10_of_0 rfl (lv_at hl 0 rfl) ?_
  refine g_getr X w fg_X10_10 KD_0 FR_0_0 dX10_of_1 ?_
  refine lv_iload_n hx hb dX10_of_4 rfl (lv_at hl 1 rfl) ?_
  obtain ⟨r, hc, hf⟩ := obn_some hf
  refine g_cvi (As := [.int (i2 p1)]) (rest := []) X w (k_X1_has X.2.2.1 p1 hp1 w.2.2 hc) lk_X10_120 cl_1 KD_3 ⟨rfl, rfl⟩ ⟨nle rfl, nle rfl⟩ ⟨nle rfl, nle rfl⟩ hl.1 rfl (nle rfl) dX10_of_5 (fun hr H locs w => ?_)
  refine g_if_eq (tgt := 21) X hr dX10_of_8 (by decide) (fun cd => ?_) (fun cd => ?_)
  · replace hf := ite_t cd hf
    exact HX M 4 _ _ _ _ (Option.some.inj hf).symm w ⟨by decide, rfl, dX10_of_21, dX10_of_24, dX10_of_25, dX10_of_28, dX10_of_31⟩ hl.1
  · replace hf := ite_f cd hf
    refine lv_iload_n hx hb dX10_of_11 rfl (lv_at hl 2 rfl) ?_
    refine g_iconst X dX10_of_12 ?_
    refine g_bipush X dX10_of_13 (by decide) ?_
    obtain ⟨r_2, hc, hf⟩ := obn_some hf
    refine g_csi (As := [.int (i2 p2), .int (i2 0), .int (i2 12)]) (rest := []) X w (k_X10_within X.2.2.1 p2 hp2 0 (inL rfl) 12 (inL rfl) w.2.2 hc) lk_X10_105 ⟨rfl, rfl⟩ ⟨nle rfl, nle rfl⟩ ⟨nle rfl, nle rfl⟩ hl.1 rfl (nle rfl) dX10_of_15 (fun hr_2 H locs w => ?_)
    refine g_if_ne (tgt := 32) X hr_2 dX10_of_18 (by decide) (fun cd_2 => ?_) (fun cd_2 => ?_)
    · replace hf := ite_f cd_2 hf
      refine lv_iload_n hx hb dX10_of_32 rfl (lv_at hl 2 rfl) ?_
      by_cases cd_3 : p2 < 0 ∨ 12 < p2
      · replace hf := ite_t cd_3 hf
        refine g_tout (tgt := 205) X hp2 cd_3 dX10_of_33 (by decide) ?_
        refine lv_aload_n hx hb dX10_of_205 rfl (lv_at hl 0 rfl) ?_
        refine g_getr X w fg_X10_10 KD_0 FR_0_0 dX10_of_206 ?_
        refine g_getr X w fg_X10_132 KD_3 FR_3_6 dX10_of_209 ?_
        refine lv_iload_n hx hb dX10_of_212 rfl (lv_at hl 1 rfl) ?_
        refine g_iconst X dX10_of_213 ?_
        refine g_imul X dX10_of_214 ?_
        refine lv_iload_n hx hb dX10_of_215 rfl (lv_at hl 2 rfl) ?_
        refine g_iadd X dX10_of_216 ?_
        refine g_iconst X dX10_of_217 ?_
        refine g_isub X dX10_of_218 ?_
        obtain ⟨hg, hf⟩ := gd_some hf
        refine g_iald X w KD_9 (inR_wrap _) hg dX10_of_219 ?_
        exact HR (M 9 (wrap ((wrap ((wrap (p1 * 3)) + p2)) - 4)).toNat) M _ _ _ _ (Option.some.inj hf).symm (w.2.2 _ _) w dX10_of_220
      · replace hf := ite_f cd_3 hf
        by_cases cd_4 : p2 = 0
        · replace hf := ite_t cd_4 hf
          refine g_tin (tgt := 100) (k := 0) (off := 67) X cd_4 hp2 (by decide) (by decide) (by rfl) dX10_of_33 (by decide) ?_
          refine lv_aload_n hx hb dX10_of_100 rfl (lv_at hl 0 rfl) ?_
          refine g_getr X w fg_X10_10 KD_0 FR_0_0 dX10_of_101 ?_
          refine g_getr X w fg_X10_346 KD_3 FR_3_1 dX10_of_104 ?_
          refine lv_iload_n hx hb dX10_of_107 rfl (lv_at hl 1 rfl) ?_
          obtain ⟨hg_2, hf⟩ := gd_some hf
          refine g_iald X w KD_4 hp1 hg_2 dX10_of_108 ?_
          exact HR (M 4 p1.toNat) M _ _ _ _ (Option.some.inj hf).symm (w.2.2 _ _) w dX10_of_109
        · replace hf := ite_f cd_4 hf
          by_cases cd_5 : p2 = 1
          · replace hf := ite_t cd_5 hf
            refine g_tin (tgt := 110) (k := 1) (off := 77) X cd_5 hp2 (by decide) (by decide) (by rfl) dX10_of_33 (by decide) ?_
            refine lv_aload_n hx hb dX10_of_110 rfl (lv_at hl 0 rfl) ?_
            refine g_getr X w fg_X10_10 KD_0 FR_0_0 dX10_of_111 ?_
            refine g_getr X w fg_X10_349 KD_3 FR_3_2 dX10_of_114 ?_
            refine lv_iload_n hx hb dX10_of_117 rfl (lv_at hl 1 rfl) ?_
            obtain ⟨hg_3, hf⟩ := gd_some hf
            refine g_iald X w KD_5 hp1 hg_3 dX10_of_118 ?_
            exact HR (M 5 p1.toNat) M _ _ _ _ (Option.some.inj hf).symm (w.2.2 _ _) w dX10_of_119
          · replace hf := ite_f cd_5 hf
            by_cases cd_6 : p2 = 2
            · replace hf := ite_t cd_6 hf
              refine g_tin (tgt := 120) (k := 2) (off := 87) X cd_6 hp2 (by decide) (by decide) (by rfl) dX10_of_33 (by decide) ?_
              refine lv_aload_n hx hb dX10_of_120 rfl (lv_at hl 0 rfl) ?_
              refine g_getr X w fg_X10_10 KD_0 FR_0_0 dX10_of_121 ?_
              refine g_getr X w fg_X10_352 KD_3 FR_3_4 dX10_of_124 ?_
              refine lv_iload_n hx hb dX10_of_127 rfl (lv_at hl 1 rfl) ?_
              obtain ⟨hg_4, hf⟩ := gd_some hf
              refine g_iald X w KD_7 hp1 hg_4 dX10_of_128 ?_
              exact HR (M 7 p1.toNat) M _ _ _ _ (Option.some.inj hf).symm (w.2.2 _ _) w dX10_of_129
            · replace hf := ite_f cd_6 hf
              by_cases cd_7 : p2 = 3
              · replace hf := ite_t cd_7 hf
                refine g_tin (tgt := 130) (k := 3) (off := 97) X cd_7 hp2 (by decide) (by decide) (by rfl) dX10_of_33 (by decide) ?_
                refine lv_aload_n hx hb dX10_of_130 rfl (lv_at hl 0 rfl) ?_
                refine g_getr X w fg_X10_10 KD_0 FR_0_0 dX10_of_131 ?_
                refine g_getr X w fg_X10_355 KD_3 FR_3_5 dX10_of_134 ?_
                refine lv_iload_n hx hb dX10_of_137 rfl (lv_at hl 1 rfl) ?_
                obtain ⟨hg_5, hf⟩ := gd_some hf
                refine g_iald X w KD_8 hp1 hg_5 dX10_of_138 ?_
                exact HR (M 8 p1.toNat) M _ _ _ _ (Option.some.inj hf).symm (w.2.2 _ _) w dX10_of_139
              · replace hf := ite_f cd_7 hf
                by_cases cd_8 : p2 = 4
                · replace hf := ite_t cd_8 hf
                  refine g_tin (tgt := 205) (k := 4) (off := 172) X cd_8 hp2 (by decide) (by decide) (by rfl) dX10_of_33 (by decide) ?_
                  refine lv_aload_n hx hb dX10_of_205 rfl (lv_at hl 0 rfl) ?_
                  refine g_getr X w fg_X10_10 KD_0 FR_0_0 dX10_of_206 ?_
                  refine g_getr X w fg_X10_132 KD_3 FR_3_6 dX10_of_209 ?_
                  refine lv_iload_n hx hb dX10_of_212 rfl (lv_at hl 1 rfl) ?_
                  refine g_iconst X dX10_of_213 ?_
                  refine g_imul X dX10_of_214 ?_
                  refine lv_iload_n hx hb dX10_of_215 rfl (lv_at hl 2 rfl) ?_
                  refine g_iadd X dX10_of_216 ?_
                  refine g_iconst X dX10_of_217 ?_
                  refine g_isub X dX10_of_218 ?_
                  obtain ⟨hg_6, hf⟩ := gd_some hf
                  refine g_iald X w KD_9 (inR_wrap _) hg_6 dX10_of_219 ?_
                  exact HR (M 9 (wrap ((wrap ((wrap (p1 * 3)) + p2)) - 4)).toNat) M _ _ _ _ (Option.some.inj hf).symm (w.2.2 _ _) w dX10_of_220
                · replace hf := ite_f cd_8 hf
                  by_cases cd_9 : p2 = 5
                  · replace hf := ite_t cd_9 hf
                    refine g_tin (tgt := 205) (k := 5) (off := 172) X cd_9 hp2 (by decide) (by decide) (by rfl) dX10_of_33 (by decide) ?_
                    refine lv_aload_n hx hb dX10_of_205 rfl (lv_at hl 0 rfl) ?_
                    refine g_getr X w fg_X10_10 KD_0 FR_0_0 dX10_of_206 ?_
                    refine g_getr X w fg_X10_132 KD_3 FR_3_6 dX10_of_209 ?_
                    refine lv_iload_n hx hb dX10_of_212 rfl (lv_at hl 1 rfl) ?_
                    refine g_iconst X dX10_of_213 ?_
                    refine g_imul X dX10_of_214 ?_
                    refine lv_iload_n hx hb dX10_of_215 rfl (lv_at hl 2 rfl) ?_
                    refine g_iadd X dX10_of_216 ?_
                    refine g_iconst X dX10_of_217 ?_
                    refine g_isub X dX10_of_218 ?_
                    obtain ⟨hg_7, hf⟩ := gd_some hf
                    refine g_iald X w KD_9 (inR_wrap _) hg_7 dX10_of_219 ?_
                    exact HR (M 9 (wrap ((wrap ((wrap (p1 * 3)) + p2)) - 4)).toNat) M _ _ _ _ (Option.some.inj hf).symm (w.2.2 _ _) w dX10_of_220
                  · replace hf := ite_f cd_9 hf
                    by_cases cd_10 : p2 = 6
                    · replace hf := ite_t cd_10 hf
                      refine g_tin (tgt := 205) (k := 6) (off := 172) X cd_10 hp2 (by decide) (by decide) (by rfl) dX10_of_33 (by decide) ?_
                      refine lv_aload_n hx hb dX10_of_205 rfl (lv_at hl 0 rfl) ?_
                      refine g_getr X w fg_X10_10 KD_0 FR_0_0 dX10_of_206 ?_
                      refine g_getr X w fg_X10_132 KD_3 FR_3_6 dX10_of_209 ?_
                      refine lv_iload_n hx hb dX10_of_212 rfl (lv_at hl 1 rfl) ?_
                      refine g_iconst X dX10_of_213 ?_
                      refine g_imul X dX10_of_214 ?_
                      refine lv_iload_n hx hb dX10_of_215 rfl (lv_at hl 2 rfl) ?_
                      refine g_iadd X dX10_of_216 ?_
                      refine g_iconst X dX10_of_217 ?_
                      refine g_isub X dX10_of_218 ?_
                      obtain ⟨hg_8, hf⟩ := gd_some hf
                      refine g_iald X w KD_9 (inR_wrap _) hg_8 dX10_of_219 ?_
                      exact HR (M 9 (wrap ((wrap ((wrap (p1 * 3)) + p2)) - 4)).toNat) M _ _ _ _ (Option.some.inj hf).symm (w.2.2 _ _) w dX10_of_220
                    · replace hf := ite_f cd_10 hf
                      by_cases cd_11 : p2 = 7
                      · replace hf := ite_t cd_11 hf
                        refine g_tin (tgt := 140) (k := 7) (off := 107) X cd_11 hp2 (by decide) (by decide) (by rfl) dX10_of_33 (by decide) ?_
                        refine lv_aload_n hx hb dX10_of_140 rfl (lv_at hl 0 rfl) ?_
                        refine g_getr X w fg_X10_10 KD_0 FR_0_0 dX10_of_141 ?_
                        refine g_getr X w fg_X10_358 KD_3 FR_3_3 dX10_of_144 ?_
                        refine lv_iload_n hx hb dX10_of_147 rfl (lv_at hl 1 rfl) ?_
                        obtain ⟨hg_9, hf⟩ := gd_some hf
                        refine g_iald X w KD_6 hp1 hg_9 dX10_of_148 ?_
                        exact HR (M 6 p1.toNat) M _ _ _ _ (Option.some.inj hf).symm (w.2.2 _ _) w dX10_of_149
                      · replace hf := ite_f cd_11 hf
                        by_cases cd_12 : p2 = 8
                        · replace hf := ite_t cd_12 hf
                          refine g_tin (tgt := 150) (k := 8) (off := 117) X cd_12 hp2 (by decide) (by decide) (by rfl) dX10_of_33 (by decide) ?_
                          refine lv_aload_n hx hb dX10_of_150 rfl (lv_at hl 0 rfl) ?_
                          refine g_getr X w fg_X10_10 KD_0 FR_0_0 dX10_of_151 ?_
                          refine g_getr X w fg_X10_142 KD_3 FR_3_8 dX10_of_154 ?_
                          refine lv_iload_n hx hb dX10_of_157 rfl (lv_at hl 1 rfl) ?_
                          obtain ⟨hg_10, hf⟩ := gd_some hf
                          refine g_iald X w KD_11 hp1 hg_10 dX10_of_158 ?_
                          obtain ⟨r_3, hc, hf⟩ := obn_some hf
                          refine g_csi (As := [.int (i2 (M 11 p1.toNat))]) (rest := []) X w (k_J6_bitCount_0f7a4 X.2.2.1 (M 11 p1.toNat) (w.2.2 _ _) w.2.2 hc) lk_X10_361 ⟨rfl, rfl⟩ ⟨nle rfl, nle rfl⟩ ⟨nle rfl, nle rfl⟩ hl.1 rfl (nle rfl) dX10_of_159 (fun hr_3 H locs w => ?_)
                          exact HR r_3 M _ _ _ _ (Option.some.inj hf).symm hr_3 w dX10_of_162
                        · replace hf := ite_f cd_12 hf
                          by_cases cd_13 : p2 = 9
                          · replace hf := ite_t cd_13 hf
                            refine g_tin (tgt := 163) (k := 9) (off := 130) X cd_13 hp2 (by decide) (by decide) (by rfl) dX10_of_33 (by decide) ?_
                            refine lv_aload_n hx hb dX10_of_163 rfl (lv_at hl 0 rfl) ?_
                            refine g_getr X w fg_X10_10 KD_0 FR_0_0 dX10_of_164 ?_
                            refine g_getr X w fg_X10_135 KD_3 FR_3_7 dX10_of_167 ?_
                            refine lv_iload_n hx hb dX10_of_170 rfl (lv_at hl 1 rfl) ?_
                            obtain ⟨hg_11, hf⟩ := gd_some hf
                            refine g_iald X w KD_10 hp1 hg_11 dX10_of_171 ?_
                            obtain ⟨r_4, hc, hf⟩ := obn_some hf
                            refine g_csi (As := [.int (i2 (M 10 p1.toNat))]) (rest := []) X w (k_J6_bitCount_0f7a4 X.2.2.1 (M 10 p1.toNat) (w.2.2 _ _) w.2.2 hc) lk_X10_361 ⟨rfl, rfl⟩ ⟨nle rfl, nle rfl⟩ ⟨nle rfl, nle rfl⟩ hl.1 rfl (nle rfl) dX10_of_172 (fun hr_4 H locs w => ?_)
                            exact HR r_4 M _ _ _ _ (Option.some.inj hf).symm hr_4 w dX10_of_175
                          · replace hf := ite_f cd_13 hf
                            by_cases cd_14 : p2 = 10
                            · replace hf := ite_t cd_14 hf
                              refine g_tin (tgt := 176) (k := 10) (off := 143) X cd_14 hp2 (by decide) (by decide) (by rfl) dX10_of_33 (by decide) ?_
                              refine lv_aload_n hx hb dX10_of_176 rfl (lv_at hl 0 rfl) ?_
                              refine g_getr X w fg_X10_10 KD_0 FR_0_0 dX10_of_177 ?_
                              refine lv_iload_n hx hb dX10_of_180 rfl (lv_at hl 1 rfl) ?_
                              obtain ⟨r_5, hc, hf⟩ := obn_some hf
                              refine g_cvi (As := [.int (i2 p1)]) (rest := []) X w (k_X1_naming X.2.2.1 p1 hp1 w.2.2 hc) lk_X10_289 cl_1 KD_3 ⟨rfl, rfl⟩ ⟨nle rfl, nle rfl⟩ ⟨nle rfl, nle rfl⟩ hl.1 rfl (nle rfl) dX10_of_181 (fun hr_5 H locs w => ?_)
                              exact HR r_5 M _ _ _ _ (Option.some.inj hf).symm hr_5 w dX10_of_184
                            · replace hf := ite_f cd_14 hf
                              by_cases cd_15 : p2 = 11
                              · replace hf := ite_t cd_15 hf
                                refine g_tin (tgt := 185) (k := 11) (off := 152) X cd_15 hp2 (by decide) (by decide) (by rfl) dX10_of_33 (by decide) ?_
                                refine lv_aload_n hx hb dX10_of_185 rfl (lv_at hl 0 rfl) ?_
                                refine g_getr X w fg_X10_10 KD_0 FR_0_0 dX10_of_186 ?_
                                refine g_getr X w fg_X10_319 KD_3 FR_3_11 dX10_of_189 ?_
                                refine lv_iload_n hx hb dX10_of_192 rfl (lv_at hl 1 rfl) ?_
                                obtain ⟨hg_12, hf⟩ := gd_some hf
                                refine g_iald X w KD_14 hp1 hg_12 dX10_of_193 ?_
                                exact HR (M 14 p1.toNat) M _ _ _ _ (Option.some.inj hf).symm (w.2.2 _ _) w dX10_of_194
                              · replace hf := ite_f cd_15 hf
                                by_cases cd_16 : p2 = 12
                                · replace hf := ite_t cd_16 hf
                                  refine g_tin (tgt := 195) (k := 12) (off := 162) X cd_16 hp2 (by decide) (by decide) (by rfl) dX10_of_33 (by decide) ?_
                                  refine lv_aload_n hx hb dX10_of_195 rfl (lv_at hl 0 rfl) ?_
                                  refine g_getr X w fg_X10_10 KD_0 FR_0_0 dX10_of_196 ?_
                                  refine g_getr X w fg_X10_322 KD_3 FR_3_12 dX10_of_199 ?_
                                  refine lv_iload_n hx hb dX10_of_202 rfl (lv_at hl 1 rfl) ?_
                                  obtain ⟨hg_13, hf⟩ := gd_some hf
                                  refine g_iald X w KD_15 hp1 hg_13 dX10_of_203 ?_
                                  exact HR (M 15 p1.toNat) M _ _ _ _ (Option.some.inj hf).symm (w.2.2 _ _) w dX10_of_204
                                · replace hf := ite_f cd_16 hf
                                  cases hf
    · replace hf := ite_t cd_2 hf
      exact HX M 4 _ _ _ _ (Option.some.inj hf).symm w ⟨by decide, rfl, dX10_of_21, dX10_of_24, dX10_of_25, dX10_of_28, dX10_of_31⟩ hl.1
set_option maxRecDepth 100000 in
set_option maxHeartbeats 4000000 in
theorem b_X10_lie_s101 (X : CX p s m args c cX10_lie 8 RX10 D aC ad sg A H0) (v1 : Int) (hv1 : inR v1) (v2 : Int) (hv2 : inR v2) (v3 : Int) (hv3 : inR v3) (v4 : Int) (hv4 : inR v4) (v5 : Int) (hv5 : inR v5) (v6 : Int) (hv6 : inR v6) {o : (Int × Mem) ⊕ (Int × Mem)} (HC : ∀ (y7 : Int) (M1 : Mem) (H : Heap) (locs : List Loc) (ls : Array Slot), o = .inl (y7, M1) → inR y7 → lv_has ls 8 [(0, .ref (ad 0)), (1, .int (i2 v1)), (2, .int (i2 v2)), (3, .int (i2 v3)), (4, .int (i2 v4)), (5, .int (i2 v5)), (6, .int (i2 v6)), (7, .int (i2 y7))] → WS D aC ad A H0 M1 H locs → W p l e rm_X10_lie s m args below meth c H locs 0 0 Q (F0 m 101 ls [])) (HE : ∀ (y7 : Int) (M1 : Mem) (H : Heap) (locs : List Loc) (ls : Array Slot), o = .inr (y7, M1) → inR y7 → lv_has ls 8 [(0, .ref (ad 0)), (1, .int (i2 v1)), (2, .int (i2 v2)), (3, .int (i2 v3)), (4, .int (i2 v4)), (5, .int (i2 v5)), (6, .int (i2 v6)), (7, .int (i2 y7))] → WS D aC ad A H0 M1 H locs → W p l e rm_X10_lie s m args below meth c H locs 0 0 Q (F0 m 132 ls [])) (v7 : Int) (hv7 : inR v7) (M : Mem) (hf : f_X10_lie_s101 v1 v2 v3 v4 v5 v6 v7 M = some o) {H : Heap} {locs : List Loc} {ls : Array Slot} (hl : lv_has ls 8 [(0, .ref (ad 0)), (1, .int (i2 v1)), (2, .int (i2 v2)), (3, .int (i2 v3)), (4, .int (i2 v4)), (5, .int (i2 v5)), (6, .int (i2 v6)), (7, .int (i2 v7))]) (w : WS D aC ad A H0 M H locs) : W p l e rm_X10_lie s m args below meth c H locs 0 0 Q (F0 m 101 ls []) := by
  have hx := X.1.1
  have hb := X.1.2.1
  unfold f_X10_lie_s101 at hf
  refine lv_iload hx hb dX10_lie_101 (lv_at hl 7 rfl) ?_
  refine g_iconst X dX10_lie_103 ?_
  refine g_icmp_ge (tgt := 132) X hv7 (inL rfl) dX10_lie_104 (by decide) (fun cd => ?_) (fun cd => ?_)
  · replace hf := ite_t cd hf
    exact HE v7 M _ _ _ (Option.some.inj hf).symm hv7 hl w
  · replace hf := ite_f cd hf
    refine lv_iload hx hb dX10_lie_107 (lv_at hl 7 rfl) ?_
    refine lv_iload_n hx hb dX10_lie_109 rfl (lv_at hl 2 rfl) ?_
    refine g_icmp_eq (tgt := 126) X hv7 hv2 dX10_lie_110 (by decide) (fun cd_2 => ?_) (fun cd_2 => ?_)
    · replace hf := ite_t cd_2 hf
      obtain ⟨v7_2, ev7_2, hf⟩ := lt_some hf
      have hv7_2 : inR v7_2 := inR_of ev7_2 (inR_wrap _)
      refine lv_iinc (v := i2 v7_2) (lv' := [(7, .int (i2 v7_2)), (0, .ref (ad 0)), (1, .int (i2 v1)), (2, .int (i2 v2)), (3, .int (i2 v3)), (4, .int (i2 v4)), (5, .int (i2 v5)), (6, .int (i2 v6))]) hx hb dX10_lie_126 hl (k := 7) rfl (by rw [ev7_2]; exact i2_add _ _) (by decide) rfl (fun ls hl => ?_)
      refine lv_goto (tgt := 101) hx hb dX10_lie_129 (by decide) ?_
      exact HC v7_2 M _ _ _ (Option.some.inj hf).symm hv7_2 (lv_sub hl [1, 2, 3, 4, 5, 6, 7, 0] rfl) w
    · replace hf := ite_f cd_2 hf
      refine lv_aload_n hx hb dX10_lie_113 rfl (lv_at hl 0 rfl) ?_
      refine g_getr X w fg_X10_10 KD_0 FR_0_0 dX10_lie_114 ?_
      refine g_getr X w fg_X10_132 KD_3 FR_3_6 dX10_lie_117 ?_
      refine lv_iload_n hx hb dX10_lie_120 rfl (lv_at hl 3 rfl) ?_
      refine lv_iload hx hb dX10_lie_121 (lv_at hl 7 rfl) ?_
      refine g_iadd X dX10_lie_123 ?_
      refine g_iconst X dX10_lie_124 ?_
      obtain ⟨hg, hf⟩ := gd_some hf
      obtain ⟨M_2, eM_2, hf⟩ := lt_some hf
      refine g_iast X w KD_9 (inR_wrap _) hg (inL rfl) dX10_lie_125 (fun H locs w_M_2 => ?_)
      rw [← eM_2] at w_M_2
      obtain ⟨v7_3, ev7_3, hf⟩ := lt_some hf
      have hv7_3 : inR v7_3 := inR_of ev7_3 (inR_wrap _)
      refine lv_iinc (v := i2 v7_3) (lv' := [(7, .int (i2 v7_3)), (0, .ref (ad 0)), (1, .int (i2 v1)), (2, .int (i2 v2)), (3, .int (i2 v3)), (4, .int (i2 v4)), (5, .int (i2 v5)), (6, .int (i2 v6))]) hx hb dX10_lie_126 hl (k := 7) rfl (by rw [ev7_3]; exact i2_add _ _) (by decide) rfl (fun ls hl => ?_)
      refine lv_goto (tgt := 101) hx hb dX10_lie_129 (by decide) ?_
      exact HC v7_3 M_2 _ _ _ (Option.some.inj hf).symm hv7_3 (lv_sub hl [1, 2, 3, 4, 5, 6, 7, 0] rfl) w_M_2
set_option maxRecDepth 100000 in
set_option maxHeartbeats 4000000 in
theorem l_X10_lie_101 (X : CX p s m args c cX10_lie 8 RX10 D aC ad sg A H0) (v1 : Int) (hv1 : inR v1) (v2 : Int) (hv2 : inR v2) (v3 : Int) (hv3 : inR v3) (v4 : Int) (hv4 : inR v4) (v5 : Int) (hv5 : inR v5) (v6 : Int) (hv6 : inR v6) {out : Int × Mem} (HE : ∀ (y7 : Int) (M1 : Mem) (H : Heap) (locs : List Loc) (ls : Array Slot), out = (y7, M1) → inR y7 → lv_has ls 8 [(0, .ref (ad 0)), (1, .int (i2 v1)), (2, .int (i2 v2)), (3, .int (i2 v3)), (4, .int (i2 v4)), (5, .int (i2 v5)), (6, .int (i2 v6)), (7, .int (i2 y7))] → WS D aC ad A H0 M1 H locs → W p l e rm_X10_lie s m args below meth c H locs 0 0 Q (F0 m 132 ls [])) : ∀ (n : Nat) (v7 : Int) (M : Mem), whl (fun s => f_X10_lie_s101 v1 v2 v3 v4 v5 v6 s.1 s.2) n (v7, M) = some out → inR v7 → ∀ {H : Heap} {locs : List Loc} {ls : Array Slot}, lv_has ls 8 [(0, .ref (ad 0)), (1, .int (i2 v1)), (2, .int (i2 v2)), (3, .int (i2 v3)), (4, .int (i2 v4)), (5, .int (i2 v5)), (6, .int (i2 v6)), (7, .int (i2 v7))] → WS D aC ad A H0 M H locs → W p l e rm_X10_lie s m args below meth c H locs 0 0 Q (F0 m 101 ls []) := by
  intro n
  induction n with
  | zero => intro v7 M hf; exact (whl_zero hf).elim
  | succ n ih =>
    intro v7 M hf hv7 H locs ls hl w
    obtain ⟨o, hf, hk1, hk2⟩ := whl_step hf
    exact b_X10_lie_s101 X v1 hv1 v2 hv2 v3 hv3 v4 hv4 v5 hv5 v6 hv6 (fun y7 M1 H locs ls eo hy7 hl w => ih y7 M1 (hk1 _ eo) hy7 hl w) (fun y7 M1 H locs ls eo hy7 hl w => HE y7 M1 H locs ls (hk2 _ eo).symm hy7 hl w) v7 hv7 M hf hl w
set_option maxRecDepth 100000 in
set_option maxHeartbeats 4000000 in
theorem b_X10_lie_j132 (X : CX p s m args c cX10_lie 8 RX10 D aC ad sg A H0) {o : Int × Mem} (HR : ∀ (r : Int) (M1 : Mem) (H : Heap) (locs : List Loc) (pc : Nat) (ls : Array Slot), o = (r, M1) → inR r → WS D aC ad A H0 M1 H locs → decode cX10_lie pc = .ok (.ireturn, 1) → W p l e rm_X10_lie s m args below meth c H locs 0 0 Q (F0 m pc ls [.int (i2 r)])) (HX : ∀ (M1 : Mem) (i : Nat) (H : Heap) (locs : List Loc) (pc : Nat) (ls : Array Slot), o = (2147483648, M1) → WS D aC ad A H0 M1 H locs → thrAt cX10_lie RX10 i pc → ls.size = 8 → W p l e rm_X10_lie s m args below meth c H locs 0 0 Q (F0 m pc ls [])) (v1 : Int) (hv1 : inR v1) (v3 : Int) (hv3 : inR v3) (v4 : Int) (hv4 : inR v4) (v5 : Int) (hv5 : inR v5) (v6 : Int) (hv6 : inR v6) (M : Mem) (hf : f_X10_lie_j132 v1 v3 v4 v5 v6 M = some o) {H : Heap} {locs : List Loc} {ls : Array Slot} (hl : lv_has ls 8 [(0, .ref (ad 0)), (1, .int (i2 v1)), (3, .int (i2 v3)), (4, .int (i2 v4)), (5, .int (i2 v5)), (6, .int (i2 v6))]) (w : WS D aC ad A H0 M H locs) : W p l e rm_X10_lie s m args below meth c H locs 0 0 Q (F0 m 132 ls []) := by
  have hx := X.1.1
  have hb := X.1.2.1
  unfold f_X10_lie_j132 at hf
  refine lv_aload_n hx hb dX10_lie_132 rfl (lv_at hl 0 rfl) ?_
  refine g_iconst X dX10_lie_133 ?_
  obtain ⟨M_2, eM_2, hf⟩ := lt_some hf
  refine g_putz X w fp_X10_109 KD_0 FR_0_16 (Or.inl rfl) dX10_lie_134 (fun H locs w_M_2 => ?_)
  rw [← eM_2] at w_M_2
  refine lv_aload_n hx hb dX10_lie_137 rfl (lv_at hl 0 rfl) ?_
  refine lv_aload_n hx hb dX10_lie_138 rfl (lv_at hl 0 rfl) ?_
  refine g_geti X w_M_2 fg_X10_113 KD_0 FR_0_13 dX10_lie_139 ?_
  obtain ⟨r, M_3, hc, hf⟩ := bnd_some hf
  refine g_cvi (As := [.int (i2 (M_2 0 13))]) (rest := []) X w_M_2 (k_X10_bestPlan X.2.2.1 (M_2 0 13) (w_M_2.2.2 _ _) w_M_2.2.2 hc) lk_X10_199 cl_10 KD_0 ⟨rfl, rfl⟩ ⟨nle rfl, nle rfl⟩ ⟨nle rfl, nle rfl⟩ hl.1 rfl (nle rfl) dX10_lie_142 (fun hr H locs w_M_3 => ?_)
  refine g_ist (v := r) (lv' := [(7, .int (i2 r)), (0, .ref (ad 0)), (1, .int (i2 v1)), (3, .int (i2 v3)), (4, .int (i2 v4)), (5, .int (i2 v5)), (6, .int (i2 v6))]) X rfl dX10_lie_145 hl (by decide) rfl (fun ls hl => ?_)
  refine lv_aload_n hx hb dX10_lie_147 rfl (lv_at hl 1 rfl) ?_
  refine g_iconst X dX10_lie_148 ?_
  obtain ⟨M_4, eM_4, hf⟩ := lt_some hf
  refine g_putz X w_M_3 fp_X10_109 KD_0 FR_0_16 (Or.inl rfl) dX10_lie_149 (fun H locs w_M_4 => ?_)
  rw [← eM_4] at w_M_4
  refine lv_aload_n hx hb dX10_lie_152 rfl (lv_at hl 1 rfl) ?_
  refine g_getr X w_M_4 fg_X10_10 KD_0 FR_0_0 dX10_lie_153 ?_
  refine g_getr X w_M_4 fg_X10_132 KD_3 FR_3_6 dX10_lie_156 ?_
  refine lv_iload_n hx hb dX10_lie_159 rfl (lv_at hl 3 rfl) ?_
  refine lv_iload hx hb dX10_lie_160 (lv_at hl 4 rfl) ?_
  obtain ⟨hg, hf⟩ := gd_some hf
  obtain ⟨M_5, eM_5, hf⟩ := lt_some hf
  refine g_iast X w_M_4 KD_9 hv3 hg hv4 dX10_lie_162 (fun H locs w_M_5 => ?_)
  rw [← eM_5] at w_M_5
  refine lv_aload_n hx hb dX10_lie_163 rfl (lv_at hl 1 rfl) ?_
  refine g_getr X w_M_5 fg_X10_10 KD_0 FR_0_0 dX10_lie_164 ?_
  refine g_getr X w_M_5 fg_X10_132 KD_3 FR_3_6 dX10_lie_167 ?_
  refine lv_iload_n hx hb dX10_lie_170 rfl (lv_at hl 3 rfl) ?_
  refine g_iconst X dX10_lie_171 ?_
  refine g_iadd X dX10_lie_172 ?_
  refine lv_iload hx hb dX10_lie_173 (lv_at hl 5 rfl) ?_
  obtain ⟨hg_2, hf⟩ := gd_some hf
  obtain ⟨M_6, eM_6, hf⟩ := lt_some hf
  refine g_iast X w_M_5 KD_9 (inR_wrap _) hg_2 hv5 dX10_lie_175 (fun H locs w_M_6 => ?_)
  rw [← eM_6] at w_M_6
  refine lv_aload_n hx hb dX10_lie_176 rfl (lv_at hl 1 rfl) ?_
  refine g_getr X w_M_6 fg_X10_10 KD_0 FR_0_0 dX10_lie_177 ?_
  refine g_getr X w_M_6 fg_X10_132 KD_3 FR_3_6 dX10_lie_180 ?_
  refine lv_iload_n hx hb dX10_lie_183 rfl (lv_at hl 3 rfl) ?_
  refine g_iconst X dX10_lie_184 ?_
  refine g_iadd X dX10_lie_185 ?_
  refine lv_iload hx hb dX10_lie_186 (lv_at hl 6 rfl) ?_
  obtain ⟨hg_3, hf⟩ := gd_some hf
  obtain ⟨M_7, eM_7, hf⟩ := lt_some hf
  refine g_iast X w_M_6 KD_9 (inR_wrap _) hg_3 hv6 dX10_lie_188 (fun H locs w_M_7 => ?_)
  rw [← eM_7] at w_M_7
  refine lv_iload hx hb dX10_lie_189 (lv_at hl 0 rfl) ?_
  refine g_if_ge (tgt := 205) X hr dX10_lie_191 (by decide) (fun cd => ?_) (fun cd => ?_)
  · replace hf := ite_t cd hf
    refine lv_aload_n hx hb dX10_lie_205 rfl (lv_at hl 1 rfl) ?_
    refine g_getr X w_M_7 fg_X10_10 KD_0 FR_0_0 dX10_lie_206 ?_
    refine lv_iload_n hx hb dX10_lie_209 rfl (lv_at hl 2 rfl) ?_
    refine lv_aload_n hx hb dX10_lie_210 rfl (lv_at hl 1 rfl) ?_
    refine g_getr X w_M_7 fg_X10_53 KD_0 FR_0_5 dX10_lie_211 ?_
    refine lv_iload_n hx hb dX10_lie_214 rfl (lv_at hl 2 rfl) ?_
    obtain ⟨r_2, hc, hf⟩ := obn_some hf
    refine g_cvi (As := [.int (i2 v1)]) (rest := [.int (i2 v1), .ref (ad 3)]) X w_M_7 (k_X8_groupOf X.2.2.1 v1 hv1 w_M_7.2.2 hc) lk_X10_286 cl_8 KD_35 ⟨rfl, rfl⟩ ⟨nle rfl, nle rfl⟩ ⟨nle rfl, nle rfl⟩ hl.1 rfl (nle rfl) dX10_lie_215 (fun hr_2 H locs w_M_7 => ?_)
    obtain ⟨r_3, hc, hf⟩ := obn_some hf
    refine g_cvi (As := [.int (i2 v1), .int (i2 r_2)]) (rest := []) X w_M_7 (k_X1_bestWish X.2.2.1 v1 hv1 r_2 hr_2 w_M_7.2.2 hc) lk_X10_262 cl_1 KD_3 ⟨rfl, rfl⟩ ⟨nle rfl, nle rfl⟩ ⟨nle rfl, nle rfl⟩ hl.1 rfl (nle rfl) dX10_lie_218 (fun hr_3 H locs w_M_7 => ?_)
    exact HR r_3 M_7 _ _ _ _ (Option.some.inj hf).symm hr_3 w_M_7 dX10_lie_221
  · replace hf := ite_f cd hf
    exact HX M_7 3 _ _ _ _ (Option.some.inj hf).symm w_M_7 ⟨by decide, rfl, dX10_lie_194, dX10_lie_197, dX10_lie_198, dX10_lie_201, dX10_lie_204⟩ hl.1
set_option maxRecDepth 100000 in
set_option maxHeartbeats 4000000 in
theorem b_X10_lie_0 (X : CX p s m args c cX10_lie 8 RX10 D aC ad sg A H0) {o : Int × Mem} (HR : ∀ (r : Int) (M1 : Mem) (H : Heap) (locs : List Loc) (pc : Nat) (ls : Array Slot), o = (r, M1) → inR r → WS D aC ad A H0 M1 H locs → decode cX10_lie pc = .ok (.ireturn, 1) → W p l e rm_X10_lie s m args below meth c H locs 0 0 Q (F0 m pc ls [.int (i2 r)])) (HX : ∀ (M1 : Mem) (i : Nat) (H : Heap) (locs : List Loc) (pc : Nat) (ls : Array Slot), o = (2147483648, M1) → WS D aC ad A H0 M1 H locs → thrAt cX10_lie RX10 i pc → ls.size = 8 → W p l e rm_X10_lie s m args below meth c H locs 0 0 Q (F0 m pc ls [])) (p1 : Int) (hp1 : inR p1) (p2 : Int) (hp2 : inR p2) (M : Mem) (hf : f_X10_lie p1 p2 M = some o) {H : Heap} {locs : List Loc} {ls : Array Slot} (hl : lv_has ls 8 [(0, .ref (ad 0)), (1, .int (i2 p1)), (2, .int (i2 p2))]) (w : WS D aC ad A H0 M H locs) : W p l e rm_X10_lie s m args below meth c H locs 0 0 Q (F0 m 0 ls []) := by
  have hx := X.1.1
  have hb := X.1.2.1
  unfold f_X10_lie at hf
  refine lv_aload_n hx hb dX10_lie_0 rfl (lv_at hl 0 rfl) ?_
  refine g_getr X w fg_X10_10 KD_0 FR_0_0 dX10_lie_1 ?_
  refine lv_iload_n hx hb dX10_lie_4 rfl (lv_at hl 1 rfl) ?_
  obtain ⟨r, hc, hf⟩ := obn_some hf
  refine g_cvi (As := [.int (i2 p1)]) (rest := []) X w (k_X1_has X.2.2.1 p1 hp1 w.2.2 hc) lk_X10_120 cl_1 KD_3 ⟨rfl, rfl⟩ ⟨nle rfl, nle rfl⟩ ⟨nle rfl, nle rfl⟩ hl.1 rfl (nle rfl) dX10_lie_5 (fun hr H locs w => ?_)
  refine g_if_eq (tgt := 20) X hr dX10_lie_8 (by decide) (fun cd => ?_) (fun cd => ?_)
  · replace hf := ite_t cd hf
    exact HX M 1 _ _ _ _ (Option.some.inj hf).symm w ⟨by decide, rfl, dX10_lie_20, dX10_lie_23, dX10_lie_24, dX10_lie_27, dX10_lie_30⟩ hl.1
  · replace hf := ite_f cd hf
    refine lv_iload_n hx hb dX10_lie_11 rfl (lv_at hl 2 rfl) ?_
    refine g_iconst X dX10_lie_12 ?_
    refine g_iconst X dX10_lie_13 ?_
    obtain ⟨r_2, hc, hf⟩ := obn_some hf
    refine g_csi (As := [.int (i2 p2), .int (i2 0), .int (i2 2)]) (rest := []) X w (k_X10_within X.2.2.1 p2 hp2 0 (inL rfl) 2 (inL rfl) w.2.2 hc) lk_X10_105 ⟨rfl, rfl⟩ ⟨nle rfl, nle rfl⟩ ⟨nle rfl, nle rfl⟩ hl.1 rfl (nle rfl) dX10_lie_14 (fun hr_2 H locs w => ?_)
    refine g_if_ne (tgt := 31) X hr_2 dX10_lie_17 (by decide) (fun cd_2 => ?_) (fun cd_2 => ?_)
    · replace hf := ite_f cd_2 hf
      refine lv_iload_n hx hb dX10_lie_31 rfl (lv_at hl 1 rfl) ?_
      refine g_iconst X dX10_lie_32 ?_
      refine g_imul X dX10_lie_33 ?_
      obtain ⟨v3, ev3, hf⟩ := lt_some hf
      have hv3 : inR v3 := inR_of ev3 (inR_wrap _)
      refine g_istn (v := v3) (lv' := [(3, .int (i2 v3)), (0, .ref (ad 0)), (1, .int (i2 p1)), (2, .int (i2 p2))]) X ev3 dX10_lie_34 rfl hl (by decide) rfl (fun ls hl => ?_)
      refine lv_aload_n hx hb dX10_lie_35 rfl (lv_at hl 1 rfl) ?_
      refine g_getr X w fg_X10_10 KD_0 FR_0_0 dX10_lie_36 ?_
      refine g_getr X w fg_X10_132 KD_3 FR_3_6 dX10_lie_39 ?_
      refine lv_iload_n hx hb dX10_lie_42 rfl (lv_at hl 0 rfl) ?_
      refine lv_iload_n hx hb dX10_lie_43 rfl (lv_at hl 3 rfl) ?_
      refine g_iadd X dX10_lie_44 ?_
      obtain ⟨hg, hf⟩ := gd_some hf
      refine g_iald X w KD_9 (inR_wrap _) hg dX10_lie_45 ?_
      refine g_iconst X dX10_lie_46 ?_
      refine g_icmp_ne (tgt := 61) X (w.2.2 _ _) (inL rfl) dX10_lie_47 (by decide) (fun cd_3 => ?_) (fun cd_3 => ?_)
      · replace hf := ite_f cd_3 hf
        refine lv_aload_n hx hb dX10_lie_61 rfl (lv_at hl 1 rfl) ?_
        refine g_getr X w fg_X10_10 KD_0 FR_0_0 dX10_lie_62 ?_
        refine g_getr X w fg_X10_132 KD_3 FR_3_6 dX10_lie_65 ?_
        refine lv_iload_n hx hb dX10_lie_68 rfl (lv_at hl 0 rfl) ?_
        obtain ⟨hg_2, hf⟩ := gd_some hf
        refine g_iald X w KD_9 hv3 hg_2 dX10_lie_69 ?_
        obtain ⟨v4, ev4, hf⟩ := lt_some hf
        have hv4 : inR v4 := inR_of ev4 (w.2.2 _ _)
        refine g_ist (v := v4) (lv' := [(4, .int (i2 v4)), (3, .int (i2 v3)), (0, .ref (ad 0)), (1, .int (i2 p1)), (2, .int (i2 p2))]) X ev4 dX10_lie_70 hl (by decide) rfl (fun ls hl => ?_)
        refine lv_aload_n hx hb dX10_lie_72 rfl (lv_at hl 2 rfl) ?_
        refine g_getr X w fg_X10_10 KD_0 FR_0_0 dX10_lie_73 ?_
        refine g_getr X w fg_X10_132 KD_3 FR_3_6 dX10_lie_76 ?_
        refine lv_iload_n hx hb dX10_lie_79 rfl (lv_at hl 1 rfl) ?_
        refine g_iconst X dX10_lie_80 ?_
        refine g_iadd X dX10_lie_81 ?_
        obtain ⟨hg_3, hf⟩ := gd_some hf
        refine g_iald X w KD_9 (inR_wrap _) hg_3 dX10_lie_82 ?_
        obtain ⟨v5, ev5, hf⟩ := lt_some hf
        have hv5 : inR v5 := inR_of ev5 (w.2.2 _ _)
        refine g_ist (v := v5) (lv' := [(5, .int (i2 v5)), (4, .int (i2 v4)), (3, .int (i2 v3)), (0, .ref (ad 0)), (1, .int (i2 p1)), (2, .int (i2 p2))]) X ev5 dX10_lie_83 hl (by decide) rfl (fun ls hl => ?_)
        refine lv_aload_n hx hb dX10_lie_85 rfl (lv_at hl 3 rfl) ?_
        refine g_getr X w fg_X10_10 KD_0 FR_0_0 dX10_lie_86 ?_
        refine g_getr X w fg_X10_132 KD_3 FR_3_6 dX10_lie_89 ?_
        refine lv_iload_n hx hb dX10_lie_92 rfl (lv_at hl 2 rfl) ?_
        refine g_iconst X dX10_lie_93 ?_
        refine g_iadd X dX10_lie_94 ?_
        obtain ⟨hg_4, hf⟩ := gd_some hf
        refine g_iald X w KD_9 (inR_wrap _) hg_4 dX10_lie_95 ?_
        obtain ⟨v6, ev6, hf⟩ := lt_some hf
        have hv6 : inR v6 := inR_of ev6 (w.2.2 _ _)
        refine g_ist (v := v6) (lv' := [(6, .int (i2 v6)), (5, .int (i2 v5)), (4, .int (i2 v4)), (3, .int (i2 v3)), (0, .ref (ad 0)), (1, .int (i2 p1)), (2, .int (i2 p2))]) X ev6 dX10_lie_96 hl (by decide) rfl (fun ls hl => ?_)
        refine g_iconst X dX10_lie_98 ?_
        refine g_ist (v := 0) (lv' := [(7, .int (i2 0)), (6, .int (i2 v6)), (5, .int (i2 v5)), (4, .int (i2 v4)), (3, .int (i2 v3)), (0, .ref (ad 0)), (1, .int (i2 p1)), (2, .int (i2 p2))]) X rfl dX10_lie_99 hl (by decide) rfl (fun ls hl => ?_)
        obtain ⟨q, hq, h1⟩ := obn_some hf
        exact l_X10_lie_101 X p1 hp1 p2 hp2 v3 hv3 v4 hv4 v5 hv5 v6 hv6 (out := q) (fun y7 M1 H locs ls eq hy7 hl w => b_X10_lie_j132 X  HR HX p1 hp1 v3 hv3 v4 hv4 v5 hv5 v6 hv6 M1 (by subst eq; exact h1) (lv_sub hl [0, 1, 3, 4, 5, 6] rfl) w)  FU 0 M hq (inL rfl) (lv_sub hl [5, 6, 7, 4, 3, 2, 1, 0] rfl) w
      · replace hf := ite_t cd_3 hf
        exact HX M 2 _ _ _ _ (Option.some.inj hf).symm w ⟨by decide, rfl, dX10_lie_50, dX10_lie_53, dX10_lie_54, dX10_lie_57, dX10_lie_60⟩ hl.1
    · replace hf := ite_t cd_2 hf
      exact HX M 1 _ _ _ _ (Option.some.inj hf).symm w ⟨by decide, rfl, dX10_lie_20, dX10_lie_23, dX10_lie_24, dX10_lie_27, dX10_lie_30⟩ hl.1
end
