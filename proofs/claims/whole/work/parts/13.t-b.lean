section
variable {p : Program} {l : Launch} {e : Env} {s : State} {m : MethodId} {args : Array Value} {below : List Frame} {meth : Method} {c : Code} {Q : State → Prop} {D : va_G} {aC : Nat → ClassId} {ad : Nat → Nat} {sg : SG} {A : Nat → Prop} {H0 : Heap}
set_option maxRecDepth 100000 in
set_option maxHeartbeats 4000000 in
theorem b_X4_traitOf_0 (X : CX p s m args c cX4_traitOf 3 RX4 D aC ad sg A H0) {M : Mem} {o : Int} (HR : ∀ (r : Int) (H : Heap) (locs : List Loc) (pc : Nat) (ls : Array Slot), o = r → inR r → WS D aC ad A H0 M H locs → decode cX4_traitOf pc = .ok (.ireturn, 1) → W p l e rm_X4_traitOf s m args below meth c H locs 0 0 Q (F0 m pc ls [.int (i2 r)])) (p1 : Int) (hp1 : inR p1) (p2 : Int) (hp2 : inR p2) (hf : f_X4_traitOf p1 p2 M = some o) {H : Heap} {locs : List Loc} {ls : Array Slot} (hl : lv_has ls 3 [(0, .ref (ad 30)), (1, .int (i2 p1)), (2, .int (i2 p2))]) (w : WS D aC ad A H0 M H locs) : W p l e rm_X4_traitOf s m args below meth c H locs 0 0 Q (F0 m 0 ls []) := by
  have hx := X.1.1
  have hb := X.1.2.1
  unfold f_X4_traitOf at hf
  refine lv_iload_n hx hb dX4_traitOf_0 rfl (lv_at hl 1 rfl) ?_
  by_cases cd : p1 < 0 ∨ 5 < p1
  · replace hf := ite_t cd hf
    refine g_tout (tgt := 99) X hp1 cd dX4_traitOf_1 (by decide) ?_
    refine lv_aload_n hx hb dX4_traitOf_99 rfl (lv_at hl 0 rfl) ?_
    refine g_getr X w fg_X4_26 KD_30 FR_30_0 dX4_traitOf_100 ?_
    refine lv_iload_n hx hb dX4_traitOf_103 rfl (lv_at hl 2 rfl) ?_
    obtain ⟨r, hc, hf⟩ := obn_some hf
    refine g_cvi (As := [.int (i2 p2)]) (rest := []) X w (k_X1_naming X.2.2.1 p2 hp2 w.2.2 hc) lk_X4_88 cl_1 KD_3 ⟨rfl, rfl⟩ ⟨nle rfl, nle rfl⟩ ⟨nle rfl, nle rfl⟩ hl.1 rfl (nle rfl) dX4_traitOf_104 (fun hr H locs w => ?_)
    exact HR r _ _ _ _ (Option.some.inj hf).symm hr w dX4_traitOf_107
  · replace hf := ite_f cd hf
    by_cases cd_2 : p1 = 0
    · replace hf := ite_t cd_2 hf
      refine g_tin (tgt := 40) (k := 0) (off := 39) X cd_2 hp1 (by decide) (by decide) (by rfl) dX4_traitOf_1 (by decide) ?_
      refine lv_aload_n hx hb dX4_traitOf_40 rfl (lv_at hl 0 rfl) ?_
      refine g_getr X w fg_X4_26 KD_30 FR_30_0 dX4_traitOf_41 ?_
      refine g_getr X w fg_X4_73 KD_3 FR_3_1 dX4_traitOf_44 ?_
      refine lv_iload_n hx hb dX4_traitOf_47 rfl (lv_at hl 2 rfl) ?_
      obtain ⟨hg, hf⟩ := gd_some hf
      refine g_iald X w KD_4 hp2 hg dX4_traitOf_48 ?_
      exact HR (M 4 p2.toNat) _ _ _ _ (Option.some.inj hf).symm (w.2.2 _ _) w dX4_traitOf_49
    · replace hf := ite_f cd_2 hf
      by_cases cd_3 : p1 = 1
      · replace hf := ite_t cd_3 hf
        refine g_tin (tgt := 50) (k := 1) (off := 49) X cd_3 hp1 (by decide) (by decide) (by rfl) dX4_traitOf_1 (by decide) ?_
        refine lv_aload_n hx hb dX4_traitOf_50 rfl (lv_at hl 0 rfl) ?_
        refine g_getr X w fg_X4_26 KD_30 FR_30_0 dX4_traitOf_51 ?_
        refine g_getr X w fg_X4_76 KD_3 FR_3_2 dX4_traitOf_54 ?_
        refine lv_iload_n hx hb dX4_traitOf_57 rfl (lv_at hl 2 rfl) ?_
        obtain ⟨hg_2, hf⟩ := gd_some hf
        refine g_iald X w KD_5 hp2 hg_2 dX4_traitOf_58 ?_
        exact HR (M 5 p2.toNat) _ _ _ _ (Option.some.inj hf).symm (w.2.2 _ _) w dX4_traitOf_59
      · replace hf := ite_f cd_3 hf
        by_cases cd_4 : p1 = 2
        · replace hf := ite_t cd_4 hf
          refine g_tin (tgt := 60) (k := 2) (off := 59) X cd_4 hp1 (by decide) (by decide) (by rfl) dX4_traitOf_1 (by decide) ?_
          refine lv_aload_n hx hb dX4_traitOf_60 rfl (lv_at hl 0 rfl) ?_
          refine g_getr X w fg_X4_30 KD_30 FR_30_1 dX4_traitOf_61 ?_
          refine lv_iload_n hx hb dX4_traitOf_64 rfl (lv_at hl 2 rfl) ?_
          refine g_iconst X dX4_traitOf_65 ?_
          obtain ⟨r_2, hc, hf⟩ := obn_some hf
          refine g_cvi (As := [.int (i2 p2), .int (i2 0)]) (rest := []) X w (k_X5_level X.2.2.1 p2 hp2 0 (inL rfl) w.2.2 hc) lk_X4_79 cl_5 KD_17 ⟨rfl, rfl⟩ ⟨nle rfl, nle rfl⟩ ⟨nle rfl, nle rfl⟩ hl.1 rfl (nle rfl) dX4_traitOf_66 (fun hr_2 H locs w => ?_)
          exact HR r_2 _ _ _ _ (Option.some.inj hf).symm hr_2 w dX4_traitOf_69
        · replace hf := ite_f cd_4 hf
          by_cases cd_5 : p1 = 3
          · replace hf := ite_t cd_5 hf
            refine g_tin (tgt := 70) (k := 3) (off := 69) X cd_5 hp1 (by decide) (by decide) (by rfl) dX4_traitOf_1 (by decide) ?_
            refine lv_aload_n hx hb dX4_traitOf_70 rfl (lv_at hl 0 rfl) ?_
            refine g_getr X w fg_X4_30 KD_30 FR_30_1 dX4_traitOf_71 ?_
            refine lv_iload_n hx hb dX4_traitOf_74 rfl (lv_at hl 2 rfl) ?_
            refine g_iconst X dX4_traitOf_75 ?_
            obtain ⟨r_3, hc, hf⟩ := obn_some hf
            refine g_cvi (As := [.int (i2 p2), .int (i2 1)]) (rest := []) X w (k_X5_level X.2.2.1 p2 hp2 1 (inL rfl) w.2.2 hc) lk_X4_79 cl_5 KD_17 ⟨rfl, rfl⟩ ⟨nle rfl, nle rfl⟩ ⟨nle rfl, nle rfl⟩ hl.1 rfl (nle rfl) dX4_traitOf_76 (fun hr_3 H locs w => ?_)
            exact HR r_3 _ _ _ _ (Option.some.inj hf).symm hr_3 w dX4_traitOf_79
          · replace hf := ite_f cd_5 hf
            by_cases cd_6 : p1 = 4
            · replace hf := ite_t cd_6 hf
              refine g_tin (tgt := 80) (k := 4) (off := 79) X cd_6 hp1 (by decide) (by decide) (by rfl) dX4_traitOf_1 (by decide) ?_
              refine lv_aload_n hx hb dX4_traitOf_80 rfl (lv_at hl 0 rfl) ?_
              refine g_getr X w fg_X4_26 KD_30 FR_30_0 dX4_traitOf_81 ?_
              refine g_getr X w fg_X4_82 KD_3 FR_3_5 dX4_traitOf_84 ?_
              refine lv_iload_n hx hb dX4_traitOf_87 rfl (lv_at hl 2 rfl) ?_
              obtain ⟨hg_3, hf⟩ := gd_some hf
              refine g_iald X w KD_8 hp2 hg_3 dX4_traitOf_88 ?_
              exact HR (M 8 p2.toNat) _ _ _ _ (Option.some.inj hf).symm (w.2.2 _ _) w dX4_traitOf_89
            · replace hf := ite_f cd_6 hf
              by_cases cd_7 : p1 = 5
              · replace hf := ite_t cd_7 hf
                refine g_tin (tgt := 90) (k := 5) (off := 89) X cd_7 hp1 (by decide) (by decide) (by rfl) dX4_traitOf_1 (by decide) ?_
                refine lv_aload_n hx hb dX4_traitOf_90 rfl (lv_at hl 0 rfl) ?_
                refine g_getr X w fg_X4_26 KD_30 FR_30_0 dX4_traitOf_91 ?_
                refine lv_iload_n hx hb dX4_traitOf_94 rfl (lv_at hl 2 rfl) ?_
                obtain ⟨r_4, hc, hf⟩ := obn_some hf
                refine g_cvi (As := [.int (i2 p2)]) (rest := []) X w (k_X1_toldWishes X.2.2.1 p2 hp2 w.2.2 hc) lk_X4_85 cl_1 KD_3 ⟨rfl, rfl⟩ ⟨nle rfl, nle rfl⟩ ⟨nle rfl, nle rfl⟩ hl.1 rfl (nle rfl) dX4_traitOf_95 (fun hr_4 H locs w => ?_)
                exact HR r_4 _ _ _ _ (Option.some.inj hf).symm hr_4 w dX4_traitOf_98
              · replace hf := ite_f cd_7 hf
                cases hf
set_option maxRecDepth 100000 in
set_option maxHeartbeats 4000000 in
theorem k_X4_traitOf {l : Launch} {D : va_G} {aC : Nat → ClassId} {ad : Nat → Nat} {sg : SG} (hi : Inj ad) (p1 : Int) (hp1 : inR p1) (p2 : Int) (hp2 : inR p2) {M : Mem} (hM : inM M) {r : Int} (hf : f_X4_traitOf p1 p2 M = some r) : MetI l D aC ad sg yX4_traitOf cX4_traitOf 3 (some .int) rm_X4_traitOf 0 0 [.ref (ad 30), .int (i2 p1), .int (i2 p2)] M r M := by
  refine MetI.ofI (by decide +kernel) (nle rfl) hi hM (fun p e s m args below meth c Q H0 ls X hl w hret => ?_)
  exact b_X4_traitOf_0 X  (fun r1 H locs pc ls eo hP w dg => by cases eo; exact hret H locs pc ls hP w dg) p1 hp1 p2 hp2 hf hl w
set_option maxRecDepth 100000 in
set_option maxHeartbeats 4000000 in
theorem b_X4_meetsTerm_0 (X : CX p s m args c cX4_meetsTerm 7 RX4 D aC ad sg A H0) {M : Mem} {o : Int} (HR : ∀ (r : Int) (H : Heap) (locs : List Loc) (pc : Nat) (ls : Array Slot), o = r → isZ r → WS D aC ad A H0 M H locs → decode cX4_meetsTerm pc = .ok (.ireturn, 1) → W p l e rm_X4_meetsTerm s m args below meth c H locs 0 0 Q (F0 m pc ls [.int (i2 r)])) (p1 : Int) (hp1 : inR p1) (p2 : Int) (hp2 : inR p2) (hf : f_X4_meetsTerm p1 p2 M = some o) {H : Heap} {locs : List Loc} {ls : Array Slot} (hl : lv_has ls 7 [(0, .ref (ad 30)), (1, .int (i2 p1)), (2, .int (i2 p2))]) (w : WS D aC ad A H0 M H locs) : W p l e rm_X4_meetsTerm s m args below meth c H locs 0 0 Q (F0 m 0 ls []) := by
  have hx := X.1.1
  have hb := X.1.2.1
  unfold f_X4_meetsTerm at hf
  refine lv_aload_n hx hb dX4_meetsTerm_0 rfl (lv_at hl 0 rfl) ?_
  obtain ⟨hru, hf⟩ := gd_some hf
  refine g_getd X w fg_X4_34 KD_30 FR_30_2 hru dX4_meetsTerm_1 ?_
  refine g_getr X w fg_X4_105 (KD_ru hru) (FR_ru_6 hru) dX4_meetsTerm_4 ?_
  refine lv_iload_n hx hb dX4_meetsTerm_7 rfl (lv_at hl 1 rfl) ?_
  obtain ⟨hg, hf⟩ := gd_some hf
  refine g_iald X w (KD_ru_6 hru) hp1 hg dX4_meetsTerm_8 ?_
  obtain ⟨v3, ev3, hf⟩ := lt_some hf
  have hv3 : inR v3 := inR_of ev3 (w.2.2 _ _)
  refine g_istn (v := v3) (lv' := [(3, .int (i2 v3)), (0, .ref (ad 30)), (1, .int (i2 p1)), (2, .int (i2 p2))]) X ev3 dX4_meetsTerm_9 rfl hl (by decide) rfl (fun ls hl => ?_)
  refine lv_aload_n hx hb dX4_meetsTerm_10 rfl (lv_at hl 1 rfl) ?_
  obtain ⟨hru_2, hf⟩ := gd_some hf
  refine g_getd X w fg_X4_34 KD_30 FR_30_2 hru_2 dX4_meetsTerm_11 ?_
  refine g_getr X w fg_X4_108 (KD_ru hru_2) (FR_ru_8 hru_2) dX4_meetsTerm_14 ?_
  refine lv_iload_n hx hb dX4_meetsTerm_17 rfl (lv_at hl 2 rfl) ?_
  obtain ⟨hg_2, hf⟩ := gd_some hf
  refine g_iald X w (KD_ru_8 hru_2) hp1 hg_2 dX4_meetsTerm_18 ?_
  obtain ⟨v4, ev4, hf⟩ := lt_some hf
  have hv4 : inR v4 := inR_of ev4 (w.2.2 _ _)
  refine g_ist (v := v4) (lv' := [(4, .int (i2 v4)), (3, .int (i2 v3)), (0, .ref (ad 30)), (1, .int (i2 p1)), (2, .int (i2 p2))]) X ev4 dX4_meetsTerm_19 hl (by decide) rfl (fun ls hl => ?_)
  refine lv_iload_n hx hb dX4_meetsTerm_21 rfl (lv_at hl 1 rfl) ?_
  refine g_bipush X dX4_meetsTerm_22 (by decide) ?_
  refine g_icmp_ne (tgt := 50) X hv3 (inL rfl) dX4_meetsTerm_24 (by decide) (fun cd => ?_) (fun cd => ?_)
  · replace hf := ite_f cd hf
    refine lv_aload_n hx hb dX4_meetsTerm_50 rfl (lv_at hl 2 rfl) ?_
    refine g_getr X w fg_X4_11 KD_30 FR_30_4 dX4_meetsTerm_51 ?_
    refine lv_iload_n hx hb dX4_meetsTerm_54 rfl (lv_at hl 1 rfl) ?_
    refine g_bipush X dX4_meetsTerm_55 (by decide) ?_
    refine g_imul X dX4_meetsTerm_57 ?_
    refine lv_iload_n hx hb dX4_meetsTerm_58 rfl (lv_at hl 4 rfl) ?_
    refine g_iadd X dX4_meetsTerm_59 ?_
    obtain ⟨hg_3, hf⟩ := gd_some hf
    refine g_iald X w KD_31 (inR_wrap _) hg_3 dX4_meetsTerm_60 ?_
    obtain ⟨v5, ev5, hf⟩ := lt_some hf
    have hv5 : inR v5 := inR_of ev5 (w.2.2 _ _)
    refine g_ist (v := v5) (lv' := [(5, .int (i2 v5)), (4, .int (i2 v4)), (3, .int (i2 v3)), (0, .ref (ad 30)), (1, .int (i2 p1)), (2, .int (i2 p2))]) X ev5 dX4_meetsTerm_61 hl (by decide) rfl (fun ls hl => ?_)
    refine lv_aload_n hx hb dX4_meetsTerm_63 rfl (lv_at hl 3 rfl) ?_
    obtain ⟨hru_3, hf⟩ := gd_some hf
    refine g_getd X w fg_X4_34 KD_30 FR_30_2 hru_3 dX4_meetsTerm_64 ?_
    refine g_getr X w fg_X4_114 (KD_ru hru_3) (FR_ru_7 hru_3) dX4_meetsTerm_67 ?_
    refine lv_iload_n hx hb dX4_meetsTerm_70 rfl (lv_at hl 4 rfl) ?_
    obtain ⟨hg_4, hf⟩ := gd_some hf
    refine g_iald X w (KD_ru_7 hru_3) hp1 hg_4 dX4_meetsTerm_71 ?_
    obtain ⟨v6, ev6, hf⟩ := lt_some hf
    have hv6 : inR v6 := inR_of ev6 (w.2.2 _ _)
    refine g_ist (v := v6) (lv' := [(6, .int (i2 v6)), (5, .int (i2 v5)), (4, .int (i2 v4)), (3, .int (i2 v3)), (0, .ref (ad 30)), (1, .int (i2 p1)), (2, .int (i2 p2))]) X ev6 dX4_meetsTerm_72 hl (by decide) rfl (fun ls hl => ?_)
    refine lv_iload hx hb dX4_meetsTerm_74 (lv_at hl 0 rfl) ?_
    refine g_bipush X dX4_meetsTerm_76 (by decide) ?_
    refine g_icmp_ne (tgt := 96) X hv6 (inL rfl) dX4_meetsTerm_78 (by decide) (fun cd_2 => ?_) (fun cd_2 => ?_)
    · replace hf := ite_f cd_2 hf
      refine lv_iload hx hb dX4_meetsTerm_96 (lv_at hl 0 rfl) ?_
      refine g_bipush X dX4_meetsTerm_98 (by decide) ?_
      refine g_icmp_ne (tgt := 118) X hv6 (inL rfl) dX4_meetsTerm_100 (by decide) (fun cd_3 => ?_) (fun cd_3 => ?_)
      · replace hf := ite_f cd_3 hf
        refine lv_iload hx hb dX4_meetsTerm_118 (lv_at hl 1 rfl) ?_
        refine lv_iload hx hb dX4_meetsTerm_120 (lv_at hl 2 rfl) ?_
        refine g_icmp_ne (tgt := 129) X hv5 hv4 dX4_meetsTerm_122 (by decide) (fun cd_4 => ?_) (fun cd_4 => ?_)
        · replace hf := ite_f cd_4 hf
          refine g_iconst X dX4_meetsTerm_129 ?_
          exact HR 0 _ _ _ _ (Option.some.inj hf).symm (Or.inl rfl) w dX4_meetsTerm_130
        · replace hf := ite_t cd_4 hf
          refine g_iconst X dX4_meetsTerm_125 ?_
          refine lv_goto (tgt := 130) hx hb dX4_meetsTerm_126 (by decide) ?_
          exact HR 1 _ _ _ _ (Option.some.inj hf).symm (Or.inr rfl) w dX4_meetsTerm_130
      · replace hf := ite_t cd_3 hf
        refine lv_iload hx hb dX4_meetsTerm_103 (lv_at hl 1 rfl) ?_
        refine lv_iload hx hb dX4_meetsTerm_105 (lv_at hl 2 rfl) ?_
        refine g_icmp_le (tgt := 114) X hv5 hv4 dX4_meetsTerm_107 (by decide) (fun cd_5 => ?_) (fun cd_5 => ?_)
        · replace hf := ite_t cd_5 hf
          refine g_iconst X dX4_meetsTerm_114 ?_
          refine lv_goto (tgt := 130) hx hb dX4_meetsTerm_115 (by decide) ?_
          exact HR 0 _ _ _ _ (Option.some.inj hf).symm (Or.inl rfl) w dX4_meetsTerm_130
        · replace hf := ite_f cd_5 hf
          refine g_iconst X dX4_meetsTerm_110 ?_
          refine lv_goto (tgt := 130) hx hb dX4_meetsTerm_111 (by decide) ?_
          exact HR 1 _ _ _ _ (Option.some.inj hf).symm (Or.inr rfl) w dX4_meetsTerm_130
    · replace hf := ite_t cd_2 hf
      refine lv_iload hx hb dX4_meetsTerm_81 (lv_at hl 1 rfl) ?_
      refine lv_iload hx hb dX4_meetsTerm_83 (lv_at hl 2 rfl) ?_
      refine g_icmp_ge (tgt := 92) X hv5 hv4 dX4_meetsTerm_85 (by decide) (fun cd_6 => ?_) (fun cd_6 => ?_)
      · replace hf := ite_t cd_6 hf
        refine g_iconst X dX4_meetsTerm_92 ?_
        refine lv_goto (tgt := 130) hx hb dX4_meetsTerm_93 (by decide) ?_
        exact HR 0 _ _ _ _ (Option.some.inj hf).symm (Or.inl rfl) w dX4_meetsTerm_130
      · replace hf := ite_f cd_6 hf
        refine g_iconst X dX4_meetsTerm_88 ?_
        refine lv_goto (tgt := 130) hx hb dX4_meetsTerm_89 (by decide) ?_
        exact HR 1 _ _ _ _ (Option.some.inj hf).symm (Or.inr rfl) w dX4_meetsTerm_130
  · replace hf := ite_t cd hf
    refine lv_aload_n hx hb dX4_meetsTerm_27 rfl (lv_at hl 2 rfl) ?_
    refine g_getr X w fg_X4_26 KD_30 FR_30_0 dX4_meetsTerm_28 ?_
    refine g_getr X w fg_X4_111 KD_3 FR_3_3 dX4_meetsTerm_31 ?_
    refine lv_iload_n hx hb dX4_meetsTerm_34 rfl (lv_at hl 4 rfl) ?_
    obtain ⟨hg_5, hf⟩ := gd_some hf
    refine g_iald X w KD_6 hp2 hg_5 dX4_meetsTerm_35 ?_
    refine lv_iload hx hb dX4_meetsTerm_36 (lv_at hl 0 rfl) ?_
    refine g_ishr X dX4_meetsTerm_38 ?_
    refine g_iconst X dX4_meetsTerm_39 ?_
    refine g_iand X dX4_meetsTerm_40 ?_
    refine g_if_eq (tgt := 48) X (inR_toInt _) dX4_meetsTerm_41 (by decide) (fun cd_7 => ?_) (fun cd_7 => ?_)
    · replace hf := ite_t cd_7 hf
      refine g_iconst X dX4_meetsTerm_48 ?_
      exact HR 0 _ _ _ _ (Option.some.inj hf).symm (Or.inl rfl) w dX4_meetsTerm_49
    · replace hf := ite_f cd_7 hf
      refine g_iconst X dX4_meetsTerm_44 ?_
      refine lv_goto (tgt := 49) hx hb dX4_meetsTerm_45 (by decide) ?_
      exact HR 1 _ _ _ _ (Option.some.inj hf).symm (Or.inr rfl) w dX4_meetsTerm_49
set_option maxRecDepth 100000 in
set_option maxHeartbeats 4000000 in
theorem k_X4_meetsTerm {l : Launch} {D : va_G} {aC : Nat → ClassId} {ad : Nat → Nat} {sg : SG} (hi : Inj ad) (p1 : Int) (hp1 : inR p1) (p2 : Int) (hp2 : inR p2) {M : Mem} (hM : inM M) {r : Int} (hf : f_X4_meetsTerm p1 p2 M = some r) : MetI l D aC ad sg yX4_meetsTerm cX4_meetsTerm 7 (some .boolean) rm_X4_meetsTerm 0 0 [.ref (ad 30), .int (i2 p1), .int (i2 p2)] M r M := by
  refine MetI.ofZ (by decide +kernel) (nle rfl) hi hM (fun p e s m args below meth c Q H0 ls X hl w hret => ?_)
  exact b_X4_meetsTerm_0 X  (fun r1 H locs pc ls eo hP w dg => by cases eo; exact hret H locs pc ls hP w dg) p1 hp1 p2 hp2 hf hl w
set_option maxRecDepth 100000 in
set_option maxHeartbeats 4000000 in
theorem b_X4_meets_s2 (X : CX p s m args c cX4_meets 5 RX4 D aC ad sg A H0) (v1 : Int) (hv1 : inR v1) (v2 : Int) (hv2 : inR v2) {M : Mem} {o : (Int) ⊕ ((Int) ⊕ (Int))} (HC : ∀ (y3 : Int) (H : Heap) (locs : List Loc) (ls : Array Slot), o = .inl y3 → inR y3 → lv_has ls 5 [(0, .ref (ad 30)), (1, .int (i2 v1)), (2, .int (i2 v2)), (3, .int (i2 y3))] → WS D aC ad A H0 M H locs → W p l e rm_X4_meets s m args below meth c H locs 0 0 Q (F0 m 2 ls [])) (HE : ∀ (y3 : Int) (H : Heap) (locs : List Loc) (ls : Array Slot), o = .inr (.inl y3) → inR y3 → lv_has ls 5 [(0, .ref (ad 30)), (1, .int (i2 v1)), (2, .int (i2 v2)), (3, .int (i2 y3))] → WS D aC ad A H0 M H locs → W p l e rm_X4_meets s m args below meth c H locs 0 0 Q (F0 m 50 ls [])) (HR : ∀ (r : Int) (H : Heap) (locs : List Loc) (pc : Nat) (ls : Array Slot), o = .inr (.inr r) → isZ r → WS D aC ad A H0 M H locs → decode cX4_meets pc = .ok (.ireturn, 1) → W p l e rm_X4_meets s m args below meth c H locs 0 0 Q (F0 m pc ls [.int (i2 r)])) (v3 : Int) (hv3 : inR v3) (hf : f_X4_meets_s2 v1 v2 M v3 = some o) {H : Heap} {locs : List Loc} {ls : Array Slot} (hl : lv_has ls 5 [(0, .ref (ad 30)), (1, .int (i2 v1)), (2, .int (i2 v2)), (3, .int (i2 v3))]) (w : WS D aC ad A H0 M H locs) : W p l e rm_X4_meets s m args below meth c H locs 0 0 Q (F0 m 2 ls []) := by
  have hx := X.1.1
  have hb := X.1.2.1
  unfold f_X4_meets_s2 at hf
  refine lv_iload_n hx hb dX4_meets_2 rfl (lv_at hl 3 rfl) ?_
  refine lv_aload_n hx hb dX4_meets_3 rfl (lv_at hl 0 rfl) ?_
  obtain ⟨hru, hf⟩ := gd_some hf
  refine g_getd X w fg_X4_34 KD_30 FR_30_2 hru dX4_meets_4 ?_
  refine g_getr X w fg_X4_95 (KD_ru hru) (FR_ru_4 hru) dX4_meets_7 ?_
  refine lv_iload_n hx hb dX4_meets_10 rfl (lv_at hl 1 rfl) ?_
  obtain ⟨hg, hf⟩ := gd_some hf
  refine g_iald X w (KD_ru_4 hru) hv1 hg dX4_meets_11 ?_
  refine g_icmp_ge (tgt := 50) X hv3 (w.2.2 _ _) dX4_meets_12 (by decide) (fun cd => ?_) (fun cd => ?_)
  · replace hf := ite_t cd hf
    exact HE v3 _ _ _ (Option.some.inj hf).symm hv3 hl w
  · replace hf := ite_f cd hf
    refine lv_iload_n hx hb dX4_meets_15 rfl (lv_at hl 1 rfl) ?_
    refine g_iconst X dX4_meets_16 ?_
    refine g_imul X dX4_meets_17 ?_
    refine lv_iload_n hx hb dX4_meets_18 rfl (lv_at hl 3 rfl) ?_
    refine g_iadd X dX4_meets_19 ?_
    obtain ⟨v4, ev4, hf⟩ := lt_some hf
    have hv4 : inR v4 := inR_of ev4 (inR_wrap _)
    refine g_ist (v := v4) (lv' := [(4, .int (i2 v4)), (0, .ref (ad 30)), (1, .int (i2 v1)), (2, .int (i2 v2)), (3, .int (i2 v3))]) X ev4 dX4_meets_20 hl (by decide) rfl (fun ls hl => ?_)
    refine lv_aload_n hx hb dX4_meets_22 rfl (lv_at hl 1 rfl) ?_
    refine lv_iload hx hb dX4_meets_23 (lv_at hl 0 rfl) ?_
    refine lv_iload_n hx hb dX4_meets_25 rfl (lv_at hl 3 rfl) ?_
    obtain ⟨r, hc, hf⟩ := obn_some hf
    refine g_cvi (As := [.int (i2 v4), .int (i2 v2)]) (rest := []) X w (k_X4_meetsTerm X.2.2.1 v4 hv4 v2 hv2 w.2.2 hc) lk_X4_98 cl_4 KD_30 ⟨rfl, rfl⟩ ⟨nle rfl, nle rfl⟩ ⟨nle rfl, nle rfl⟩ hl.1 rfl (nle rfl) dX4_meets_26 (fun hr H locs w => ?_)
    refine lv_aload_n hx hb dX4_meets_29 rfl (lv_at hl 1 rfl) ?_
    obtain ⟨hru_2, hf⟩ := gd_some hf
    refine g_getd X w fg_X4_34 KD_30 FR_30_2 hru_2 dX4_meets_30 ?_
    refine g_getr X w fg_X4_101 (KD_ru hru_2) (FR_ru_5 hru_2) dX4_meets_33 ?_
    refine lv_iload hx hb dX4_meets_36 (lv_at hl 0 rfl) ?_
    obtain ⟨hg_2, hf⟩ := gd_some hf
    refine g_zald X w (KD_ru_5 hru_2) hv4 hg_2 dX4_meets_38 ?_
    refine g_icmp_ne (tgt := 44) X hr (w.2.2 _ _) dX4_meets_39 (by decide) (fun cd_2 => ?_) (fun cd_2 => ?_)
    · replace hf := ite_f cd_2 hf
      obtain ⟨v3_2, ev3_2, hf⟩ := lt_some hf
      have hv3_2 : inR v3_2 := inR_of ev3_2 (inR_wrap _)
      refine lv_iinc (v := i2 v3_2) (lv' := [(3, .int (i2 v3_2)), (4, .int (i2 v4)), (0, .ref (ad 30)), (1, .int (i2 v1)), (2, .int (i2 v2))]) hx hb dX4_meets_44 hl (k := 4) rfl (by rw [ev3_2]; exact i2_add _ _) (by decide) rfl (fun ls hl => ?_)
      refine lv_goto (tgt := 2) hx hb dX4_meets_47 (by decide) ?_
      exact HC v3_2 _ _ _ (Option.some.inj hf).symm hv3_2 (lv_sub hl [2, 3, 4, 0] rfl) w
    · replace hf := ite_t cd_2 hf
      refine g_iconst X dX4_meets_42 ?_
      exact HR 0 _ _ _ _ (Option.some.inj hf).symm (Or.inl rfl) w dX4_meets_43
set_option maxRecDepth 100000 in
set_option maxHeartbeats 4000000 in
theorem l_X4_meets_2 (X : CX p s m args c cX4_meets 5 RX4 D aC ad sg A H0) (v1 : Int) (hv1 : inR v1) (v2 : Int) (hv2 : inR v2) {M : Mem} {out : (Int) ⊕ (Int)} (HE : ∀ (y3 : Int) (H : Heap) (locs : List Loc) (ls : Array Slot), out = .inl y3 → inR y3 → lv_has ls 5 [(0, .ref (ad 30)), (1, .int (i2 v1)), (2, .int (i2 v2)), (3, .int (i2 y3))] → WS D aC ad A H0 M H locs → W p l e rm_X4_meets s m args below meth c H locs 0 0 Q (F0 m 50 ls [])) (HR : ∀ (r : Int) (H : Heap) (locs : List Loc) (pc : Nat) (ls : Array Slot), out = .inr r → isZ r → WS D aC ad A H0 M H locs → decode cX4_meets pc = .ok (.ireturn, 1) → W p l e rm_X4_meets s m args below meth c H locs 0 0 Q (F0 m pc ls [.int (i2 r)])) : ∀ (n : Nat) (v3 : Int), whl (fun s => f_X4_meets_s2 v1 v2 M s) n v3 = some out → inR v3 → ∀ {H : Heap} {locs : List Loc} {ls : Array Slot}, lv_has ls 5 [(0, .ref (ad 30)), (1, .int (i2 v1)), (2, .int (i2 v2)), (3, .int (i2 v3))] → WS D aC ad A H0 M H locs → W p l e rm_X4_meets s m args below meth c H locs 0 0 Q (F0 m 2 ls []) := by
  intro n
  induction n with
  | zero => intro v3 hf; exact (whl_zero hf).elim
  | succ n ih =>
    intro v3 hf hv3 H locs ls hl w
    obtain ⟨o, hf, hk1, hk2⟩ := whl_step hf
    exact b_X4_meets_s2 X v1 hv1 v2 hv2 (fun y3 H locs ls eo hy3 hl w => ih y3 (hk1 _ eo) hy3 hl w) (fun y3 H locs ls eo hy3 hl w => HE y3 H locs ls (hk2 _ eo).symm hy3 hl w) (fun r H locs pc ls eo hP w dg => HR r H locs pc ls (hk2 _ eo).symm hP w dg) v3 hv3 hf hl w
set_option maxRecDepth 100000 in
set_option maxHeartbeats 4000000 in
theorem b_X4_meets_j50 (X : CX p s m args c cX4_meets 5 RX4 D aC ad sg A H0) {M : Mem} {o : Int} (HR : ∀ (r : Int) (H : Heap) (locs : List Loc) (pc : Nat) (ls : Array Slot), o = r → isZ r → WS D aC ad A H0 M H locs → decode cX4_meets pc = .ok (.ireturn, 1) → W p l e rm_X4_meets s m args below meth c H locs 0 0 Q (F0 m pc ls [.int (i2 r)])) (hf : f_X4_meets_j50 M = some o) {H : Heap} {locs : List Loc} {ls : Array Slot} (hl : lv_has ls 5 []) (w : WS D aC ad A H0 M H locs) : W p l e rm_X4_meets s m args below meth c H locs 0 0 Q (F0 m 50 ls []) := by
  have hx := X.1.1
  have hb := X.1.2.1
  unfold f_X4_meets_j50 at hf
  refine g_iconst X dX4_meets_50 ?_
  exact HR 1 _ _ _ _ (Option.some.inj hf).symm (Or.inr rfl) w dX4_meets_51
set_option maxRecDepth 100000 in
set_option maxHeartbeats 4000000 in
theorem b_X4_meets_0 (X : CX p s m args c cX4_meets 5 RX4 D aC ad sg A H0) {M : Mem} {o : Int} (HR : ∀ (r : Int) (H : Heap) (locs : List Loc) (pc : Nat) (ls : Array Slot), o = r → isZ r → WS D aC ad A H0 M H locs → decode cX4_meets pc = .ok (.ireturn, 1) → W p l e rm_X4_meets s m args below meth c H locs 0 0 Q (F0 m pc ls [.int (i2 r)])) (p1 : Int) (hp1 : inR p1) (p2 : Int) (hp2 : inR p2) (hf : f_X4_meets p1 p2 M = some o) {H : Heap} {locs : List Loc} {ls : Array Slot} (hl : lv_has ls 5 [(0, .ref (ad 30)), (1, .int (i2 p1)), (2, .int (i2 p2))]) (w : WS D aC ad A H0 M H locs) : W p l e rm_X4_meets s m args below meth c H locs 0 0 Q (F0 m 0 ls []) := by
  have hx := X.1.1
  have hb := X.1.2.1
  unfold f_X4_meets at hf
  refine g_iconst X dX4_meets_0 ?_
  refine g_istn (v := 0) (lv' := [(3, .int (i2 0)), (0, .ref (ad 30)), (1, .int (i2 p1)), (2, .int (i2 p2))]) X rfl dX4_meets_1 rfl hl (by decide) rfl (fun ls hl => ?_)
  obtain ⟨q, hq, h1, h2⟩ := lpr_some hf
  exact l_X4_meets_2 X p1 hp1 p2 hp2 (out := q) (fun y3 H locs ls eq hy3 hl w => b_X4_meets_j50 X  HR  (h1 _ eq) (lv_sub hl [] rfl) w) (fun r H locs pc ls eq hP w dg => HR r H locs pc ls (Option.some.inj (h2 _ eq)).symm hP w dg) FU 0 hq (inL rfl) (lv_sub hl [1, 2, 3, 0] rfl) w
set_option maxRecDepth 100000 in
set_option maxHeartbeats 4000000 in
theorem k_X4_meets {l : Launch} {D : va_G} {aC : Nat → ClassId} {ad : Nat → Nat} {sg : SG} (hi : Inj ad) (p1 : Int) (hp1 : inR p1) (p2 : Int) (hp2 : inR p2) {M : Mem} (hM : inM M) {r : Int} (hf : f_X4_meets p1 p2 M = some r) : MetI l D aC ad sg yX4_meets cX4_meets 5 (some .boolean) rm_X4_meets 0 0 [.ref (ad 30), .int (i2 p1), .int (i2 p2)] M r M := by
  refine MetI.ofZ (by decide +kernel) (nle rfl) hi hM (fun p e s m args below meth c Q H0 ls X hl w hret => ?_)
  exact b_X4_meets_0 X  (fun r1 H locs pc ls eo hP w dg => by cases eo; exact hret H locs pc ls hP w dg) p1 hp1 p2 hp2 hf hl w
set_option maxRecDepth 100000 in
set_option maxHeartbeats 4000000 in
theorem b_X4_holders_s4 (X : CX p s m args c cX4_holders 4 RX4 D aC ad sg A H0) (v1 : Int) (hv1 : inR v1) {M : Mem} {o : (Int × Int) ⊕ (Int × Int)} (HC : ∀ (y2 : Int) (y3 : Int) (H : Heap) (locs : List Loc) (ls : Array Slot), o = .inl (y2, y3) → inR y2 → inR y3 → lv_has ls 4 [(0, .ref (ad 30)), (1, .int (i2 v1)), (2, .int (i2 y2)), (3, .int (i2 y3))] → WS D aC ad A H0 M H locs → W p l e rm_X4_holders s m args below meth c H locs 0 0 Q (F0 m 4 ls [])) (HE : ∀ (y2 : Int) (y3 : Int) (H : Heap) (locs : List Loc) (ls : Array Slot), o = .inr (y2, y3) → inR y2 → inR y3 → lv_has ls 4 [(0, .ref (ad 30)), (1, .int (i2 v1)), (2, .int (i2 y2)), (3, .int (i2 y3))] → WS D aC ad A H0 M H locs → W p l e rm_X4_holders s m args below meth c H locs 0 0 Q (F0 m 36 ls [])) (v2 : Int) (hv2 : inR v2) (v3 : Int) (hv3 : inR v3) (hf : f_X4_holders_s4 v1 M v2 v3 = some o) {H : Heap} {locs : List Loc} {ls : Array Slot} (hl : lv_has ls 4 [(0, .ref (ad 30)), (1, .int (i2 v1)), (2, .int (i2 v2)), (3, .int (i2 v3))]) (w : WS D aC ad A H0 M H locs) : W p l e rm_X4_holders s m args below meth c H locs 0 0 Q (F0 m 4 ls []) := by
  have hx := X.1.1
  have hb := X.1.2.1
  unfold f_X4_holders_s4 at hf
  refine lv_iload_n hx hb dX4_holders_4 rfl (lv_at hl 3 rfl) ?_
  refine lv_aload_n hx hb dX4_holders_5 rfl (lv_at hl 0 rfl) ?_
  refine g_getr X w fg_X4_26 KD_30 FR_30_0 dX4_holders_6 ?_
  refine g_geti X w fg_X4_56 KD_3 FR_3_0 dX4_holders_9 ?_
  refine g_icmp_ge (tgt := 36) X hv3 (w.2.2 _ _) dX4_holders_12 (by decide) (fun cd => ?_) (fun cd => ?_)
  · replace hf := ite_t cd hf
    exact HE v2 v3 _ _ _ (Option.some.inj hf).symm hv2 hv3 hl w
  · replace hf := ite_f cd hf
    refine lv_aload_n hx hb dX4_holders_15 rfl (lv_at hl 0 rfl) ?_
    refine lv_iload_n hx hb dX4_holders_16 rfl (lv_at hl 1 rfl) ?_
    refine lv_iload_n hx hb dX4_holders_17 rfl (lv_at hl 3 rfl) ?_
    obtain ⟨r, hc, hf⟩ := obn_some hf
    refine g_cvi (As := [.int (i2 v1), .int (i2 v3)]) (rest := []) X w (k_X4_meets X.2.2.1 v1 hv1 v3 hv3 w.2.2 hc) lk_X4_91 cl_4 KD_30 ⟨rfl, rfl⟩ ⟨nle rfl, nle rfl⟩ ⟨nle rfl, nle rfl⟩ hl.1 rfl (nle rfl) dX4_holders_18 (fun hr H locs w => ?_)
    refine g_if_eq (tgt := 30) X hr dX4_holders_21 (by decide) (fun cd_2 => ?_) (fun cd_2 => ?_)
    · replace hf := ite_t cd_2 hf
      obtain ⟨v3_2, ev3_2, hf⟩ := lt_some hf
      have hv3_2 : inR v3_2 := inR_of ev3_2 (inR_wrap _)
      refine lv_iinc (v := i2 v3_2) (lv' := [(3, .int (i2 v3_2)), (0, .ref (ad 30)), (1, .int (i2 v1)), (2, .int (i2 v2))]) hx hb dX4_holders_30 hl (k := 3) rfl (by rw [ev3_2]; exact i2_add _ _) (by decide) rfl (fun ls hl => ?_)
      refine lv_goto (tgt := 4) hx hb dX4_holders_33 (by decide) ?_
      exact HC v2 v3_2 _ _ _ (Option.some.inj hf).symm hv2 hv3_2 (lv_sub hl [1, 2, 3, 0] rfl) w
    · replace hf := ite_f cd_2 hf
      refine lv_iload_n hx hb dX4_holders_24 rfl (lv_at hl 2 rfl) ?_
      refine g_iconst X dX4_holders_25 ?_
      refine lv_iload_n hx hb dX4_holders_26 rfl (lv_at hl 3 rfl) ?_
      refine g_ishl X dX4_holders_27 ?_
      refine g_ior X dX4_holders_28 ?_
      obtain ⟨v2_2, ev2_2, hf⟩ := lt_some hf
      have hv2_2 : inR v2_2 := inR_of ev2_2 (inR_toInt _)
      refine g_istn (v := v2_2) (lv' := [(2, .int (i2 v2_2)), (0, .ref (ad 30)), (1, .int (i2 v1)), (3, .int (i2 v3))]) X ev2_2 dX4_holders_29 rfl hl (by decide) rfl (fun ls hl => ?_)
      obtain ⟨v3_3, ev3_3, hf⟩ := lt_some hf
      have hv3_3 : inR v3_3 := inR_of ev3_3 (inR_wrap _)
      refine lv_iinc (v := i2 v3_3) (lv' := [(3, .int (i2 v3_3)), (2, .int (i2 v2_2)), (0, .ref (ad 30)), (1, .int (i2 v1))]) hx hb dX4_holders_30 hl (k := 3) rfl (by rw [ev3_3]; exact i2_add _ _) (by decide) rfl (fun ls hl => ?_)
      refine lv_goto (tgt := 4) hx hb dX4_holders_33 (by decide) ?_
      exact HC v2_2 v3_3 _ _ _ (Option.some.inj hf).symm hv2_2 hv3_3 (lv_sub hl [2, 3, 1, 0] rfl) w
set_option maxRecDepth 100000 in
set_option maxHeartbeats 4000000 in
theorem l_X4_holders_4 (X : CX p s m args c cX4_holders 4 RX4 D aC ad sg A H0) (v1 : Int) (hv1 : inR v1) {M : Mem} {out : Int × Int} (HE : ∀ (y2 : Int) (y3 : Int) (H : Heap) (locs : List Loc) (ls : Array Slot), out = (y2, y3) → inR y2 → inR y3 → lv_has ls 4 [(0, .ref (ad 30)), (1, .int (i2 v1)), (2, .int (i2 y2)), (3, .int (i2 y3))] → WS D aC ad A H0 M H locs → W p l e rm_X4_holders s m args below meth c H locs 0 0 Q (F0 m 36 ls [])) : ∀ (n : Nat) (v2 : Int) (v3 : Int), whl (fun s => f_X4_holders_s4 v1 M s.1 s.2) n (v2, v3) = some out → inR v2 → inR v3 → ∀ {H : Heap} {locs : List Loc} {ls : Array Slot}, lv_has ls 4 [(0, .ref (ad 30)), (1, .int (i2 v1)), (2, .int (i2 v2)), (3, .int (i2 v3))] → WS D aC ad A H0 M H locs → W p l e rm_X4_holders s m args below meth c H locs 0 0 Q (F0 m 4 ls []) := by
  intro n
  induction n with
  | zero => intro v2 v3 hf; exact (whl_zero hf).elim
  | succ n ih =>
    intro v2 v3 hf hv2 hv3 H locs ls hl w
    obtain ⟨o, hf, hk1, hk2⟩ := whl_step hf
    exact b_X4_holders_s4 X v1 hv1 (fun y2 y3 H locs ls eo hy2 hy3 hl w => ih y2 y3 (hk1 _ eo) hy2 hy3 hl w) (fun y2 y3 H locs ls eo hy2 hy3 hl w => HE y2 y3 H locs ls (hk2 _ eo).symm hy2 hy3 hl w) v2 hv2 v3 hv3 hf hl w
set_option maxRecDepth 100000 in
set_option maxHeartbeats 4000000 in
theorem b_X4_holders_j36 (X : CX p s m args c cX4_holders 4 RX4 D aC ad sg A H0) {M : Mem} {o : Int} (HR : ∀ (r : Int) (H : Heap) (locs : List Loc) (pc : Nat) (ls : Array Slot), o = r → inR r → WS D aC ad A H0 M H locs → decode cX4_holders pc = .ok (.ireturn, 1) → W p l e rm_X4_holders s m args below meth c H locs 0 0 Q (F0 m pc ls [.int (i2 r)])) (v2 : Int) (hv2 : inR v2) (hf : f_X4_holders_j36 v2 M = some o) {H : Heap} {locs : List Loc} {ls : Array Slot} (hl : lv_has ls 4 [(2, .int (i2 v2))]) (w : WS D aC ad A H0 M H locs) : W p l e rm_X4_holders s m args below meth c H locs 0 0 Q (F0 m 36 ls []) := by
  have hx := X.1.1
  have hb := X.1.2.1
  unfold f_X4_holders_j36 at hf
  refine lv_iload_n hx hb dX4_holders_36 rfl (lv_at hl 0 rfl) ?_
  exact HR v2 _ _ _ _ (Option.some.inj hf).symm hv2 w dX4_holders_37
set_option maxRecDepth 100000 in
set_option maxHeartbeats 4000000 in
theorem b_X4_holders_0 (X : CX p s m args c cX4_holders 4 RX4 D aC ad sg A H0) {M : Mem} {o : Int} (HR : ∀ (r : Int) (H : Heap) (locs : List Loc) (pc : Nat) (ls : Array Slot), o = r → inR r → WS D aC ad A H0 M H locs → decode cX4_holders pc = .ok (.ireturn, 1) → W p l e rm_X4_holders s m args below meth c H locs 0 0 Q (F0 m pc ls [.int (i2 r)])) (p1 : Int) (hp1 : inR p1) (hf : f_X4_holders p1 M = some o) {H : Heap} {locs : List Loc} {ls : Array Slot} (hl : lv_has ls 4 [(0, .ref (ad 30)), (1, .int (i2 p1))]) (w : WS D aC ad A H0 M H locs) : W p l e rm_X4_holders s m args below meth c H locs 0 0 Q (F0 m 0 ls []) := by
  have hx := X.1.1
  have hb := X.1.2.1
  unfold f_X4_holders at hf
  refine g_iconst X dX4_holders_0 ?_
  refine g_istn (v := 0) (lv' := [(2, .int (i2 0)), (0, .ref (ad 30)), (1, .int (i2 p1))]) X rfl dX4_holders_1 rfl hl (by decide) rfl (fun ls hl => ?_)
  refine g_iconst X dX4_holders_2 ?_
  refine g_istn (v := 0) (lv' := [(3, .int (i2 0)), (2, .int (i2 0)), (0, .ref (ad 30)), (1, .int (i2 p1))]) X rfl dX4_holders_3 rfl hl (by decide) rfl (fun ls hl => ?_)
  obtain ⟨q, hq, h1⟩ := obn_some hf
  exact l_X4_holders_4 X p1 hp1 (out := q) (fun y2 y3 H locs ls eq hy2 hy3 hl w => b_X4_holders_j36 X  HR y2 hy2 (by subst eq; exact h1) (lv_sub hl [2] rfl) w)  FU 0 0 hq (inL rfl) (inL rfl) (lv_sub hl [2, 3, 1, 0] rfl) w
set_option maxRecDepth 100000 in
set_option maxHeartbeats 4000000 in
theorem k_X4_holders {l : Launch} {D : va_G} {aC : Nat → ClassId} {ad : Nat → Nat} {sg : SG} (hi : Inj ad) (p1 : Int) (hp1 : inR p1) {M : Mem} (hM : inM M) {r : Int} (hf : f_X4_holders p1 M = some r) : MetI l D aC ad sg yX4_holders cX4_holders 4 (some .int) rm_X4_holders 0 0 [.ref (ad 30), .int (i2 p1)] M r M := by
  refine MetI.ofI (by decide +kernel) (nle rfl) hi hM (fun p e s m args below meth c Q H0 ls X hl w hret => ?_)
  exact b_X4_holders_0 X  (fun r1 H locs pc ls eo hP w dg => by cases eo; exact hret H locs pc ls hP w dg) p1 hp1 hf hl w
set_option maxRecDepth 100000 in
set_option maxHeartbeats 4000000 in
theorem b_X4_prepare_s46 (X : CX p s m args c cX4_prepare 5 RX4 D aC ad sg A H0) (p1 : Int) (hp1 : isRu p1) (v3 : Int) (hv3 : inR v3) {o : (Int × Mem) ⊕ (Int × Mem)} (HC : ∀ (y4 : Int) (M1 : Mem) (H : Heap) (locs : List Loc) (ls : Array Slot), o = .inl (y4, M1) → inR y4 → lv_has ls 5 [(0, .ref (ad 30)), (3, .int (i2 v3)), (4, .int (i2 y4))] → WS D aC ad A H0 M1 H locs → W p l e rm_X4_prepare s m args below meth c H locs 0 0 Q (F0 m 46 ls [])) (HE : ∀ (y4 : Int) (M1 : Mem) (H : Heap) (locs : List Loc) (ls : Array Slot), o = .inr (y4, M1) → inR y4 → lv_has ls 5 [(0, .ref (ad 30)), (3, .int (i2 v3)), (4, .int (i2 y4))] → WS D aC ad A H0 M1 H locs → W p l e rm_X4_prepare s m args below meth c H locs 0 0 Q (F0 m 83 ls [])) (v4 : Int) (hv4 : inR v4) (M : Mem) (hf : f_X4_prepare_s46 p1 v3 v4 M = some o) {H : Heap} {locs : List Loc} {ls : Array Slot} (hl : lv_has ls 5 [(0, .ref (ad 30)), (3, .int (i2 v3)), (4, .int (i2 v4))]) (w : WS D aC ad A H0 M H locs) : W p l e rm_X4_prepare s m args below meth c H locs 0 0 Q (F0 m 46 ls []) := by
  have hx := X.1.1
  have hb := X.1.2.1
  unfold f_X4_prepare_s46 at hf
  refine lv_iload hx hb dX4_prepare_46 (lv_at hl 2 rfl) ?_
  refine lv_aload_n hx hb dX4_prepare_48 rfl (lv_at hl 0 rfl) ?_
  refine g_getr X w fg_X4_26 KD_30 FR_30_0 dX4_prepare_49 ?_
  refine g_geti X w fg_X4_56 KD_3 FR_3_0 dX4_prepare_52 ?_
  refine g_icmp_ge (tgt := 83) X hv4 (w.2.2 _ _) dX4_prepare_55 (by decide) (fun cd => ?_) (fun cd => ?_)
  · replace hf := ite_t cd hf
    exact HE v4 M _ _ _ (Option.some.inj hf).symm hv4 hl w
  · replace hf := ite_f cd hf
    refine lv_aload_n hx hb dX4_prepare_58 rfl (lv_at hl 0 rfl) ?_
    refine g_getr X w fg_X4_11 KD_30 FR_30_4 dX4_prepare_59 ?_
    refine lv_iload_n hx hb dX4_prepare_62 rfl (lv_at hl 1 rfl) ?_
    refine g_bipush X dX4_prepare_63 (by decide) ?_
    refine g_imul X dX4_prepare_65 ?_
    refine lv_iload hx hb dX4_prepare_66 (lv_at hl 2 rfl) ?_
    refine g_iadd X dX4_prepare_68 ?_
    refine lv_aload_n hx hb dX4_prepare_69 rfl (lv_at hl 0 rfl) ?_
    refine lv_iload_n hx hb dX4_prepare_70 rfl (lv_at hl 1 rfl) ?_
    refine lv_iload hx hb dX4_prepare_71 (lv_at hl 2 rfl) ?_
    obtain ⟨r, hc, hf⟩ := obn_some hf
    refine g_cvi (As := [.int (i2 v3), .int (i2 v4)]) (rest := [.int (i2 (wrap ((wrap (v3 * 14)) + v4))), .ref (ad 31)]) X w (k_X4_traitOf X.2.2.1 v3 hv3 v4 hv4 w.2.2 hc) lk_X4_61 cl_4 KD_30 ⟨rfl, rfl⟩ ⟨nle rfl, nle rfl⟩ ⟨nle rfl, nle rfl⟩ hl.1 rfl (nle rfl) dX4_prepare_73 (fun hr H locs w => ?_)
    obtain ⟨hg, hf⟩ := gd_some hf
    obtain ⟨M_2, eM_2, hf⟩ := lt_some hf
    refine g_iast X w KD_31 (inR_wrap _) hg hr dX4_prepare_76 (fun H locs w_M_2 => ?_)
    rw [← eM_2] at w_M_2
    obtain ⟨v4_2, ev4_2, hf⟩ := lt_some hf
    have hv4_2 : inR v4_2 := inR_of ev4_2 (inR_wrap _)
    refine lv_iinc (v := i2 v4_2) (lv' := [(4, .int (i2 v4_2)), (0, .ref (ad 30)), (3, .int (i2 v3))]) hx hb dX4_prepare_77 hl (k := 2) rfl (by rw [ev4_2]; exact i2_add _ _) (by decide) rfl (fun ls hl => ?_)
    refine lv_goto (tgt := 46) hx hb dX4_prepare_80 (by decide) ?_
    exact HC v4_2 M_2 _ _ _ (Option.some.inj hf).symm hv4_2 (lv_sub hl [1, 2, 0] rfl) w_M_2
set_option maxRecDepth 100000 in
set_option maxHeartbeats 4000000 in
theorem l_X4_prepare_46 (X : CX p s m args c cX4_prepare 5 RX4 D aC ad sg A H0) (p1 : Int) (hp1 : isRu p1) (v3 : Int) (hv3 : inR v3) {out : Int × Mem} (HE : ∀ (y4 : Int) (M1 : Mem) (H : Heap) (locs : List Loc) (ls : Array Slot), out = (y4, M1) → inR y4 → lv_has ls 5 [(0, .ref (ad 30)), (3, .int (i2 v3)), (4, .int (i2 y4))] → WS D aC ad A H0 M1 H locs → W p l e rm_X4_prepare s m args below meth c H locs 0 0 Q (F0 m 83 ls [])) : ∀ (n : Nat) (v4 : Int) (M : Mem), whl (fun s => f_X4_prepare_s46 p1 v3 s.1 s.2) n (v4, M) = some out → inR v4 → ∀ {H : Heap} {locs : List Loc} {ls : Array Slot}, lv_has ls 5 [(0, .ref (ad 30)), (3, .int (i2 v3)), (4, .int (i2 v4))] → WS D aC ad A H0 M H locs → W p l e rm_X4_prepare s m args below meth c H locs 0 0 Q (F0 m 46 ls []) := by
  intro n
  induction n with
  | zero => intro v4 M hf; exact (whl_zero hf).elim
  | succ n ih =>
    intro v4 M hf hv4 H locs ls hl w
    obtain ⟨o, hf, hk1, hk2⟩ := whl_step hf
    exact b_X4_prepare_s46 X p1 hp1 v3 hv3 (fun y4 M1 H locs ls eo hy4 hl w => ih y4 M1 (hk1 _ eo) hy4 hl w) (fun y4 M1 H locs ls eo hy4 hl w => HE y4 M1 H locs ls (hk2 _ eo).symm hy4 hl w) v4 hv4 M hf hl w
set_option maxRecDepth 100000 in
set_option maxHeartbeats 4000000 in
theorem b_X4_prepare_j83k26 (X : CX p s m args c cX4_prepare 5 RX4 D aC ad sg A H0) (p1 : Int) (hp1 : isRu p1) {o : (Int × Mem) ⊕ (Int × Mem)} (HC : ∀ (y3 : Int) (M1 : Mem) (H : Heap) (locs : List Loc) (ls : Array Slot), o = .inl (y3, M1) → inR y3 → lv_has ls 5 [(0, .ref (ad 30)), (3, .int (i2 y3))] → WS D aC ad A H0 M1 H locs → W p l e rm_X4_prepare s m args below meth c H locs 0 0 Q (F0 m 26 ls [])) (HE : ∀ (y3 : Int) (M1 : Mem) (H : Heap) (locs : List Loc) (ls : Array Slot), o = .inr (y3, M1) → inR y3 → lv_has ls 5 [(0, .ref (ad 30)), (3, .int (i2 y3))] → WS D aC ad A H0 M1 H locs → W p l e rm_X4_prepare s m args below meth c H locs 0 0 Q (F0 m 89 ls [])) (v3 : Int) (hv3 : inR v3) (M : Mem) (hf : f_X4_prepare_j83k26 p1 v3 M = some o) {H : Heap} {locs : List Loc} {ls : Array Slot} (hl : lv_has ls 5 [(0, .ref (ad 30)), (3, .int (i2 v3))]) (w : WS D aC ad A H0 M H locs) : W p l e rm_X4_prepare s m args below meth c H locs 0 0 Q (F0 m 83 ls []) := by
  have hx := X.1.1
  have hb := X.1.2.1
  unfold f_X4_prepare_j83k26 at hf
  obtain ⟨v3_2, ev3_2, hf⟩ := lt_some hf
  have hv3_2 : inR v3_2 := inR_of ev3_2 (inR_wrap _)
  refine lv_iinc (v := i2 v3_2) (lv' := [(3, .int (i2 v3_2)), (0, .ref (ad 30))]) hx hb dX4_prepare_83 hl (k := 1) rfl (by rw [ev3_2]; exact i2_add _ _) (by decide) rfl (fun ls hl => ?_)
  refine lv_goto (tgt := 26) hx hb dX4_prepare_86 (by decide) ?_
  exact HC v3_2 M _ _ _ (Option.some.inj hf).symm hv3_2 (lv_sub hl [1, 0] rfl) w
set_option maxRecDepth 100000 in
set_option maxHeartbeats 4000000 in
theorem b_X4_prepare_s26 (X : CX p s m args c cX4_prepare 5 RX4 D aC ad sg A H0) (p1 : Int) (hp1 : isRu p1) {o : (Int × Mem) ⊕ (Int × Mem)} (HC : ∀ (y3 : Int) (M1 : Mem) (H : Heap) (locs : List Loc) (ls : Array Slot), o = .inl (y3, M1) → inR y3 → lv_has ls 5 [(0, .ref (ad 30)), (3, .int (i2 y3))] → WS D aC ad A H0 M1 H locs → W p l e rm_X4_prepare s m args below meth c H locs 0 0 Q (F0 m 26 ls [])) (HE : ∀ (y3 : Int) (M1 : Mem) (H : Heap) (locs : List Loc) (ls : Array Slot), o = .inr (y3, M1) → inR y3 → lv_has ls 5 [(0, .ref (ad 30)), (3, .int (i2 y3))] → WS D aC ad A H0 M1 H locs → W p l e rm_X4_prepare s m args below meth c H locs 0 0 Q (F0 m 89 ls [])) (v3 : Int) (hv3 : inR v3) (M : Mem) (hf : f_X4_prepare_s26 p1 v3 M = some o) {H : Heap} {locs : List Loc} {ls : Array Slot} (hl : lv_has ls 5 [(0, .ref (ad 30)), (3, .int (i2 v3))]) (w : WS D aC ad A H0 M H locs) : W p l e rm_X4_prepare s m args below meth c H locs 0 0 Q (F0 m 26 ls []) := by
  have hx := X.1.1
  have hb := X.1.2.1
  unfold f_X4_prepare_s26 at hf
  refine lv_iload_n hx hb dX4_prepare_26 rfl (lv_at hl 1 rfl) ?_
  refine g_bipush X dX4_prepare_27 (by decide) ?_
  refine g_icmp_ge (tgt := 89) X hv3 (inL rfl) dX4_prepare_29 (by decide) (fun cd => ?_) (fun cd => ?_)
  · replace hf := ite_t cd hf
    exact HE v3 M _ _ _ (Option.some.inj hf).symm hv3 hl w
  · replace hf := ite_f cd hf
    refine lv_aload_n hx hb dX4_prepare_32 rfl (lv_at hl 0 rfl) ?_
    obtain ⟨hru, hf⟩ := gd_some hf
    refine g_getd X w fg_X4_34 KD_30 FR_30_2 hru dX4_prepare_33 ?_
    refine lv_iload_n hx hb dX4_prepare_36 rfl (lv_at hl 1 rfl) ?_
    obtain ⟨r, hc, hf⟩ := obn_some hf
    refine g_cvi (As := [.int (i2 v3)]) (rest := []) X w (k_X7_uses X.2.2.1 (M 30 2) hru v3 hv3 w.2.2 hc) lk_X4_52 cl_7 (KD_ru hru) ⟨rfl, rfl⟩ ⟨nle rfl, nle rfl⟩ ⟨nle rfl, nle rfl⟩ hl.1 rfl (nle rfl) dX4_prepare_37 (fun hr H locs w => ?_)
    refine g_if_eq (tgt := 83) X hr dX4_prepare_40 (by decide) (fun cd_2 => ?_) (fun cd_2 => ?_)
    · replace hf := ite_t cd_2 hf
      obtain ⟨v3_2, ev3_2, hf⟩ := lt_some hf
      have hv3_2 : inR v3_2 := inR_of ev3_2 (inR_wrap _)
      refine lv_iinc (v := i2 v3_2) (lv' := [(3, .int (i2 v3_2)), (0, .ref (ad 30))]) hx hb dX4_prepare_83 hl (k := 1) rfl (by rw [ev3_2]; exact i2_add _ _) (by decide) rfl (fun ls hl => ?_)
      refine lv_goto (tgt := 26) hx hb dX4_prepare_86 (by decide) ?_
      exact HC v3_2 M _ _ _ (Option.some.inj hf).symm hv3_2 (lv_sub hl [1, 0] rfl) w
    · replace hf := ite_f cd_2 hf
      refine g_iconst X dX4_prepare_43 ?_
      refine g_ist (v := 0) (lv' := [(4, .int (i2 0)), (0, .ref (ad 30)), (3, .int (i2 v3))]) X rfl dX4_prepare_44 hl (by decide) rfl (fun ls hl => ?_)
      obtain ⟨q, hq, h1⟩ := obn_some hf
      exact l_X4_prepare_46 X p1 hp1 v3 hv3 (out := q) (fun y4 M1 H locs ls eq hy4 hl w => b_X4_prepare_j83k26 X p1 hp1 HC HE v3 hv3 M1 (by subst eq; exact h1) (lv_sub hl [0, 1] rfl) w)  FU 0 M hq (inL rfl) (lv_sub hl [1, 2, 0] rfl) w
set_option maxRecDepth 100000 in
set_option maxHeartbeats 4000000 in
theorem l_X4_prepare_26 (X : CX p s m args c cX4_prepare 5 RX4 D aC ad sg A H0) (p1 : Int) (hp1 : isRu p1) {out : Int × Mem} (HE : ∀ (y3 : Int) (M1 : Mem) (H : Heap) (locs : List Loc) (ls : Array Slot), out = (y3, M1) → inR y3 → lv_has ls 5 [(0, .ref (ad 30)), (3, .int (i2 y3))] → WS D aC ad A H0 M1 H locs → W p l e rm_X4_prepare s m args below meth c H locs 0 0 Q (F0 m 89 ls [])) : ∀ (n : Nat) (v3 : Int) (M : Mem), whl (fun s => f_X4_prepare_s26 p1 s.1 s.2) n (v3, M) = some out → inR v3 → ∀ {H : Heap} {locs : List Loc} {ls : Array Slot}, lv_has ls 5 [(0, .ref (ad 30)), (3, .int (i2 v3))] → WS D aC ad A H0 M H locs → W p l e rm_X4_prepare s m args below meth c H locs 0 0 Q (F0 m 26 ls []) := by
  intro n
  induction n with
  | zero => intro v3 M hf; exact (whl_zero hf).elim
  | succ n ih =>
    intro v3 M hf hv3 H locs ls hl w
    obtain ⟨o, hf, hk1, hk2⟩ := whl_step hf
    exact b_X4_prepare_s26 X p1 hp1 (fun y3 M1 H locs ls eo hy3 hl w => ih y3 M1 (hk1 _ eo) hy3 hl w) (fun y3 M1 H locs ls eo hy3 hl w => HE y3 M1 H locs ls (hk2 _ eo).symm hy3 hl w) v3 hv3 M hf hl w
set_option maxRecDepth 100000 in
set_option maxHeartbeats 4000000 in
theorem b_X4_prepare_s91 (X : CX p s m args c cX4_prepare 5 RX4 D aC ad sg A H0) (p1 : Int) (hp1 : isRu p1) {o : (Int × Mem) ⊕ (Int × Mem)} (HC : ∀ (y3 : Int) (M1 : Mem) (H : Heap) (locs : List Loc) (ls : Array Slot), o = .inl (y3, M1) → inR y3 → lv_has ls 5 [(0, .ref (ad 30)), (3, .int (i2 y3))] → WS D aC ad A H0 M1 H locs → W p l e rm_X4_prepare s m args below meth c H locs 0 0 Q (F0 m 91 ls [])) (HE : ∀ (y3 : Int) (M1 : Mem) (H : Heap) (locs : List Loc) (ls : Array Slot), o = .inr (y3, M1) → inR y3 → lv_has ls 5 [(0, .ref (ad 30)), (3, .int (i2 y3))] → WS D aC ad A H0 M1 H locs → W p l e rm_X4_prepare s m args below meth c H locs 0 0 Q (F0 m 122 ls [])) (v3 : Int) (hv3 : inR v3) (M : Mem) (hf : f_X4_prepare_s91 p1 v3 M = some o) {H : Heap} {locs : List Loc} {ls : Array Slot} (hl : lv_has ls 5 [(0, .ref (ad 30)), (3, .int (i2 v3))]) (w : WS D aC ad A H0 M H locs) : W p l e rm_X4_prepare s m args below meth c H locs 0 0 Q (F0 m 91 ls []) := by
  have hx := X.1.1
  have hb := X.1.2.1
  unfold f_X4_prepare_s91 at hf
  refine lv_iload_n hx hb dX4_prepare_91 rfl (lv_at hl 1 rfl) ?_
  refine lv_aload_n hx hb dX4_prepare_92 rfl (lv_at hl 0 rfl) ?_
  refine g_getr X w fg_X4_26 KD_30 FR_30_0 dX4_prepare_93 ?_
  refine g_geti X w fg_X4_56 KD_3 FR_3_0 dX4_prepare_96 ?_
  refine g_icmp_ge (tgt := 122) X hv3 (w.2.2 _ _) dX4_prepare_99 (by decide) (fun cd => ?_) (fun cd => ?_)
  · replace hf := ite_t cd hf
    exact HE v3 M _ _ _ (Option.some.inj hf).symm hv3 hl w
  · replace hf := ite_f cd hf
    refine lv_aload_n hx hb dX4_prepare_102 rfl (lv_at hl 0 rfl) ?_
    refine g_getr X w fg_X4_15 KD_30 FR_30_5 dX4_prepare_103 ?_
    refine lv_iload_n hx hb dX4_prepare_106 rfl (lv_at hl 1 rfl) ?_
    refine lv_aload_n hx hb dX4_prepare_107 rfl (lv_at hl 0 rfl) ?_
    refine g_getr X w fg_X4_26 KD_30 FR_30_0 dX4_prepare_108 ?_
    refine lv_iload_n hx hb dX4_prepare_111 rfl (lv_at hl 1 rfl) ?_
    obtain ⟨r, hc, hf⟩ := obn_some hf
    refine g_cvi (As := [.int (i2 v3)]) (rest := [.int (i2 v3), .ref (ad 32)]) X w (k_X1_wishedOnes X.2.2.1 v3 hv3 w.2.2 hc) lk_X4_65 cl_1 KD_3 ⟨rfl, rfl⟩ ⟨nle rfl, nle rfl⟩ ⟨nle rfl, nle rfl⟩ hl.1 rfl (nle rfl) dX4_prepare_112 (fun hr H locs w => ?_)
    obtain ⟨hg, hf⟩ := gd_some hf
    obtain ⟨M_2, eM_2, hf⟩ := lt_some hf
    refine g_iast X w KD_32 hv3 hg hr dX4_prepare_115 (fun H locs w_M_2 => ?_)
    rw [← eM_2] at w_M_2
    obtain ⟨v3_2, ev3_2, hf⟩ := lt_some hf
    have hv3_2 : inR v3_2 := inR_of ev3_2 (inR_wrap _)
    refine lv_iinc (v := i2 v3_2) (lv' := [(3, .int (i2 v3_2)), (0, .ref (ad 30))]) hx hb dX4_prepare_116 hl (k := 1) rfl (by rw [ev3_2]; exact i2_add _ _) (by decide) rfl (fun ls hl => ?_)
    refine lv_goto (tgt := 91) hx hb dX4_prepare_119 (by decide) ?_
    exact HC v3_2 M_2 _ _ _ (Option.some.inj hf).symm hv3_2 (lv_sub hl [1, 0] rfl) w_M_2
set_option maxRecDepth 100000 in
set_option maxHeartbeats 4000000 in
theorem l_X4_prepare_91 (X : CX p s m args c cX4_prepare 5 RX4 D aC ad sg A H0) (p1 : Int) (hp1 : isRu p1) {out : Int × Mem} (HE : ∀ (y3 : Int) (M1 : Mem) (H : Heap) (locs : List Loc) (ls : Array Slot), out = (y3, M1) → inR y3 → lv_has ls 5 [(0, .ref (ad 30)), (3, .int (i2 y3))] → WS D aC ad A H0 M1 H locs → W p l e rm_X4_prepare s m args below meth c H locs 0 0 Q (F0 m 122 ls [])) : ∀ (n : Nat) (v3 : Int) (M : Mem), whl (fun s => f_X4_prepare_s91 p1 s.1 s.2) n (v3, M) = some out → inR v3 → ∀ {H : Heap} {locs : List Loc} {ls : Array Slot}, lv_has ls 5 [(0, .ref (ad 30)), (3, .int (i2 v3))] → WS D aC ad A H0 M H locs → W p l e rm_X4_prepare s m args below meth c H locs 0 0 Q (F0 m 91 ls []) := by
  intro n
  induction n with
  | zero => intro v3 M hf; exact (whl_zero hf).elim
  | succ n ih =>
    intro v3 M hf hv3 H locs ls hl w
    obtain ⟨o, hf, hk1, hk2⟩ := whl_step hf
    exact b_X4_prepare_s91 X p1 hp1 (fun y3 M1 H locs ls eo hy3 hl w => ih y3 M1 (hk1 _ eo) hy3 hl w) (fun y3 M1 H locs ls eo hy3 hl w => HE y3 M1 H locs ls (hk2 _ eo).symm hy3 hl w) v3 hv3 M hf hl w
set_option maxRecDepth 100000 in
set_option maxHeartbeats 4000000 in
theorem b_X4_prepare_s124 (X : CX p s m args c cX4_prepare 5 RX4 D aC ad sg A H0) (p1 : Int) (hp1 : isRu p1) {o : (Int × Mem) ⊕ (Int × Mem)} (HC : ∀ (y3 : Int) (M1 : Mem) (H : Heap) (locs : List Loc) (ls : Array Slot), o = .inl (y3, M1) → inR y3 → lv_has ls 5 [(0, .ref (ad 30)), (3, .int (i2 y3))] → WS D aC ad A H0 M1 H locs → W p l e rm_X4_prepare s m args below meth c H locs 0 0 Q (F0 m 124 ls [])) (HE : ∀ (y3 : Int) (M1 : Mem) (H : Heap) (locs : List Loc) (ls : Array Slot), o = .inr (y3, M1) → inR y3 → lv_has ls 5 [(0, .ref (ad 30)), (3, .int (i2 y3))] → WS D aC ad A H0 M1 H locs → W p l e rm_X4_prepare s m args below meth c H locs 0 0 Q (F0 m 169 ls [])) (v3 : Int) (hv3 : inR v3) (M : Mem) (hf : f_X4_prepare_s124 p1 v3 M = some o) {H : Heap} {locs : List Loc} {ls : Array Slot} (hl : lv_has ls 5 [(0, .ref (ad 30)), (3, .int (i2 v3))]) (w : WS D aC ad A H0 M H locs) : W p l e rm_X4_prepare s m args below meth c H locs 0 0 Q (F0 m 124 ls []) := by
  have hx := X.1.1
  have hb := X.1.2.1
  unfold f_X4_prepare_s124 at hf
  refine lv_iload_n hx hb dX4_prepare_124 rfl (lv_at hl 1 rfl) ?_
  refine lv_aload_n hx hb dX4_prepare_125 rfl (lv_at hl 0 rfl) ?_
  obtain ⟨hru, hf⟩ := gd_some hf
  refine g_getd X w fg_X4_34 KD_30 FR_30_2 hru dX4_prepare_126 ?_
  refine g_geti X w fg_X4_69 (KD_ru hru) (FR_ru_0 hru) dX4_prepare_129 ?_
  refine g_icmp_ge (tgt := 169) X hv3 (w.2.2 _ _) dX4_prepare_132 (by decide) (fun cd => ?_) (fun cd => ?_)
  · replace hf := ite_t cd hf
    exact HE v3 M _ _ _ (Option.some.inj hf).symm hv3 hl w
  · replace hf := ite_f cd hf
    refine lv_aload_n hx hb dX4_prepare_135 rfl (lv_at hl 0 rfl) ?_
    refine g_getr X w fg_X4_20 KD_30 FR_30_6 dX4_prepare_136 ?_
    refine lv_iload_n hx hb dX4_prepare_139 rfl (lv_at hl 1 rfl) ?_
    refine lv_aload_n hx hb dX4_prepare_140 rfl (lv_at hl 0 rfl) ?_
    refine g_iconst X dX4_prepare_141 ?_
    refine lv_iload_n hx hb dX4_prepare_142 rfl (lv_at hl 1 rfl) ?_
    refine g_imul X dX4_prepare_143 ?_
    obtain ⟨r, hc, hf⟩ := obn_some hf
    refine g_cvi (As := [.int (i2 (wrap (2 * v3)))]) (rest := [.int (i2 v3), .ref (ad 33)]) X w (k_X4_holders X.2.2.1 (wrap (2 * v3)) (inR_wrap _) w.2.2 hc) lk_X4_70 cl_4 KD_30 ⟨rfl, rfl⟩ ⟨nle rfl, nle rfl⟩ ⟨nle rfl, nle rfl⟩ hl.1 rfl (nle rfl) dX4_prepare_144 (fun hr H locs w => ?_)
    obtain ⟨hg, hf⟩ := gd_some hf
    obtain ⟨M_2, eM_2, hf⟩ := lt_some hf
    refine g_iast X w KD_33 hv3 hg hr dX4_prepare_147 (fun H locs w_M_2 => ?_)
    rw [← eM_2] at w_M_2
    refine lv_aload_n hx hb dX4_prepare_148 rfl (lv_at hl 0 rfl) ?_
    refine g_getr X w_M_2 fg_X4_23 KD_30 FR_30_7 dX4_prepare_149 ?_
    refine lv_iload_n hx hb dX4_prepare_152 rfl (lv_at hl 1 rfl) ?_
    refine lv_aload_n hx hb dX4_prepare_153 rfl (lv_at hl 0 rfl) ?_
    refine g_iconst X dX4_prepare_154 ?_
    refine lv_iload_n hx hb dX4_prepare_155 rfl (lv_at hl 1 rfl) ?_
    refine g_imul X dX4_prepare_156 ?_
    refine g_iconst X dX4_prepare_157 ?_
    refine g_iadd X dX4_prepare_158 ?_
    obtain ⟨r_2, hc, hf⟩ := obn_some hf
    refine g_cvi (As := [.int (i2 (wrap ((wrap (2 * v3)) + 1)))]) (rest := [.int (i2 v3), .ref (ad 34)]) X w_M_2 (k_X4_holders X.2.2.1 (wrap ((wrap (2 * v3)) + 1)) (inR_wrap _) w_M_2.2.2 hc) lk_X4_70 cl_4 KD_30 ⟨rfl, rfl⟩ ⟨nle rfl, nle rfl⟩ ⟨nle rfl, nle rfl⟩ hl.1 rfl (nle rfl) dX4_prepare_159 (fun hr_2 H locs w_M_2 => ?_)
    obtain ⟨hg_2, hf⟩ := gd_some hf
    obtain ⟨M_3, eM_3, hf⟩ := lt_some hf
    refine g_iast X w_M_2 KD_34 hv3 hg_2 hr_2 dX4_prepare_162 (fun H locs w_M_3 => ?_)
    rw [← eM_3] at w_M_3
    obtain ⟨v3_2, ev3_2, hf⟩ := lt_some hf
    have hv3_2 : inR v3_2 := inR_of ev3_2 (inR_wrap _)
    refine lv_iinc (v := i2 v3_2) (lv' := [(3, .int (i2 v3_2)), (0, .ref (ad 30))]) hx hb dX4_prepare_163 hl (k := 1) rfl (by rw [ev3_2]; exact i2_add _ _) (by decide) rfl (fun ls hl => ?_)
    refine lv_goto (tgt := 124) hx hb dX4_prepare_166 (by decide) ?_
    exact HC v3_2 M_3 _ _ _ (Option.some.inj hf).symm hv3_2 (lv_sub hl [1, 0] rfl) w_M_3
set_option maxRecDepth 100000 in
set_option maxHeartbeats 4000000 in
theorem l_X4_prepare_124 (X : CX p s m args c cX4_prepare 5 RX4 D aC ad sg A H0) (p1 : Int) (hp1 : isRu p1) {out : Int × Mem} (HE : ∀ (y3 : Int) (M1 : Mem) (H : Heap) (locs : List Loc) (ls : Array Slot), out = (y3, M1) → inR y3 → lv_has ls 5 [(0, .ref (ad 30)), (3, .int (i2 y3))] → WS D aC ad A H0 M1 H locs → W p l e rm_X4_prepare s m args below meth c H locs 0 0 Q (F0 m 169 ls [])) : ∀ (n : Nat) (v3 : Int) (M : Mem), whl (fun s => f_X4_prepare_s124 p1 s.1 s.2) n (v3, M) = some out → inR v3 → ∀ {H : Heap} {locs : List Loc} {ls : Array Slot}, lv_has ls 5 [(0, .ref (ad 30)), (3, .int (i2 v3))] → WS D aC ad A H0 M H locs → W p l e rm_X4_prepare s m args below meth c H locs 0 0 Q (F0 m 124 ls []) := by
  intro n
  induction n with
  | zero => intro v3 M hf; exact (whl_zero hf).elim
  | succ n ih =>
    intro v3 M hf hv3 H locs ls hl w
    obtain ⟨o, hf, hk1, hk2⟩ := whl_step hf
    exact b_X4_prepare_s124 X p1 hp1 (fun y3 M1 H locs ls eo hy3 hl w => ih y3 M1 (hk1 _ eo) hy3 hl w) (fun y3 M1 H locs ls eo hy3 hl w => HE y3 M1 H locs ls (hk2 _ eo).symm hy3 hl w) v3 hv3 M hf hl w
set_option maxRecDepth 100000 in
set_option maxHeartbeats 4000000 in
theorem b_X4_prepare_j169 (X : CX p s m args c cX4_prepare 5 RX4 D aC ad sg A H0) (p1 : Int) (hp1 : isRu p1) {o : Mem} (HR : ∀ (M1 : Mem) (H : Heap) (locs : List Loc) (pc : Nat) (ls : Array Slot), o = M1 → WS D aC ad A H0 M1 H locs → decode cX4_prepare pc = .ok (.return_, 1) → W p l e rm_X4_prepare s m args below meth c H locs 0 0 Q (F0 m pc ls [])) (M : Mem) (hf : f_X4_prepare_j169 p1 M = some o) {H : Heap} {locs : List Loc} {ls : Array Slot} (hl : lv_has ls 5 []) (w : WS D aC ad A H0 M H locs) : W p l e rm_X4_prepare s m args below meth c H locs 0 0 Q (F0 m 169 ls []) := by
  have hx := X.1.1
  have hb := X.1.2.1
  unfold f_X4_prepare_j169 at hf
  exact HR M _ _ _ _ (Option.some.inj hf).symm w dX4_prepare_169
set_option maxRecDepth 100000 in
set_option maxHeartbeats 4000000 in
theorem b_X4_prepare_j122 (X : CX p s m args c cX4_prepare 5 RX4 D aC ad sg A H0) (p1 : Int) (hp1 : isRu p1) {o : Mem} (HR : ∀ (M1 : Mem) (H : Heap) (locs : List Loc) (pc : Nat) (ls : Array Slot), o = M1 → WS D aC ad A H0 M1 H locs → decode cX4_prepare pc = .ok (.return_, 1) → W p l e rm_X4_prepare s m args below meth c H locs 0 0 Q (F0 m pc ls [])) (M : Mem) (hf : f_X4_prepare_j122 p1 M = some o) {H : Heap} {locs : List Loc} {ls : Array Slot} (hl : lv_has ls 5 [(0, .ref (ad 30))]) (w : WS D aC ad A H0 M H locs) : W p l e rm_X4_prepare s m args below meth c H locs 0 0 Q (F0 m 122 ls []) := by
  have hx := X.1.1
  have hb := X.1.2.1
  unfold f_X4_prepare_j122 at hf
  refine g_iconst X dX4_prepare_122 ?_
  refine g_istn (v := 0) (lv' := [(3, .int (i2 0)), (0, .ref (ad 30))]) X rfl dX4_prepare_123 rfl hl (by decide) rfl (fun ls hl => ?_)
  obtain ⟨q, hq, h1⟩ := obn_some hf
  exact l_X4_prepare_124 X p1 hp1 (out := q) (fun y3 M1 H locs ls eq hy3 hl w => b_X4_prepare_j169 X p1 hp1 HR M1 (by subst eq; exact h1) (lv_sub hl [] rfl) w)  FU 0 M hq (inL rfl) (lv_sub hl [1, 0] rfl) w
set_option maxRecDepth 100000 in
set_option maxHeartbeats 4000000 in
theorem b_X4_prepare_j89 (X : CX p s m args c cX4_prepare 5 RX4 D aC ad sg A H0) (p1 : Int) (hp1 : isRu p1) {o : Mem} (HR : ∀ (M1 : Mem) (H : Heap) (locs : List Loc) (pc : Nat) (ls : Array Slot), o = M1 → WS D aC ad A H0 M1 H locs → decode cX4_prepare pc = .ok (.return_, 1) → W p l e rm_X4_prepare s m args below meth c H locs 0 0 Q (F0 m pc ls [])) (M : Mem) (hf : f_X4_prepare_j89 p1 M = some o) {H : Heap} {locs : List Loc} {ls : Array Slot} (hl : lv_has ls 5 [(0, .ref (ad 30))]) (w : WS D aC ad A H0 M H locs) : W p l e rm_X4_prepare s m args below meth c H locs 0 0 Q (F0 m 89 ls []) := by
  have hx := X.1.1
  have hb := X.1.2.1
  unfold f_X4_prepare_j89 at hf
  refine g_iconst X dX4_prepare_89 ?_
  refine g_istn (v := 0) (lv' := [(3, .int (i2 0)), (0, .ref (ad 30))]) X rfl dX4_prepare_90 rfl hl (by decide) rfl (fun ls hl => ?_)
  obtain ⟨q, hq, h1⟩ := obn_some hf
  exact l_X4_prepare_91 X p1 hp1 (out := q) (fun y3 M1 H locs ls eq hy3 hl w => b_X4_prepare_j122 X p1 hp1 HR M1 (by subst eq; exact h1) (lv_sub hl [0] rfl) w)  FU 0 M hq (inL rfl) (lv_sub hl [1, 0] rfl) w
set_option maxRecDepth 100000 in
set_option maxHeartbeats 4000000 in
theorem b_X4_prepare_0 (X : CX p s m args c cX4_prepare 5 RX4 D aC ad sg A H0) (p1 : Int) (hp1 : isRu p1) {o : Mem} (HR : ∀ (M1 : Mem) (H : Heap) (locs : List Loc) (pc : Nat) (ls : Array Slot), o = M1 → WS D aC ad A H0 M1 H locs → decode cX4_prepare pc = .ok (.return_, 1) → W p l e rm_X4_prepare s m args below meth c H locs 0 0 Q (F0 m pc ls [])) (p2 : Int) (hp2 : inR p2) (M : Mem) (hf : f_X4_prepare p1 p2 M = some o) {H : Heap} {locs : List Loc} {ls : Array Slot} (hl : lv_has ls 5 [(0, .ref (ad 30)), (1, .ref (ad p1.toNat)), (2, .int (i2 p2))]) (w : WS D aC ad A H0 M H locs) : W p l e rm_X4_prepare s m args below meth c H locs 0 0 Q (F0 m 0 ls []) := by
  have hx := X.1.1
  have hb := X.1.2.1
  unfold f_X4_prepare at hf
  refine lv_aload_n hx hb dX4_prepare_0 rfl (lv_at hl 0 rfl) ?_
  refine lv_aload_n hx hb dX4_prepare_1 rfl (lv_at hl 1 rfl) ?_
  obtain ⟨M_2, eM_2, hf⟩ := lt_some hf
  refine g_putd X w fp_X4_34 KD_30 FR_30_2 hp1 dX4_prepare_2 (fun H locs w_M_2 => ?_)
  rw [← eM_2] at w_M_2
  refine lv_aload_n hx hb dX4_prepare_5 rfl (lv_at hl 0 rfl) ?_
  refine lv_aload_n hx hb dX4_prepare_6 rfl (lv_at hl 0 rfl) ?_
  obtain ⟨hru, hf⟩ := gd_some hf
  refine g_getd X w_M_2 fg_X4_34 KD_30 FR_30_2 hru dX4_prepare_7 ?_
  obtain ⟨r, hc, hf⟩ := obn_some hf
  refine g_cvi (As := []) (rest := [.ref (ad 30)]) X w_M_2 (k_X7_twinsHow X.2.2.1 (M_2 30 2) hru w_M_2.2.2 hc) lk_X4_38 cl_7 (KD_ru hru) ⟨rfl, rfl⟩ ⟨nle rfl, nle rfl⟩ ⟨nle rfl, nle rfl⟩ hl.1 rfl (nle rfl) dX4_prepare_10 (fun hr H locs w_M_2 => ?_)
  obtain ⟨M_3, eM_3, hf⟩ := lt_some hf
  refine g_puti X w_M_2 fp_X4_42 KD_30 FR_30_3 hr dX4_prepare_13 (fun H locs w_M_3 => ?_)
  rw [← eM_3] at w_M_3
  refine lv_aload_n hx hb dX4_prepare_16 rfl (lv_at hl 0 rfl) ?_
  refine g_getr X w_M_3 fg_X4_30 KD_30 FR_30_1 dX4_prepare_17 ?_
  refine lv_iload_n hx hb dX4_prepare_20 rfl (lv_at hl 2 rfl) ?_
  obtain ⟨M_4, hc, hf⟩ := obn_some hf
  refine g_cvv (As := [.int (i2 p2)]) (rest := []) X w_M_3 (k_X5_learn X.2.2.1 p2 hp2 w_M_3.2.2 hc) lk_X4_46 cl_5 KD_17 ⟨rfl, rfl⟩ ⟨nle rfl, nle rfl⟩ ⟨nle rfl, nle rfl⟩ hl.1 rfl (nle rfl) dX4_prepare_21 (fun H locs w_M_4 => ?_)
  refine g_iconst X dX4_prepare_24 ?_
  refine g_istn (v := 0) (lv' := [(3, .int (i2 0)), (0, .ref (ad 30)), (1, .ref (ad p1.toNat)), (2, .int (i2 p2))]) X rfl dX4_prepare_25 rfl hl (by decide) rfl (fun ls hl => ?_)
  obtain ⟨q, hq, h1⟩ := obn_some hf
  exact l_X4_prepare_26 X p1 hp1 (out := q) (fun y3 M1 H locs ls eq hy3 hl w => b_X4_prepare_j89 X p1 hp1 HR M1 (by subst eq; exact h1) (lv_sub hl [0] rfl) w)  FU 0 M_4 hq (inL rfl) (lv_sub hl [1, 0] rfl) w_M_4
set_option maxRecDepth 100000 in
set_option maxHeartbeats 4000000 in
theorem k_X4_prepare {l : Launch} {D : va_G} {aC : Nat → ClassId} {ad : Nat → Nat} {sg : SG} (hi : Inj ad) (p1 : Int) (hp1 : isRu p1) (p2 : Int) (hp2 : inR p2) {M : Mem} (hM : inM M) {M' : Mem} (hf : f_X4_prepare p1 p2 M = some M') : MetV l D aC ad sg yX4_prepare cX4_prepare 5 rm_X4_prepare 0 0 [.ref (ad 30), .ref (ad p1.toNat), .int (i2 p2)] M M' := by
  refine MetV.of (by decide +kernel) (nle rfl) hi hM (fun p e s m args below meth c Q H0 ls X hl w hret => ?_)
  exact b_X4_prepare_0 X p1 hp1 (fun M1 H locs pc ls eo w dg => by cases eo; exact hret H locs pc ls w dg) p2 hp2 M hf hl w
set_option maxRecDepth 100000 in
set_option maxHeartbeats 4000000 in
theorem b_X4_hasNoPair_j61k2 (X : CX p s m args c cX4_hasNoPair 4 RX4 D aC ad sg A H0) (v1 : Int) (hv1 : inR v1) {M : Mem} {o : (Int) ⊕ ((Int) ⊕ (Int))} (HC : ∀ (y2 : Int) (H : Heap) (locs : List Loc) (ls : Array Slot), o = .inl y2 → inR y2 → lv_has ls 4 [(0, .ref (ad 30)), (1, .int (i2 v1)), (2, .int (i2 y2))] → WS D aC ad A H0 M H locs → W p l e rm_X4_hasNoPair s m args below meth c H locs 0 0 Q (F0 m 2 ls [])) (HE : ∀ (y2 : Int) (H : Heap) (locs : List Loc) (ls : Array Slot), o = .inr (.inl y2) → inR y2 → lv_has ls 4 [(0, .ref (ad 30)), (1, .int (i2 v1)), (2, .int (i2 y2))] → WS D aC ad A H0 M H locs → W p l e rm_X4_hasNoPair s m args below meth c H locs 0 0 Q (F0 m 76 ls [])) (HR : ∀ (r : Int) (H : Heap) (locs : List Loc) (pc : Nat) (ls : Array Slot), o = .inr (.inr r) → isZ r → WS D aC ad A H0 M H locs → decode cX4_hasNoPair pc = .ok (.ireturn, 1) → W p l e rm_X4_hasNoPair s m args below meth c H locs 0 0 Q (F0 m pc ls [.int (i2 r)])) (v2 : Int) (hv2 : inR v2) (s0 : Int) (hs0 : inR s0) (hf : f_X4_hasNoPair_j61k2 v1 v2 s0 M = some o) {H : Heap} {locs : List Loc} {ls : Array Slot} (hl : lv_has ls 4 [(0, .ref (ad 30)), (1, .int (i2 v1)), (2, .int (i2 v2))]) (w : WS D aC ad A H0 M H locs) : W p l e rm_X4_hasNoPair s m args below meth c H locs 0 0 Q (F0 m 61 ls [.int (i2 s0)]) := by
  have hx := X.1.1
  have hb := X.1.2.1
  unfold f_X4_hasNoPair_j61k2 at hf
  refine g_istn (v := s0) (lv' := [(3, .int (i2 s0)), (0, .ref (ad 30)), (1, .int (i2 v1)), (2, .int (i2 v2))]) X rfl dX4_hasNoPair_61 rfl hl (by decide) rfl (fun ls hl => ?_)
  refine lv_iload_n hx hb dX4_hasNoPair_62 rfl (lv_at hl 0 rfl) ?_
  refine lv_iload_n hx hb dX4_hasNoPair_63 rfl (lv_at hl 2 rfl) ?_
  refine g_iand X dX4_hasNoPair_64 ?_
  refine g_if_eq (tgt := 70) X (inR_toInt _) dX4_hasNoPair_65 (by decide) (fun cd => ?_) (fun cd => ?_)
  · replace hf := ite_t cd hf
    obtain ⟨v2_2, ev2_2, hf⟩ := lt_some hf
    have hv2_2 : inR v2_2 := inR_of ev2_2 (inR_wrap _)
    refine lv_iinc (v := i2 v2_2) (lv' := [(2, .int (i2 v2_2)), (3, .int (i2 s0)), (0, .ref (ad 30)), (1, .int (i2 v1))]) hx hb dX4_hasNoPair_70 hl (k := 3) rfl (by rw [ev2_2]; exact i2_add _ _) (by decide) rfl (fun ls hl => ?_)
    refine lv_goto (tgt := 2) hx hb dX4_hasNoPair_73 (by decide) ?_
    exact HC v2_2 _ _ _ (Option.some.inj hf).symm hv2_2 (lv_sub hl [2, 3, 0] rfl) w
  · replace hf := ite_f cd hf
    refine g_iconst X dX4_hasNoPair_68 ?_
    exact HR 0 _ _ _ _ (Option.some.inj hf).symm (Or.inl rfl) w dX4_hasNoPair_69
set_option maxRecDepth 100000 in
set_option maxHeartbeats 4000000 in
theorem b_X4_hasNoPair_s2 (X : CX p s m args c cX4_hasNoPair 4 RX4 D aC ad sg A H0) (v1 : Int) (hv1 : inR v1) {M : Mem} {o : (Int) ⊕ ((Int) ⊕ (Int))} (HC : ∀ (y2 : Int) (H : Heap) (locs : List Loc) (ls : Array Slot), o = .inl y2 → inR y2 → lv_has ls 4 [(0, .ref (ad 30)), (1, .int (i2 v1)), (2, .int (i2 y2))] → WS D aC ad A H0 M H locs → W p l e rm_X4_hasNoPair s m args below meth c H locs 0 0 Q (F0 m 2 ls [])) (HE : ∀ (y2 : Int) (H : Heap) (locs : List Loc) (ls : Array Slot), o = .inr (.inl y2) → inR y2 → lv_has ls 4 [(0, .ref (ad 30)), (1, .int (i2 v1)), (2, .int (i2 y2))] → WS D aC ad A H0 M H locs → W p l e rm_X4_hasNoPair s m args below meth c H locs 0 0 Q (F0 m 76 ls [])) (HR : ∀ (r : Int) (H : Heap) (locs : List Loc) (pc : Nat) (ls : Array Slot), o = .inr (.inr r) → isZ r → WS D aC ad A H0 M H locs → decode cX4_hasNoPair pc = .ok (.ireturn, 1) → W p l e rm_X4_hasNoPair s m args below meth c H locs 0 0 Q (F0 m pc ls [.int (i2 r)])) (v2 : Int) (hv2 : inR v2) (hf : f_X4_hasNoPair_s2 v1 M v2 = some o) {H : Heap} {locs : List Loc} {ls : Array Slot} (hl : lv_has ls 4 [(0, .ref (ad 30)), (1, .int (i2 v1)), (2, .int (i2 v2))]) (w : WS D aC ad A H0 M H locs) : W p l e rm_X4_hasNoPair s m args below meth c H locs 0 0 Q (F0 m 2 ls []) := by
  have hx := X.1.1
  have hb := X.1.2.1
  unfold f_X4_hasNoPair_s2 at hf
  refine lv_iload_n hx hb dX4_hasNoPair_2 rfl (lv_at hl 2 rfl) ?_
  refine lv_aload_n hx hb dX4_hasNoPair_3 rfl (lv_at hl 0 rfl) ?_
  refine g_getr X w fg_X4_26 KD_30 FR_30_0 dX4_hasNoPair_4 ?_
  refine g_geti X w fg_X4_56 KD_3 FR_3_0 dX4_hasNoPair_7 ?_
  refine g_icmp_ge (tgt := 76) X hv2 (w.2.2 _ _) dX4_hasNoPair_10 (by decide) (fun cd => ?_) (fun cd => ?_)
  · replace hf := ite_t cd hf
    exact HE v2 _ _ _ (Option.some.inj hf).symm hv2 hl w
  · replace hf := ite_f cd hf
    refine lv_iload_n hx hb dX4_hasNoPair_13 rfl (lv_at hl 1 rfl) ?_
    refine lv_iload_n hx hb dX4_hasNoPair_14 rfl (lv_at hl 2 rfl) ?_
    refine g_ishr X dX4_hasNoPair_15 ?_
    refine g_iconst X dX4_hasNoPair_16 ?_
    refine g_iand X dX4_hasNoPair_17 ?_
    refine g_if_eq (tgt := 70) X (inR_toInt _) dX4_hasNoPair_18 (by decide) (fun cd_2 => ?_) (fun cd_2 => ?_)
    · replace hf := ite_t cd_2 hf
      obtain ⟨v2_2, ev2_2, hf⟩ := lt_some hf
      have hv2_2 : inR v2_2 := inR_of ev2_2 (inR_wrap _)
      refine lv_iinc (v := i2 v2_2) (lv' := [(2, .int (i2 v2_2)), (0, .ref (ad 30)), (1, .int (i2 v1))]) hx hb dX4_hasNoPair_70 hl (k := 2) rfl (by rw [ev2_2]; exact i2_add _ _) (by decide) rfl (fun ls hl => ?_)
      refine lv_goto (tgt := 2) hx hb dX4_hasNoPair_73 (by decide) ?_
      exact HC v2_2 _ _ _ (Option.some.inj hf).symm hv2_2 (lv_sub hl [1, 2, 0] rfl) w
    · replace hf := ite_f cd_2 hf
      refine lv_aload_n hx hb dX4_hasNoPair_21 rfl (lv_at hl 0 rfl) ?_
      refine g_geti X w fg_X4_42 KD_30 FR_30_3 dX4_hasNoPair_22 ?_
      refine g_bipush X dX4_hasNoPair_25 (by decide) ?_
      refine g_icmp_ne (tgt := 52) X (w.2.2 _ _) (inL rfl) dX4_hasNoPair_27 (by decide) (fun cd_3 => ?_) (fun cd_3 => ?_)
      · replace hf := ite_f cd_3 hf
        refine lv_aload_n hx hb dX4_hasNoPair_52 rfl (lv_at hl 0 rfl) ?_
        refine g_getr X w fg_X4_26 KD_30 FR_30_0 dX4_hasNoPair_53 ?_
        refine g_getr X w fg_X4_196 KD_3 FR_3_7 dX4_hasNoPair_56 ?_
        refine lv_iload_n hx hb dX4_hasNoPair_59 rfl (lv_at hl 2 rfl) ?_
        obtain ⟨hg, hf⟩ := gd_some hf
        refine g_iald X w KD_10 hv2 hg dX4_hasNoPair_60 ?_
        exact b_X4_hasNoPair_j61k2 X v1 hv1 HC HE HR v2 hv2 (M 10 v2.toNat) (w.2.2 _ _) hf hl w
      · replace hf := ite_t cd_3 hf
        refine lv_aload_n hx hb dX4_hasNoPair_30 rfl (lv_at hl 0 rfl) ?_
        refine g_getr X w fg_X4_26 KD_30 FR_30_0 dX4_hasNoPair_31 ?_
        refine g_getr X w fg_X4_196 KD_3 FR_3_7 dX4_hasNoPair_34 ?_
        refine lv_iload_n hx hb dX4_hasNoPair_37 rfl (lv_at hl 2 rfl) ?_
        obtain ⟨hg_2, hf⟩ := gd_some hf
        refine g_iald X w KD_10 hv2 hg_2 dX4_hasNoPair_38 ?_
        refine lv_aload_n hx hb dX4_hasNoPair_39 rfl (lv_at hl 0 rfl) ?_
        refine g_getr X w fg_X4_26 KD_30 FR_30_0 dX4_hasNoPair_40 ?_
        refine g_getr X w fg_X4_199 KD_3 FR_3_8 dX4_hasNoPair_43 ?_
        refine lv_iload_n hx hb dX4_hasNoPair_46 rfl (lv_at hl 2 rfl) ?_
        obtain ⟨hg_3, hf⟩ := gd_some hf
        refine g_iald X w KD_11 hv2 hg_3 dX4_hasNoPair_47 ?_
        refine g_ior X dX4_hasNoPair_48 ?_
        refine lv_goto (tgt := 61) hx hb dX4_hasNoPair_49 (by decide) ?_
        exact b_X4_hasNoPair_j61k2 X v1 hv1 HC HE HR v2 hv2 (bor (M 10 v2.toNat) (M 11 v2.toNat)) (inR_toInt _) hf hl w
set_option maxRecDepth 100000 in
set_option maxHeartbeats 4000000 in
theorem l_X4_hasNoPair_2 (X : CX p s m args c cX4_hasNoPair 4 RX4 D aC ad sg A H0) (v1 : Int) (hv1 : inR v1) {M : Mem} {out : (Int) ⊕ (Int)} (HE : ∀ (y2 : Int) (H : Heap) (locs : List Loc) (ls : Array Slot), out = .inl y2 → inR y2 → lv_has ls 4 [(0, .ref (ad 30)), (1, .int (i2 v1)), (2, .int (i2 y2))] → WS D aC ad A H0 M H locs → W p l e rm_X4_hasNoPair s m args below meth c H locs 0 0 Q (F0 m 76 ls [])) (HR : ∀ (r : Int) (H : Heap) (locs : List Loc) (pc : Nat) (ls : Array Slot), out = .inr r → isZ r → WS D aC ad A H0 M H locs → decode cX4_hasNoPair pc = .ok (.ireturn, 1) → W p l e rm_X4_hasNoPair s m args below meth c H locs 0 0 Q (F0 m pc ls [.int (i2 r)])) : ∀ (n : Nat) (v2 : Int), whl (fun s => f_X4_hasNoPair_s2 v1 M s) n v2 = some out → inR v2 → ∀ {H : Heap} {locs : List Loc} {ls : Array Slot}, lv_has ls 4 [(0, .ref (ad 30)), (1, .int (i2 v1)), (2, .int (i2 v2))] → WS D aC ad A H0 M H locs → W p l e rm_X4_hasNoPair s m args below meth c H locs 0 0 Q (F0 m 2 ls []) := by
  intro n
  induction n with
  | zero => intro v2 hf; exact (whl_zero hf).elim
  | succ n ih =>
    intro v2 hf hv2 H locs ls hl w
    obtain ⟨o, hf, hk1, hk2⟩ := whl_step hf
    exact b_X4_hasNoPair_s2 X v1 hv1 (fun y2 H locs ls eo hy2 hl w => ih y2 (hk1 _ eo) hy2 hl w) (fun y2 H locs ls eo hy2 hl w => HE y2 H locs ls (hk2 _ eo).symm hy2 hl w) (fun r H locs pc ls eo hP w dg => HR r H locs pc ls (hk2 _ eo).symm hP w dg) v2 hv2 hf hl w
set_option maxRecDepth 100000 in
set_option maxHeartbeats 4000000 in
theorem b_X4_hasNoPair_j76 (X : CX p s m args c cX4_hasNoPair 4 RX4 D aC ad sg A H0) {M : Mem} {o : Int} (HR : ∀ (r : Int) (H : Heap) (locs : List Loc) (pc : Nat) (ls : Array Slot), o = r → isZ r → WS D aC ad A H0 M H locs → decode cX4_hasNoPair pc = .ok (.ireturn, 1) → W p l e rm_X4_hasNoPair s m args below meth c H locs 0 0 Q (F0 m pc ls [.int (i2 r)])) (hf : f_X4_hasNoPair_j76 M = some o) {H : Heap} {locs : List Loc} {ls : Array Slot} (hl : lv_has ls 4 []) (w : WS D aC ad A H0 M H locs) : W p l e rm_X4_hasNoPair s m args below meth c H locs 0 0 Q (F0 m 76 ls []) := by
  have hx := X.1.1
  have hb := X.1.2.1
  unfold f_X4_hasNoPair_j76 at hf
  refine g_iconst X dX4_hasNoPair_76 ?_
  exact HR 1 _ _ _ _ (Option.some.inj hf).symm (Or.inr rfl) w dX4_hasNoPair_77
set_option maxRecDepth 100000 in
set_option maxHeartbeats 4000000 in
theorem b_X4_hasNoPair_0 (X : CX p s m args c cX4_hasNoPair 4 RX4 D aC ad sg A H0) {M : Mem} {o : Int} (HR : ∀ (r : Int) (H : Heap) (locs : List Loc) (pc : Nat) (ls : Array Slot), o = r → isZ r → WS D aC ad A H0 M H locs → decode cX4_hasNoPair pc = .ok (.ireturn, 1) → W p l e rm_X4_hasNoPair s m args below meth c H locs 0 0 Q (F0 m pc ls [.int (i2 r)])) (p1 : Int) (hp1 : inR p1) (hf : f_X4_hasNoPair p1 M = some o) {H : Heap} {locs : List Loc} {ls : Array Slot} (hl : lv_has ls 4 [(0, .ref (ad 30)), (1, .int (i2 p1))]) (w : WS D aC ad A H0 M H locs) : W p l e rm_X4_hasNoPair s m args below meth c H locs 0 0 Q (F0 m 0 ls []) := by
  have hx := X.1.1
  have hb := X.1.2.1
  unfold f_X4_hasNoPair at hf
  refine g_iconst X dX4_hasNoPair_0 ?_
  refine g_istn (v := 0) (lv' := [(2, .int (i2 0)), (0, .ref (ad 30)), (1, .int (i2 p1))]) X rfl dX4_hasNoPair_1 rfl hl (by decide) rfl (fun ls hl => ?_)
  obtain ⟨q, hq, h1, h2⟩ := lpr_some hf
  exact l_X4_hasNoPair_2 X p1 hp1 (out := q) (fun y2 H locs ls eq hy2 hl w => b_X4_hasNoPair_j76 X  HR  (h1 _ eq) (lv_sub hl [] rfl) w) (fun r H locs pc ls eq hP w dg => HR r H locs pc ls (Option.some.inj (h2 _ eq)).symm hP w dg) FU 0 hq (inL rfl) (lv_sub hl [1, 2, 0] rfl) w
set_option maxRecDepth 100000 in
set_option maxHeartbeats 4000000 in
theorem k_X4_hasNoPair {l : Launch} {D : va_G} {aC : Nat → ClassId} {ad : Nat → Nat} {sg : SG} (hi : Inj ad) (p1 : Int) (hp1 : inR p1) {M : Mem} (hM : inM M) {r : Int} (hf : f_X4_hasNoPair p1 M = some r) : MetI l D aC ad sg yX4_hasNoPair cX4_hasNoPair 4 (some .boolean) rm_X4_hasNoPair 0 0 [.ref (ad 30), .int (i2 p1)] M r M := by
  refine MetI.ofZ (by decide +kernel) (nle rfl) hi hM (fun p e s m args below meth c Q H0 ls X hl w hret => ?_)
  exact b_X4_hasNoPair_0 X  (fun r1 H locs pc ls eo hP w dg => by cases eo; exact hret H locs pc ls hP w dg) p1 hp1 hf hl w
set_option maxRecDepth 100000 in
set_option maxHeartbeats 4000000 in
theorem b_X4_holdsTwo_j13 (X : CX p s m args c cX4_holdsTwo 3 RX4 D aC ad sg A H0) {M : Mem} {o : Int} (HR : ∀ (r : Int) (H : Heap) (locs : List Loc) (pc : Nat) (ls : Array Slot), o = r → isZ r → WS D aC ad A H0 M H locs → decode cX4_holdsTwo pc = .ok (.ireturn, 1) → W p l e rm_X4_holdsTwo s m args below meth c H locs 0 0 Q (F0 m pc ls [.int (i2 r)])) (v0 : Int) (hv0 : inR v0) (v1 : Int) (hv1 : inR v1) (s0 : Int) (hs0 : inR s0) (hf : f_X4_holdsTwo_j13 v0 v1 s0 M = some o) {H : Heap} {locs : List Loc} {ls : Array Slot} (hl : lv_has ls 3 [(0, .int (i2 v0)), (1, .int (i2 v1))]) (w : WS D aC ad A H0 M H locs) : W p l e rm_X4_holdsTwo s m args below meth c H locs 0 0 Q (F0 m 13 ls [.int (i2 s0)]) := by
  have hx := X.1.1
  have hb := X.1.2.1
  unfold f_X4_holdsTwo_j13 at hf
  refine g_istn (v := s0) (lv' := [(2, .int (i2 s0)), (0, .int (i2 v0)), (1, .int (i2 v1))]) X rfl dX4_holdsTwo_13 rfl hl (by decide) rfl (fun ls hl => ?_)
  refine lv_iload_n hx hb dX4_holdsTwo_14 rfl (lv_at hl 1 rfl) ?_
  refine g_if_eq (tgt := 35) X hv0 dX4_holdsTwo_15 (by decide) (fun cd => ?_) (fun cd => ?_)
  · replace hf := ite_t cd hf
    refine g_iconst X dX4_holdsTwo_35 ?_
    exact HR 0 _ _ _ _ (Option.some.inj hf).symm (Or.inl rfl) w dX4_holdsTwo_36
  · replace hf := ite_f cd hf
    refine lv_iload_n hx hb dX4_holdsTwo_18 rfl (lv_at hl 2 rfl) ?_
    refine g_if_eq (tgt := 35) X hv1 dX4_holdsTwo_19 (by decide) (fun cd_2 => ?_) (fun cd_2 => ?_)
    · replace hf := ite_t cd_2 hf
      refine g_iconst X dX4_holdsTwo_35 ?_
      exact HR 0 _ _ _ _ (Option.some.inj hf).symm (Or.inl rfl) w dX4_holdsTwo_36
    · replace hf := ite_f cd_2 hf
      refine lv_iload_n hx hb dX4_holdsTwo_22 rfl (lv_at hl 1 rfl) ?_
      refine lv_iload_n hx hb dX4_holdsTwo_23 rfl (lv_at hl 2 rfl) ?_
      refine g_icmp_ne (tgt := 31) X hv0 hv1 dX4_holdsTwo_24 (by decide) (fun cd_3 => ?_) (fun cd_3 => ?_)
      · replace hf := ite_f cd_3 hf
        refine g_iconst X dX4_holdsTwo_31 ?_
        refine lv_goto (tgt := 36) hx hb dX4_holdsTwo_32 (by decide) ?_
        exact HR 1 _ _ _ _ (Option.some.inj hf).symm (Or.inr rfl) w dX4_holdsTwo_36
      · replace hf := ite_t cd_3 hf
        refine lv_iload_n hx hb dX4_holdsTwo_27 rfl (lv_at hl 0 rfl) ?_
        refine g_if_ne (tgt := 35) X hs0 dX4_holdsTwo_28 (by decide) (fun cd_4 => ?_) (fun cd_4 => ?_)
        · replace hf := ite_f cd_4 hf
          refine g_iconst X dX4_holdsTwo_35 ?_
          exact HR 0 _ _ _ _ (Option.some.inj hf).symm (Or.inl rfl) w dX4_holdsTwo_36
        · replace hf := ite_t cd_4 hf
          refine g_iconst X dX4_holdsTwo_31 ?_
          refine lv_goto (tgt := 36) hx hb dX4_holdsTwo_32 (by decide) ?_
          exact HR 1 _ _ _ _ (Option.some.inj hf).symm (Or.inr rfl) w dX4_holdsTwo_36
set_option maxRecDepth 100000 in
set_option maxHeartbeats 4000000 in
theorem b_X4_holdsTwo_0 (X : CX p s m args c cX4_holdsTwo 3 RX4 D aC ad sg A H0) {M : Mem} {o : Int} (HR : ∀ (r : Int) (H : Heap) (locs : List Loc) (pc : Nat) (ls : Array Slot), o = r → isZ r → WS D aC ad A H0 M H locs → decode cX4_holdsTwo pc = .ok (.ireturn, 1) → W p l e rm_X4_holdsTwo s m args below meth c H locs 0 0 Q (F0 m pc ls [.int (i2 r)])) (p0 : Int) (hp0 : inR p0) (p1 : Int) (hp1 : inR p1) (hf : f_X4_holdsTwo p0 p1 M = some o) {H : Heap} {locs : List Loc} {ls : Array Slot} (hl : lv_has ls 3 [(0, .int (i2 p0)), (1, .int (i2 p1))]) (w : WS D aC ad A H0 M H locs) : W p l e rm_X4_holdsTwo s m args below meth c H locs 0 0 Q (F0 m 0 ls []) := by
  have hx := X.1.1
  have hb := X.1.2.1
  unfold f_X4_holdsTwo at hf
  refine lv_iload_n hx hb dX4_holdsTwo_0 rfl (lv_at hl 0 rfl) ?_
  refine lv_iload_n hx hb dX4_holdsTwo_1 rfl (lv_at hl 0 rfl) ?_
  refine g_iconst X dX4_holdsTwo_2 ?_
  refine g_isub X dX4_holdsTwo_3 ?_
  refine g_iand X dX4_holdsTwo_4 ?_
  refine g_if_ne (tgt := 12) X (inR_toInt _) dX4_holdsTwo_5 (by decide) (fun cd => ?_) (fun cd => ?_)
  · replace hf := ite_f cd hf
    refine g_iconst X dX4_holdsTwo_12 ?_
    exact b_X4_holdsTwo_j13 X  HR p0 hp0 p1 hp1 0 (inL rfl) hf hl w
  · replace hf := ite_t cd hf
    refine g_iconst X dX4_holdsTwo_8 ?_
    refine lv_goto (tgt := 13) hx hb dX4_holdsTwo_9 (by decide) ?_
    exact b_X4_holdsTwo_j13 X  HR p0 hp0 p1 hp1 1 (inL rfl) hf hl w
set_option maxRecDepth 100000 in
set_option maxHeartbeats 4000000 in
theorem k_X4_holdsTwo {l : Launch} {D : va_G} {aC : Nat → ClassId} {ad : Nat → Nat} {sg : SG} (hi : Inj ad) (p0 : Int) (hp0 : inR p0) (p1 : Int) (hp1 : inR p1) {M : Mem} (hM : inM M) {r : Int} (hf : f_X4_holdsTwo p0 p1 M = some r) : MetI l D aC ad sg yX4_holdsTwo cX4_holdsTwo 3 (some .boolean) rm_X4_holdsTwo 0 0 [.int (i2 p0), .int (i2 p1)] M r M := by
  refine MetI.ofZ (by decide +kernel) (nle rfl) hi hM (fun p e s m args below meth c Q H0 ls X hl w hret => ?_)
  exact b_X4_holdsTwo_0 X  (fun r1 H locs pc ls eo hP w dg => by cases eo; exact hret H locs pc ls hP w dg) p0 hp0 p1 hp1 hf hl w
set_option maxRecDepth 100000 in
set_option maxHeartbeats 4000000 in
theorem b_X4_fitsStatements_s2 (X : CX p s m args c cX4_fitsStatements 4 RX4 D aC ad sg A H0) (v1 : Int) (hv1 : inR v1) {M : Mem} {o : (Int) ⊕ ((Int) ⊕ (Int))} (HC : ∀ (y2 : Int) (H : Heap) (locs : List Loc) (ls : Array Slot), o = .inl y2 → inR y2 → lv_has ls 4 [(0, .ref (ad 30)), (1, .int (i2 v1)), (2, .int (i2 y2))] → WS D aC ad A H0 M H locs → W p l e rm_X4_fitsStatements s m args below meth c H locs 0 0 Q (F0 m 2 ls [])) (HE : ∀ (y2 : Int) (H : Heap) (locs : List Loc) (ls : Array Slot), o = .inr (.inl y2) → inR y2 → lv_has ls 4 [(0, .ref (ad 30)), (1, .int (i2 v1)), (2, .int (i2 y2))] → WS D aC ad A H0 M H locs → W p l e rm_X4_fitsStatements s m args below meth c H locs 0 0 Q (F0 m 91 ls [])) (HR : ∀ (r : Int) (H : Heap) (locs : List Loc) (pc : Nat) (ls : Array Slot), o = .inr (.inr r) → isZ r → WS D aC ad A H0 M H locs → decode cX4_fitsStatements pc = .ok (.ireturn, 1) → W p l e rm_X4_fitsStatements s m args below meth c H locs 0 0 Q (F0 m pc ls [.int (i2 r)])) (v2 : Int) (hv2 : inR v2) (hf : f_X4_fitsStatements_s2 v1 M v2 = some o) {H : Heap} {locs : List Loc} {ls : Array Slot} (hl : lv_has ls 4 [(0, .ref (ad 30)), (1, .int (i2 v1)), (2, .int (i2 v2))]) (w : WS D aC ad A H0 M H locs) : W p l e rm_X4_fitsStatements s m args below meth c H locs 0 0 Q (F0 m 2 ls []) := by
  have hx := X.1.1
  have hb := X.1.2.1
  unfold f_X4_fitsStatements_s2 at hf
  refine lv_iload_n hx hb dX4_fitsStatements_2 rfl (lv_at hl 2 rfl) ?_
  refine lv_aload_n hx hb dX4_fitsStatements_3 rfl (lv_at hl 0 rfl) ?_
  obtain ⟨hru, hf⟩ := gd_some hf
  refine g_getd X w fg_X4_34 KD_30 FR_30_2 hru dX4_fitsStatements_4 ?_
  refine g_geti X w fg_X4_69 (KD_ru hru) (FR_ru_0 hru) dX4_fitsStatements_7 ?_
  refine g_icmp_ge (tgt := 91) X hv2 (w.2.2 _ _) dX4_fitsStatements_10 (by decide) (fun cd => ?_) (fun cd => ?_)
  · replace hf := ite_t cd hf
    exact HE v2 _ _ _ (Option.some.inj hf).symm hv2 hl w
  · replace hf := ite_f cd hf
    refine lv_aload_n hx hb dX4_fitsStatements_13 rfl (lv_at hl 0 rfl) ?_
    refine g_getr X w fg_X4_20 KD_30 FR_30_6 dX4_fitsStatements_14 ?_
    refine lv_iload_n hx hb dX4_fitsStatements_17 rfl (lv_at hl 2 rfl) ?_
    obtain ⟨hg, hf⟩ := gd_some hf
    refine g_iald X w KD_33 hv2 hg dX4_fitsStatements_18 ?_
    refine lv_iload_n hx hb dX4_fitsStatements_19 rfl (lv_at hl 1 rfl) ?_
    refine g_iand X dX4_fitsStatements_20 ?_
    obtain ⟨v3, ev3, hf⟩ := lt_some hf
    have hv3 : inR v3 := inR_of ev3 (inR_toInt _)
    refine g_istn (v := v3) (lv' := [(3, .int (i2 v3)), (0, .ref (ad 30)), (1, .int (i2 v1)), (2, .int (i2 v2))]) X ev3 dX4_fitsStatements_21 rfl hl (by decide) rfl (fun ls hl => ?_)
    refine lv_aload_n hx hb dX4_fitsStatements_22 rfl (lv_at hl 1 rfl) ?_
    obtain ⟨hru_2, hf⟩ := gd_some hf
    refine g_getd X w fg_X4_34 KD_30 FR_30_2 hru_2 dX4_fitsStatements_23 ?_
    refine g_getr X w fg_X4_117 (KD_ru hru_2) (FR_ru_1 hru_2) dX4_fitsStatements_26 ?_
    refine lv_iload_n hx hb dX4_fitsStatements_29 rfl (lv_at hl 3 rfl) ?_
    obtain ⟨hg_2, hf⟩ := gd_some hf
    refine g_iald X w (KD_ru_1 hru_2) hv2 hg_2 dX4_fitsStatements_30 ?_
    refine g_bipush X dX4_fitsStatements_31 (by decide) ?_
    refine g_icmp_ne (tgt := 53) X (w.2.2 _ _) (inL rfl) dX4_fitsStatements_33 (by decide) (fun cd_2 => ?_) (fun cd_2 => ?_)
    · replace hf := ite_f cd_2 hf
      refine lv_aload_n hx hb dX4_fitsStatements_53 rfl (lv_at hl 1 rfl) ?_
      obtain ⟨hru_3, hf⟩ := gd_some hf
      refine g_getd X w fg_X4_34 KD_30 FR_30_2 hru_3 dX4_fitsStatements_54 ?_
      refine g_getr X w fg_X4_117 (KD_ru hru_3) (FR_ru_1 hru_3) dX4_fitsStatements_57 ?_
      refine lv_iload_n hx hb dX4_fitsStatements_60 rfl (lv_at hl 3 rfl) ?_
      obtain ⟨hg_3, hf⟩ := gd_some hf
      refine g_iald X w (KD_ru_1 hru_3) hv2 hg_3 dX4_fitsStatements_61 ?_
      refine g_bipush X dX4_fitsStatements_62 (by decide) ?_
      refine g_icmp_ne (tgt := 85) X (w.2.2 _ _) (inL rfl) dX4_fitsStatements_64 (by decide) (fun cd_3 => ?_) (fun cd_3 => ?_)
      · replace hf := ite_f cd_3 hf
        obtain ⟨v2_2, ev2_2, hf⟩ := lt_some hf
        have hv2_2 : inR v2_2 := inR_of ev2_2 (inR_wrap _)
        refine lv_iinc (v := i2 v2_2) (lv' := [(2, .int (i2 v2_2)), (3, .int (i2 v3)), (0, .ref (ad 30)), (1, .int (i2 v1))]) hx hb dX4_fitsStatements_85 hl (k := 3) rfl (by rw [ev2_2]; exact i2_add _ _) (by decide) rfl (fun ls hl => ?_)
        refine lv_goto (tgt := 2) hx hb dX4_fitsStatements_88 (by decide) ?_
        exact HC v2_2 _ _ _ (Option.some.inj hf).symm hv2_2 (lv_sub hl [2, 3, 0] rfl) w
      · replace hf := ite_t cd_3 hf
        refine lv_iload_n hx hb dX4_fitsStatements_67 rfl (lv_at hl 0 rfl) ?_
        obtain ⟨r, hc, hf⟩ := obn_some hf
        refine g_csi (As := [.int (i2 v3)]) (rest := []) X w (k_J6_bitCount_0f7a4 X.2.2.1 v3 hv3 w.2.2 hc) lk_X4_123 ⟨rfl, rfl⟩ ⟨nle rfl, nle rfl⟩ ⟨nle rfl, nle rfl⟩ hl.1 rfl (nle rfl) dX4_fitsStatements_68 (fun hr H locs w => ?_)
        refine lv_aload_n hx hb dX4_fitsStatements_71 rfl (lv_at hl 1 rfl) ?_
        obtain ⟨hru_4, hf⟩ := gd_some hf
        refine g_getd X w fg_X4_34 KD_30 FR_30_2 hru_4 dX4_fitsStatements_72 ?_
        refine g_getr X w fg_X4_131 (KD_ru hru_4) (FR_ru_2 hru_4) dX4_fitsStatements_75 ?_
        refine lv_iload_n hx hb dX4_fitsStatements_78 rfl (lv_at hl 3 rfl) ?_
        obtain ⟨hg_4, hf⟩ := gd_some hf
        refine g_iald X w (KD_ru_2 hru_4) hv2 hg_4 dX4_fitsStatements_79 ?_
        refine g_icmp_le (tgt := 85) X hr (w.2.2 _ _) dX4_fitsStatements_80 (by decide) (fun cd_4 => ?_) (fun cd_4 => ?_)
        · replace hf := ite_t cd_4 hf
          obtain ⟨v2_3, ev2_3, hf⟩ := lt_some hf
          have hv2_3 : inR v2_3 := inR_of ev2_3 (inR_wrap _)
          refine lv_iinc (v := i2 v2_3) (lv' := [(2, .int (i2 v2_3)), (3, .int (i2 v3)), (0, .ref (ad 30)), (1, .int (i2 v1))]) hx hb dX4_fitsStatements_85 hl (k := 3) rfl (by rw [ev2_3]; exact i2_add _ _) (by decide) rfl (fun ls hl => ?_)
          refine lv_goto (tgt := 2) hx hb dX4_fitsStatements_88 (by decide) ?_
          exact HC v2_3 _ _ _ (Option.some.inj hf).symm hv2_3 (lv_sub hl [2, 3, 0] rfl) w
        · replace hf := ite_f cd_4 hf
          refine g_iconst X dX4_fitsStatements_83 ?_
          exact HR 0 _ _ _ _ (Option.some.inj hf).symm (Or.inl rfl) w dX4_fitsStatements_84
    · replace hf := ite_t cd_2 hf
      refine lv_iload_n hx hb dX4_fitsStatements_36 rfl (lv_at hl 0 rfl) ?_
      refine lv_aload_n hx hb dX4_fitsStatements_37 rfl (lv_at hl 1 rfl) ?_
      refine g_getr X w fg_X4_23 KD_30 FR_30_7 dX4_fitsStatements_38 ?_
      refine lv_iload_n hx hb dX4_fitsStatements_41 rfl (lv_at hl 3 rfl) ?_
      obtain ⟨hg_5, hf⟩ := gd_some hf
      refine g_iald X w KD_34 hv2 hg_5 dX4_fitsStatements_42 ?_
      refine lv_iload_n hx hb dX4_fitsStatements_43 rfl (lv_at hl 2 rfl) ?_
      refine g_iand X dX4_fitsStatements_44 ?_
      obtain ⟨r_2, hc, hf⟩ := obn_some hf
      refine g_csi (As := [.int (i2 v3), .int (i2 (band (M 34 v2.toNat) v1))]) (rest := []) X w (k_X4_holdsTwo X.2.2.1 v3 hv3 (band (M 34 v2.toNat) v1) (inR_toInt _) w.2.2 hc) lk_X4_202 ⟨rfl, rfl⟩ ⟨nle rfl, nle rfl⟩ ⟨nle rfl, nle rfl⟩ hl.1 rfl (nle rfl) dX4_fitsStatements_45 (fun hr_2 H locs w => ?_)
      refine g_if_eq (tgt := 53) X hr_2 dX4_fitsStatements_48 (by decide) (fun cd_5 => ?_) (fun cd_5 => ?_)
      · replace hf := ite_t cd_5 hf
        refine lv_aload_n hx hb dX4_fitsStatements_53 rfl (lv_at hl 1 rfl) ?_
        obtain ⟨hru_5, hf⟩ := gd_some hf
        refine g_getd X w fg_X4_34 KD_30 FR_30_2 hru_5 dX4_fitsStatements_54 ?_
        refine g_getr X w fg_X4_117 (KD_ru hru_5) (FR_ru_1 hru_5) dX4_fitsStatements_57 ?_
        refine lv_iload_n hx hb dX4_fitsStatements_60 rfl (lv_at hl 3 rfl) ?_
        obtain ⟨hg_6, hf⟩ := gd_some hf
        refine g_iald X w (KD_ru_1 hru_5) hv2 hg_6 dX4_fitsStatements_61 ?_
        refine g_bipush X dX4_fitsStatements_62 (by decide) ?_
        refine g_icmp_ne (tgt := 85) X (w.2.2 _ _) (inL rfl) dX4_fitsStatements_64 (by decide) (fun cd_6 => ?_) (fun cd_6 => ?_)
        · replace hf := ite_f cd_6 hf
          obtain ⟨v2_4, ev2_4, hf⟩ := lt_some hf
          have hv2_4 : inR v2_4 := inR_of ev2_4 (inR_wrap _)
          refine lv_iinc (v := i2 v2_4) (lv' := [(2, .int (i2 v2_4)), (3, .int (i2 v3)), (0, .ref (ad 30)), (1, .int (i2 v1))]) hx hb dX4_fitsStatements_85 hl (k := 3) rfl (by rw [ev2_4]; exact i2_add _ _) (by decide) rfl (fun ls hl => ?_)
          refine lv_goto (tgt := 2) hx hb dX4_fitsStatements_88 (by decide) ?_
          exact HC v2_4 _ _ _ (Option.some.inj hf).symm hv2_4 (lv_sub hl [2, 3, 0] rfl) w
        · replace hf := ite_t cd_6 hf
          refine lv_iload_n hx hb dX4_fitsStatements_67 rfl (lv_at hl 0 rfl) ?_
          obtain ⟨r_3, hc, hf⟩ := obn_some hf
          refine g_csi (As := [.int (i2 v3)]) (rest := []) X w (k_J6_bitCount_0f7a4 X.2.2.1 v3 hv3 w.2.2 hc) lk_X4_123 ⟨rfl, rfl⟩ ⟨nle rfl, nle rfl⟩ ⟨nle rfl, nle rfl⟩ hl.1 rfl (nle rfl) dX4_fitsStatements_68 (fun hr_3 H locs w => ?_)
          refine lv_aload_n hx hb dX4_fitsStatements_71 rfl (lv_at hl 1 rfl) ?_
          obtain ⟨hru_6, hf⟩ := gd_some hf
          refine g_getd X w fg_X4_34 KD_30 FR_30_2 hru_6 dX4_fitsStatements_72 ?_
          refine g_getr X w fg_X4_131 (KD_ru hru_6) (FR_ru_2 hru_6) dX4_fitsStatements_75 ?_
          refine lv_iload_n hx hb dX4_fitsStatements_78 rfl (lv_at hl 3 rfl) ?_
          obtain ⟨hg_7, hf⟩ := gd_some hf
          refine g_iald X w (KD_ru_2 hru_6) hv2 hg_7 dX4_fitsStatements_79 ?_
          refine g_icmp_le (tgt := 85) X hr_3 (w.2.2 _ _) dX4_fitsStatements_80 (by decide) (fun cd_7 => ?_) (fun cd_7 => ?_)
          · replace hf := ite_t cd_7 hf
            obtain ⟨v2_5, ev2_5, hf⟩ := lt_some hf
            have hv2_5 : inR v2_5 := inR_of ev2_5 (inR_wrap _)
            refine lv_iinc (v := i2 v2_5) (lv' := [(2, .int (i2 v2_5)), (3, .int (i2 v3)), (0, .ref (ad 30)), (1, .int (i2 v1))]) hx hb dX4_fitsStatements_85 hl (k := 3) rfl (by rw [ev2_5]; exact i2_add _ _) (by decide) rfl (fun ls hl => ?_)
            refine lv_goto (tgt := 2) hx hb dX4_fitsStatements_88 (by decide) ?_
            exact HC v2_5 _ _ _ (Option.some.inj hf).symm hv2_5 (lv_sub hl [2, 3, 0] rfl) w
          · replace hf := ite_f cd_7 hf
            refine g_iconst X dX4_fitsStatements_83 ?_
            exact HR 0 _ _ _ _ (Option.some.inj hf).symm (Or.inl rfl) w dX4_fitsStatements_84
      · replace hf := ite_f cd_5 hf
        refine g_iconst X dX4_fitsStatements_51 ?_
        exact HR 0 _ _ _ _ (Option.some.inj hf).symm (Or.inl rfl) w dX4_fitsStatements_52
set_option maxRecDepth 100000 in
set_option maxHeartbeats 4000000 in
theorem l_X4_fitsStatements_2 (X : CX p s m args c cX4_fitsStatements 4 RX4 D aC ad sg A H0) (v1 : Int) (hv1 : inR v1) {M : Mem} {out : (Int) ⊕ (Int)} (HE : ∀ (y2 : Int) (H : Heap) (locs : List Loc) (ls : Array Slot), out = .inl y2 → inR y2 → lv_has ls 4 [(0, .ref (ad 30)), (1, .int (i2 v1)), (2, .int (i2 y2))] → WS D aC ad A H0 M H locs → W p l e rm_X4_fitsStatements s m args below meth c H locs 0 0 Q (F0 m 91 ls [])) (HR : ∀ (r : Int) (H : Heap) (locs : List Loc) (pc : Nat) (ls : Array Slot), out = .inr r → isZ r → WS D aC ad A H0 M H locs → decode cX4_fitsStatements pc = .ok (.ireturn, 1) → W p l e rm_X4_fitsStatements s m args below meth c H locs 0 0 Q (F0 m pc ls [.int (i2 r)])) : ∀ (n : Nat) (v2 : Int), whl (fun s => f_X4_fitsStatements_s2 v1 M s) n v2 = some out → inR v2 → ∀ {H : Heap} {locs : List Loc} {ls : Array Slot}, lv_has ls 4 [(0, .ref (ad 30)), (1, .int (i2 v1)), (2, .int (i2 v2))] → WS D aC ad A H0 M H locs → W p l e rm_X4_fitsStatements s m args below meth c H locs 0 0 Q (F0 m 2 ls []) := by
  intro n
  induction n with
  | zero => intro v2 hf; exact (whl_zero hf).elim
  | succ n ih =>
    intro v2 hf hv2 H locs ls hl w
    obtain ⟨o, hf, hk1, hk2⟩ := whl_step hf
    exact b_X4_fitsStatements_s2 X v1 hv1 (fun y2 H locs ls eo hy2 hl w => ih y2 (hk1 _ eo) hy2 hl w) (fun y2 H locs ls eo hy2 hl w => HE y2 H locs ls (hk2 _ eo).symm hy2 hl w) (fun r H locs pc ls eo hP w dg => HR r H locs pc ls (hk2 _ eo).symm hP w dg) v2 hv2 hf hl w
set_option maxRecDepth 100000 in
set_option maxHeartbeats 4000000 in
theorem b_X4_fitsStatements_j91 (X : CX p s m args c cX4_fitsStatements 4 RX4 D aC ad sg A H0) {M : Mem} {o : Int} (HR : ∀ (r : Int) (H : Heap) (locs : List Loc) (pc : Nat) (ls : Array Slot), o = r → isZ r → WS D aC ad A H0 M H locs → decode cX4_fitsStatements pc = .ok (.ireturn, 1) → W p l e rm_X4_fitsStatements s m args below meth c H locs 0 0 Q (F0 m pc ls [.int (i2 r)])) (hf : f_X4_fitsStatements_j91 M = some o) {H : Heap} {locs : List Loc} {ls : Array Slot} (hl : lv_has ls 4 []) (w : WS D aC ad A H0 M H locs) : W p l e rm_X4_fitsStatements s m args below meth c H locs 0 0 Q (F0 m 91 ls []) := by
  have hx := X.1.1
  have hb := X.1.2.1
  unfold f_X4_fitsStatements_j91 at hf
  refine g_iconst X dX4_fitsStatements_91 ?_
  exact HR 1 _ _ _ _ (Option.some.inj hf).symm (Or.inr rfl) w dX4_fitsStatements_92
set_option maxRecDepth 100000 in
set_option maxHeartbeats 4000000 in
theorem b_X4_fitsStatements_0 (X : CX p s m args c cX4_fitsStatements 4 RX4 D aC ad sg A H0) {M : Mem} {o : Int} (HR : ∀ (r : Int) (H : Heap) (locs : List Loc) (pc : Nat) (ls : Array Slot), o = r → isZ r → WS D aC ad A H0 M H locs → decode cX4_fitsStatements pc = .ok (.ireturn, 1) → W p l e rm_X4_fitsStatements s m args below meth c H locs 0 0 Q (F0 m pc ls [.int (i2 r)])) (p1 : Int) (hp1 : inR p1) (hf : f_X4_fitsStatements p1 M = some o) {H : Heap} {locs : List Loc} {ls : Array Slot} (hl : lv_has ls 4 [(0, .ref (ad 30)), (1, .int (i2 p1))]) (w : WS D aC ad A H0 M H locs) : W p l e rm_X4_fitsStatements s m args below meth c H locs 0 0 Q (F0 m 0 ls []) := by
  have hx := X.1.1
  have hb := X.1.2.1
  unfold f_X4_fitsStatements at hf
  refine g_iconst X dX4_fitsStatements_0 ?_
  refine g_istn (v := 0) (lv' := [(2, .int (i2 0)), (0, .ref (ad 30)), (1, .int (i2 p1))]) X rfl dX4_fitsStatements_1 rfl hl (by decide) rfl (fun ls hl => ?_)
  obtain ⟨q, hq, h1, h2⟩ := lpr_some hf
  exact l_X4_fitsStatements_2 X p1 hp1 (out := q) (fun y2 H locs ls eq hy2 hl w => b_X4_fitsStatements_j91 X  HR  (h1 _ eq) (lv_sub hl [] rfl) w) (fun r H locs pc ls eq hP w dg => HR r H locs pc ls (Option.some.inj (h2 _ eq)).symm hP w dg) FU 0 hq (inL rfl) (lv_sub hl [1, 2, 0] rfl) w
set_option maxRecDepth 100000 in
set_option maxHeartbeats 4000000 in
theorem k_X4_fitsStatements {l : Launch} {D : va_G} {aC : Nat → ClassId} {ad : Nat → Nat} {sg : SG} (hi : Inj ad) (p1 : Int) (hp1 : inR p1) {M : Mem} (hM : inM M) {r : Int} (hf : f_X4_fitsStatements p1 M = some r) : MetI l D aC ad sg yX4_fitsStatements cX4_fitsStatements 4 (some .boolean) rm_X4_fitsStatements 0 0 [.ref (ad 30), .int (i2 p1)] M r M := by
  refine MetI.ofZ (by decide +kernel) (nle rfl) hi hM (fun p e s m args below meth c Q H0 ls X hl w hret => ?_)
  exact b_X4_fitsStatements_0 X  (fun r1 H locs pc ls eo hP w dg => by cases eo; exact hret H locs pc ls hP w dg) p1 hp1 hf hl w
set_option maxRecDepth 100000 in
set_option maxHeartbeats 4000000 in
theorem b_X4_mayStand_0 (X : CX p s m args c cX4_mayStand 3 RX4 D aC ad sg A H0) {M : Mem} {o : Int} (HR : ∀ (r : Int) (H : Heap) (locs : List Loc) (pc : Nat) (ls : Array Slot), o = r → isZ r → WS D aC ad A H0 M H locs → decode cX4_mayStand pc = .ok (.ireturn, 1) → W p l e rm_X4_mayStand s m args below meth c H locs 0 0 Q (F0 m pc ls [.int (i2 r)])) (p1 : Int) (hp1 : inR p1) (p2 : Int) (hp2 : inR p2) (hf : f_X4_mayStand p1 p2 M = some o) {H : Heap} {locs : List Loc} {ls : Array Slot} (hl : lv_has ls 3 [(0, .ref (ad 30)), (1, .int (i2 p1)), (2, .int (i2 p2))]) (w : WS D aC ad A H0 M H locs) : W p l e rm_X4_mayStand s m args below meth c H locs 0 0 Q (F0 m 0 ls []) := by
  have hx := X.1.1
  have hb := X.1.2.1
  unfold f_X4_mayStand at hf
  refine lv_iload_n hx hb dX4_mayStand_0 rfl (lv_at hl 2 rfl) ?_
  obtain ⟨r, hc, hf⟩ := obn_some hf
  refine g_csi (As := [.int (i2 p2)]) (rest := []) X w (k_J6_bitCount_0f7a4 X.2.2.1 p2 hp2 w.2.2 hc) lk_X4_123 ⟨rfl, rfl⟩ ⟨nle rfl, nle rfl⟩ ⟨nle rfl, nle rfl⟩ hl.1 rfl (nle rfl) dX4_mayStand_1 (fun hr H locs w => ?_)
  refine lv_aload_n hx hb dX4_mayStand_4 rfl (lv_at hl 0 rfl) ?_
  refine g_getr X w fg_X4_26 KD_30 FR_30_0 dX4_mayStand_5 ?_
  refine g_getr X w fg_X4_184 KD_3 FR_3_14 dX4_mayStand_8 ?_
  refine lv_iload_n hx hb dX4_mayStand_11 rfl (lv_at hl 1 rfl) ?_
  obtain ⟨hg, hf⟩ := gd_some hf
  refine g_iald X w KD_16 hp1 hg dX4_mayStand_12 ?_
  refine g_icmp_gt (tgt := 50) X hr (w.2.2 _ _) dX4_mayStand_13 (by decide) (fun cd => ?_) (fun cd => ?_)
  · replace hf := ite_t cd hf
    refine g_iconst X dX4_mayStand_50 ?_
    exact HR 0 _ _ _ _ (Option.some.inj hf).symm (Or.inl rfl) w dX4_mayStand_51
  · replace hf := ite_f cd hf
    refine lv_aload_n hx hb dX4_mayStand_16 rfl (lv_at hl 0 rfl) ?_
    refine g_getr X w fg_X4_26 KD_30 FR_30_0 dX4_mayStand_17 ?_
    refine g_getr X w fg_X4_187 KD_3 FR_3_9 dX4_mayStand_20 ?_
    refine lv_iload_n hx hb dX4_mayStand_23 rfl (lv_at hl 1 rfl) ?_
    obtain ⟨hg_2, hf⟩ := gd_some hf
    refine g_iald X w KD_12 hp1 hg_2 dX4_mayStand_24 ?_
    refine lv_iload_n hx hb dX4_mayStand_25 rfl (lv_at hl 2 rfl) ?_
    refine g_iand X dX4_mayStand_26 ?_
    refine g_if_ne (tgt := 50) X (inR_toInt _) dX4_mayStand_27 (by decide) (fun cd_2 => ?_) (fun cd_2 => ?_)
    · replace hf := ite_f cd_2 hf
      refine g_iconst X dX4_mayStand_50 ?_
      exact HR 0 _ _ _ _ (Option.some.inj hf).symm (Or.inl rfl) w dX4_mayStand_51
    · replace hf := ite_t cd_2 hf
      refine lv_aload_n hx hb dX4_mayStand_30 rfl (lv_at hl 0 rfl) ?_
      refine lv_iload_n hx hb dX4_mayStand_31 rfl (lv_at hl 2 rfl) ?_
      obtain ⟨r_2, hc, hf⟩ := obn_some hf
      refine g_cvi (As := [.int (i2 p2)]) (rest := []) X w (k_X4_hasNoPair X.2.2.1 p2 hp2 w.2.2 hc) lk_X4_190 cl_4 KD_30 ⟨rfl, rfl⟩ ⟨nle rfl, nle rfl⟩ ⟨nle rfl, nle rfl⟩ hl.1 rfl (nle rfl) dX4_mayStand_32 (fun hr_2 H locs w => ?_)
      refine g_if_eq (tgt := 50) X hr_2 dX4_mayStand_35 (by decide) (fun cd_3 => ?_) (fun cd_3 => ?_)
      · replace hf := ite_t cd_3 hf
        refine g_iconst X dX4_mayStand_50 ?_
        exact HR 0 _ _ _ _ (Option.some.inj hf).symm (Or.inl rfl) w dX4_mayStand_51
      · replace hf := ite_f cd_3 hf
        refine lv_aload_n hx hb dX4_mayStand_38 rfl (lv_at hl 0 rfl) ?_
        refine lv_iload_n hx hb dX4_mayStand_39 rfl (lv_at hl 2 rfl) ?_
        obtain ⟨r_3, hc, hf⟩ := obn_some hf
        refine g_cvi (As := [.int (i2 p2)]) (rest := []) X w (k_X4_fitsStatements X.2.2.1 p2 hp2 w.2.2 hc) lk_X4_193 cl_4 KD_30 ⟨rfl, rfl⟩ ⟨nle rfl, nle rfl⟩ ⟨nle rfl, nle rfl⟩ hl.1 rfl (nle rfl) dX4_mayStand_40 (fun hr_3 H locs w => ?_)
        refine g_if_eq (tgt := 50) X hr_3 dX4_mayStand_43 (by decide) (fun cd_4 => ?_) (fun cd_4 => ?_)
        · replace hf := ite_t cd_4 hf
          refine g_iconst X dX4_mayStand_50 ?_
          exact HR 0 _ _ _ _ (Option.some.inj hf).symm (Or.inl rfl) w dX4_mayStand_51
        · replace hf := ite_f cd_4 hf
          refine g_iconst X dX4_mayStand_46 ?_
          refine lv_goto (tgt := 51) hx hb dX4_mayStand_47 (by decide) ?_
          exact HR 1 _ _ _ _ (Option.some.inj hf).symm (Or.inr rfl) w dX4_mayStand_51
set_option maxRecDepth 100000 in
set_option maxHeartbeats 4000000 in
theorem k_X4_mayStand {l : Launch} {D : va_G} {aC : Nat → ClassId} {ad : Nat → Nat} {sg : SG} (hi : Inj ad) (p1 : Int) (hp1 : inR p1) (p2 : Int) (hp2 : inR p2) {M : Mem} (hM : inM M) {r : Int} (hf : f_X4_mayStand p1 p2 M = some r) : MetI l D aC ad sg yX4_mayStand cX4_mayStand 3 (some .boolean) rm_X4_mayStand 0 0 [.ref (ad 30), .int (i2 p1), .int (i2 p2)] M r M := by
  refine MetI.ofZ (by decide +kernel) (nle rfl) hi hM (fun p e s m args below meth c Q H0 ls X hl w hret => ?_)
  exact b_X4_mayStand_0 X  (fun r1 H locs pc ls eo hP w dg => by cases eo; exact hret H locs pc ls hP w dg) p1 hp1 p2 hp2 hf hl w
set_option maxRecDepth 100000 in
set_option maxHeartbeats 4000000 in
theorem b_X4_lackIn_s4 (X : CX p s m args c cX4_lackIn 4 RX4 D aC ad sg A H0) (v1 : Int) (hv1 : inR v1) {M : Mem} {o : (Int × Int) ⊕ (Int × Int)} (HC : ∀ (y2 : Int) (y3 : Int) (H : Heap) (locs : List Loc) (ls : Array Slot), o = .inl (y2, y3) → inR y2 → inR y3 → lv_has ls 4 [(0, .ref (ad 30)), (1, .int (i2 v1)), (2, .int (i2 y2)), (3, .int (i2 y3))] → WS D aC ad A H0 M H locs → W p l e rm_X4_lackIn s m args below meth c H locs 0 0 Q (F0 m 4 ls [])) (HE : ∀ (y2 : Int) (y3 : Int) (H : Heap) (locs : List Loc) (ls : Array Slot), o = .inr (y2, y3) → inR y2 → inR y3 → lv_has ls 4 [(0, .ref (ad 30)), (1, .int (i2 v1)), (2, .int (i2 y2)), (3, .int (i2 y3))] → WS D aC ad A H0 M H locs → W p l e rm_X4_lackIn s m args below meth c H locs 0 0 Q (F0 m 63 ls [])) (v2 : Int) (hv2 : inR v2) (v3 : Int) (hv3 : inR v3) (hf : f_X4_lackIn_s4 v1 M v2 v3 = some o) {H : Heap} {locs : List Loc} {ls : Array Slot} (hl : lv_has ls 4 [(0, .ref (ad 30)), (1, .int (i2 v1)), (2, .int (i2 v2)), (3, .int (i2 v3))]) (w : WS D aC ad A H0 M H locs) : W p l e rm_X4_lackIn s m args below meth c H locs 0 0 Q (F0 m 4 ls []) := by
  have hx := X.1.1
  have hb := X.1.2.1
  unfold f_X4_lackIn_s4 at hf
  refine lv_iload_n hx hb dX4_lackIn_4 rfl (lv_at hl 3 rfl) ?_
  refine lv_aload_n hx hb dX4_lackIn_5 rfl (lv_at hl 0 rfl) ?_
  obtain ⟨hru, hf⟩ := gd_some hf
  refine g_getd X w fg_X4_34 KD_30 FR_30_2 hru dX4_lackIn_6 ?_
  refine g_geti X w fg_X4_69 (KD_ru hru) (FR_ru_0 hru) dX4_lackIn_9 ?_
  refine g_icmp_ge (tgt := 63) X hv3 (w.2.2 _ _) dX4_lackIn_12 (by decide) (fun cd => ?_) (fun cd => ?_)
  · replace hf := ite_t cd hf
    exact HE v2 v3 _ _ _ (Option.some.inj hf).symm hv2 hv3 hl w
  · replace hf := ite_f cd hf
    refine lv_aload_n hx hb dX4_lackIn_15 rfl (lv_at hl 0 rfl) ?_
    obtain ⟨hru_2, hf⟩ := gd_some hf
    refine g_getd X w fg_X4_34 KD_30 FR_30_2 hru_2 dX4_lackIn_16 ?_
    refine g_getr X w fg_X4_117 (KD_ru hru_2) (FR_ru_1 hru_2) dX4_lackIn_19 ?_
    refine lv_iload_n hx hb dX4_lackIn_22 rfl (lv_at hl 3 rfl) ?_
    obtain ⟨hg, hf⟩ := gd_some hf
    refine g_iald X w (KD_ru_1 hru_2) hv3 hg dX4_lackIn_23 ?_
    refine g_bipush X dX4_lackIn_24 (by decide) ?_
    refine g_icmp_ne (tgt := 57) X (w.2.2 _ _) (inL rfl) dX4_lackIn_26 (by decide) (fun cd_2 => ?_) (fun cd_2 => ?_)
    · replace hf := ite_f cd_2 hf
      obtain ⟨v3_2, ev3_2, hf⟩ := lt_some hf
      have hv3_2 : inR v3_2 := inR_of ev3_2 (inR_wrap _)
      refine lv_iinc (v := i2 v3_2) (lv' := [(3, .int (i2 v3_2)), (0, .ref (ad 30)), (1, .int (i2 v1)), (2, .int (i2 v2))]) hx hb dX4_lackIn_57 hl (k := 3) rfl (by rw [ev3_2]; exact i2_add _ _) (by decide) rfl (fun ls hl => ?_)
      refine lv_goto (tgt := 4) hx hb dX4_lackIn_60 (by decide) ?_
      exact HC v2 v3_2 _ _ _ (Option.some.inj hf).symm hv2 hv3_2 (lv_sub hl [1, 2, 3, 0] rfl) w
    · replace hf := ite_t cd_2 hf
      refine lv_iload_n hx hb dX4_lackIn_29 rfl (lv_at hl 2 rfl) ?_
      refine g_iconst X dX4_lackIn_30 ?_
      refine lv_aload_n hx hb dX4_lackIn_31 rfl (lv_at hl 0 rfl) ?_
      obtain ⟨hru_3, hf⟩ := gd_some hf
      refine g_getd X w fg_X4_34 KD_30 FR_30_2 hru_3 dX4_lackIn_32 ?_
      refine g_getr X w fg_X4_131 (KD_ru hru_3) (FR_ru_2 hru_3) dX4_lackIn_35 ?_
      refine lv_iload_n hx hb dX4_lackIn_38 rfl (lv_at hl 3 rfl) ?_
      obtain ⟨hg_2, hf⟩ := gd_some hf
      refine g_iald X w (KD_ru_2 hru_3) hv3 hg_2 dX4_lackIn_39 ?_
      refine lv_aload_n hx hb dX4_lackIn_40 rfl (lv_at hl 0 rfl) ?_
      refine g_getr X w fg_X4_20 KD_30 FR_30_6 dX4_lackIn_41 ?_
      refine lv_iload_n hx hb dX4_lackIn_44 rfl (lv_at hl 3 rfl) ?_
      obtain ⟨hg_3, hf⟩ := gd_some hf
      refine g_iald X w KD_33 hv3 hg_3 dX4_lackIn_45 ?_
      refine lv_iload_n hx hb dX4_lackIn_46 rfl (lv_at hl 1 rfl) ?_
      refine g_iand X dX4_lackIn_47 ?_
      obtain ⟨r, hc, hf⟩ := obn_some hf
      refine g_csi (As := [.int (i2 (band (M 33 v3.toNat) v1))]) (rest := [.int (i2 (M ((M 30 2).toNat + 2) v3.toNat)), .int (i2 0), .int (i2 v2)]) X w (k_J6_bitCount_0f7a4 X.2.2.1 (band (M 33 v3.toNat) v1) (inR_toInt _) w.2.2 hc) lk_X4_123 ⟨rfl, rfl⟩ ⟨nle rfl, nle rfl⟩ ⟨nle rfl, nle rfl⟩ hl.1 rfl (nle rfl) dX4_lackIn_48 (fun hr H locs w => ?_)
      refine g_isub X dX4_lackIn_51 ?_
      refine g_max X (inL rfl) (inR_wrap _) hl.1 mw_X4_157 ⟨nle rfl, nle rfl⟩ (nle rfl) (nle rfl) (nle rfl) dX4_lackIn_52 ?_
      refine g_iadd X dX4_lackIn_55 ?_
      obtain ⟨v2_2, ev2_2, hf⟩ := lt_some hf
      have hv2_2 : inR v2_2 := inR_of ev2_2 (inR_wrap _)
      refine g_istn (v := v2_2) (lv' := [(2, .int (i2 v2_2)), (0, .ref (ad 30)), (1, .int (i2 v1)), (3, .int (i2 v3))]) X ev2_2 dX4_lackIn_56 rfl hl (by decide) rfl (fun ls hl => ?_)
      obtain ⟨v3_3, ev3_3, hf⟩ := lt_some hf
      have hv3_3 : inR v3_3 := inR_of ev3_3 (inR_wrap _)
      refine lv_iinc (v := i2 v3_3) (lv' := [(3, .int (i2 v3_3)), (2, .int (i2 v2_2)), (0, .ref (ad 30)), (1, .int (i2 v1))]) hx hb dX4_lackIn_57 hl (k := 3) rfl (by rw [ev3_3]; exact i2_add _ _) (by decide) rfl (fun ls hl => ?_)
      refine lv_goto (tgt := 4) hx hb dX4_lackIn_60 (by decide) ?_
      exact HC v2_2 v3_3 _ _ _ (Option.some.inj hf).symm hv2_2 hv3_3 (lv_sub hl [2, 3, 1, 0] rfl) w
set_option maxRecDepth 100000 in
set_option maxHeartbeats 4000000 in
theorem l_X4_lackIn_4 (X : CX p s m args c cX4_lackIn 4 RX4 D aC ad sg A H0) (v1 : Int) (hv1 : inR v1) {M : Mem} {out : Int × Int} (HE : ∀ (y2 : Int) (y3 : Int) (H : Heap) (locs : List Loc) (ls : Array Slot), out = (y2, y3) → inR y2 → inR y3 → lv_has ls 4 [(0, .ref (ad 30)), (1, .int (i2 v1)), (2, .int (i2 y2)), (3, .int (i2 y3))] → WS D aC ad A H0 M H locs → W p l e rm_X4_lackIn s m args below meth c H locs 0 0 Q (F0 m 63 ls [])) : ∀ (n : Nat) (v2 : Int) (v3 : Int), whl (fun s => f_X4_lackIn_s4 v1 M s.1 s.2) n (v2, v3) = some out → inR v2 → inR v3 → ∀ {H : Heap} {locs : List Loc} {ls : Array Slot}, lv_has ls 4 [(0, .ref (ad 30)), (1, .int (i2 v1)), (2, .int (i2 v2)), (3, .int (i2 v3))] → WS D aC ad A H0 M H locs → W p l e rm_X4_lackIn s m args below meth c H locs 0 0 Q (F0 m 4 ls []) := by
  intro n
  induction n with
  | zero => intro v2 v3 hf; exact (whl_zero hf).elim
  | succ n ih =>
    intro v2 v3 hf hv2 hv3 H locs ls hl w
    obtain ⟨o, hf, hk1, hk2⟩ := whl_step hf
    exact b_X4_lackIn_s4 X v1 hv1 (fun y2 y3 H locs ls eo hy2 hy3 hl w => ih y2 y3 (hk1 _ eo) hy2 hy3 hl w) (fun y2 y3 H locs ls eo hy2 hy3 hl w => HE y2 y3 H locs ls (hk2 _ eo).symm hy2 hy3 hl w) v2 hv2 v3 hv3 hf hl w
set_option maxRecDepth 100000 in
set_option maxHeartbeats 4000000 in
theorem b_X4_lackIn_j63 (X : CX p s m args c cX4_lackIn 4 RX4 D aC ad sg A H0) {M : Mem} {o : Int} (HR : ∀ (r : Int) (H : Heap) (locs : List Loc) (pc : Nat) (ls : Array Slot), o = r → inR r → WS D aC ad A H0 M H locs → decode cX4_lackIn pc = .ok (.ireturn, 1) → W p l e rm_X4_lackIn s m args below meth c H locs 0 0 Q (F0 m pc ls [.int (i2 r)])) (v2 : Int) (hv2 : inR v2) (hf : f_X4_lackIn_j63 v2 M = some o) {H : Heap} {locs : List Loc} {ls : Array Slot} (hl : lv_has ls 4 [(2, .int (i2 v2))]) (w : WS D aC ad A H0 M H locs) : W p l e rm_X4_lackIn s m args below meth c H locs 0 0 Q (F0 m 63 ls []) := by
  have hx := X.1.1
  have hb := X.1.2.1
  unfold f_X4_lackIn_j63 at hf
  refine lv_iload_n hx hb dX4_lackIn_63 rfl (lv_at hl 0 rfl) ?_
  exact HR v2 _ _ _ _ (Option.some.inj hf).symm hv2 w dX4_lackIn_64
set_option maxRecDepth 100000 in
set_option maxHeartbeats 4000000 in
theorem b_X4_lackIn_0 (X : CX p s m args c cX4_lackIn 4 RX4 D aC ad sg A H0) {M : Mem} {o : Int} (HR : ∀ (r : Int) (H : Heap) (locs : List Loc) (pc : Nat) (ls : Array Slot), o = r → inR r → WS D aC ad A H0 M H locs → decode cX4_lackIn pc = .ok (.ireturn, 1) → W p l e rm_X4_lackIn s m args below meth c H locs 0 0 Q (F0 m pc ls [.int (i2 r)])) (p1 : Int) (hp1 : inR p1) (hf : f_X4_lackIn p1 M = some o) {H : Heap} {locs : List Loc} {ls : Array Slot} (hl : lv_has ls 4 [(0, .ref (ad 30)), (1, .int (i2 p1))]) (w : WS D aC ad A H0 M H locs) : W p l e rm_X4_lackIn s m args below meth c H locs 0 0 Q (F0 m 0 ls []) := by
  have hx := X.1.1
  have hb := X.1.2.1
  unfold f_X4_lackIn at hf
  refine g_iconst X dX4_lackIn_0 ?_
  refine g_istn (v := 0) (lv' := [(2, .int (i2 0)), (0, .ref (ad 30)), (1, .int (i2 p1))]) X rfl dX4_lackIn_1 rfl hl (by decide) rfl (fun ls hl => ?_)
  refine g_iconst X dX4_lackIn_2 ?_
  refine g_istn (v := 0) (lv' := [(3, .int (i2 0)), (2, .int (i2 0)), (0, .ref (ad 30)), (1, .int (i2 p1))]) X rfl dX4_lackIn_3 rfl hl (by decide) rfl (fun ls hl => ?_)
  obtain ⟨q, hq, h1⟩ := obn_some hf
  exact l_X4_lackIn_4 X p1 hp1 (out := q) (fun y2 y3 H locs ls eq hy2 hy3 hl w => b_X4_lackIn_j63 X  HR y2 hy2 (by subst eq; exact h1) (lv_sub hl [2] rfl) w)  FU 0 0 hq (inL rfl) (inL rfl) (lv_sub hl [2, 3, 1, 0] rfl) w
set_option maxRecDepth 100000 in
set_option maxHeartbeats 4000000 in
theorem k_X4_lackIn {l : Launch} {D : va_G} {aC : Nat → ClassId} {ad : Nat → Nat} {sg : SG} (hi : Inj ad) (p1 : Int) (hp1 : inR p1) {M : Mem} (hM : inM M) {r : Int} (hf : f_X4_lackIn p1 M = some r) : MetI l D aC ad sg yX4_lackIn cX4_lackIn 4 (some .int) rm_X4_lackIn 0 0 [.ref (ad 30), .int (i2 p1)] M r M := by
  refine MetI.ofI (by decide +kernel) (nle rfl) hi hM (fun p e s m args below meth c Q H0 ls X hl w hret => ?_)
  exact b_X4_lackIn_0 X  (fun r1 H locs pc ls eo hP w dg => by cases eo; exact hret H locs pc ls hP w dg) p1 hp1 hf hl w
set_option maxRecDepth 100000 in
set_option maxHeartbeats 4000000 in
theorem b_X4_leftIn_s4 (X : CX p s m args c cX4_leftIn 4 RX4 D aC ad sg A H0) (v1 : Int) (hv1 : inR v1) {M : Mem} {o : (Int × Int) ⊕ (Int × Int)} (HC : ∀ (y2 : Int) (y3 : Int) (H : Heap) (locs : List Loc) (ls : Array Slot), o = .inl (y2, y3) → inR y2 → inR y3 → lv_has ls 4 [(0, .ref (ad 30)), (1, .int (i2 v1)), (2, .int (i2 y2)), (3, .int (i2 y3))] → WS D aC ad A H0 M H locs → W p l e rm_X4_leftIn s m args below meth c H locs 0 0 Q (F0 m 4 ls [])) (HE : ∀ (y2 : Int) (y3 : Int) (H : Heap) (locs : List Loc) (ls : Array Slot), o = .inr (y2, y3) → inR y2 → inR y3 → lv_has ls 4 [(0, .ref (ad 30)), (1, .int (i2 v1)), (2, .int (i2 y2)), (3, .int (i2 y3))] → WS D aC ad A H0 M H locs → W p l e rm_X4_leftIn s m args below meth c H locs 0 0 Q (F0 m 54 ls [])) (v2 : Int) (hv2 : inR v2) (v3 : Int) (hv3 : inR v3) (hf : f_X4_leftIn_s4 v1 M v2 v3 = some o) {H : Heap} {locs : List Loc} {ls : Array Slot} (hl : lv_has ls 4 [(0, .ref (ad 30)), (1, .int (i2 v1)), (2, .int (i2 v2)), (3, .int (i2 v3))]) (w : WS D aC ad A H0 M H locs) : W p l e rm_X4_leftIn s m args below meth c H locs 0 0 Q (F0 m 4 ls []) := by
  have hx := X.1.1
  have hb := X.1.2.1
  unfold f_X4_leftIn_s4 at hf
  refine lv_iload_n hx hb dX4_leftIn_4 rfl (lv_at hl 3 rfl) ?_
  refine lv_aload_n hx hb dX4_leftIn_5 rfl (lv_at hl 0 rfl) ?_
  refine g_getr X w fg_X4_26 KD_30 FR_30_0 dX4_leftIn_6 ?_
  refine g_geti X w fg_X4_56 KD_3 FR_3_0 dX4_leftIn_9 ?_
  refine g_icmp_ge (tgt := 54) X hv3 (w.2.2 _ _) dX4_leftIn_12 (by decide) (fun cd => ?_) (fun cd => ?_)
  · replace hf := ite_t cd hf
    exact HE v2 v3 _ _ _ (Option.some.inj hf).symm hv2 hv3 hl w
  · replace hf := ite_f cd hf
    refine lv_iload_n hx hb dX4_leftIn_15 rfl (lv_at hl 1 rfl) ?_
    refine lv_iload_n hx hb dX4_leftIn_16 rfl (lv_at hl 3 rfl) ?_
    refine g_ishr X dX4_leftIn_17 ?_
    refine g_iconst X dX4_leftIn_18 ?_
    refine g_iand X dX4_leftIn_19 ?_
    refine g_if_eq (tgt := 48) X (inR_toInt _) dX4_leftIn_20 (by decide) (fun cd_2 => ?_) (fun cd_2 => ?_)
    · replace hf := ite_t cd_2 hf
      obtain ⟨v3_2, ev3_2, hf⟩ := lt_some hf
      have hv3_2 : inR v3_2 := inR_of ev3_2 (inR_wrap _)
      refine lv_iinc (v := i2 v3_2) (lv' := [(3, .int (i2 v3_2)), (0, .ref (ad 30)), (1, .int (i2 v1)), (2, .int (i2 v2))]) hx hb dX4_leftIn_48 hl (k := 3) rfl (by rw [ev3_2]; exact i2_add _ _) (by decide) rfl (fun ls hl => ?_)
      refine lv_goto (tgt := 4) hx hb dX4_leftIn_51 (by decide) ?_
      exact HC v2 v3_2 _ _ _ (Option.some.inj hf).symm hv2 hv3_2 (lv_sub hl [1, 2, 3, 0] rfl) w
    · replace hf := ite_f cd_2 hf
      refine lv_aload_n hx hb dX4_leftIn_23 rfl (lv_at hl 0 rfl) ?_
      refine g_getr X w fg_X4_15 KD_30 FR_30_5 dX4_leftIn_24 ?_
      refine lv_iload_n hx hb dX4_leftIn_27 rfl (lv_at hl 3 rfl) ?_
      obtain ⟨hg, hf⟩ := gd_some hf
      refine g_iald X w KD_32 hv3 hg dX4_leftIn_28 ?_
      refine lv_iload_n hx hb dX4_leftIn_29 rfl (lv_at hl 1 rfl) ?_
      refine g_iand X dX4_leftIn_30 ?_
      refine g_if_ne (tgt := 48) X (inR_toInt _) dX4_leftIn_31 (by decide) (fun cd_3 => ?_) (fun cd_3 => ?_)
      · replace hf := ite_f cd_3 hf
        obtain ⟨v3_3, ev3_3, hf⟩ := lt_some hf
        have hv3_3 : inR v3_3 := inR_of ev3_3 (inR_wrap _)
        refine lv_iinc (v := i2 v3_3) (lv' := [(3, .int (i2 v3_3)), (0, .ref (ad 30)), (1, .int (i2 v1)), (2, .int (i2 v2))]) hx hb dX4_leftIn_48 hl (k := 3) rfl (by rw [ev3_3]; exact i2_add _ _) (by decide) rfl (fun ls hl => ?_)
        refine lv_goto (tgt := 4) hx hb dX4_leftIn_51 (by decide) ?_
        exact HC v2 v3_3 _ _ _ (Option.some.inj hf).symm hv2 hv3_3 (lv_sub hl [1, 2, 3, 0] rfl) w
      · replace hf := ite_t cd_3 hf
        refine lv_iload_n hx hb dX4_leftIn_34 rfl (lv_at hl 2 rfl) ?_
        refine g_iconst X dX4_leftIn_35 ?_
        refine lv_aload_n hx hb dX4_leftIn_36 rfl (lv_at hl 0 rfl) ?_
        refine g_getr X w fg_X4_26 KD_30 FR_30_0 dX4_leftIn_37 ?_
        refine g_getr X w fg_X4_82 KD_3 FR_3_5 dX4_leftIn_40 ?_
        refine lv_iload_n hx hb dX4_leftIn_43 rfl (lv_at hl 3 rfl) ?_
        obtain ⟨hg_2, hf⟩ := gd_some hf
        refine g_iald X w KD_8 hv3 hg_2 dX4_leftIn_44 ?_
        refine g_iadd X dX4_leftIn_45 ?_
        refine g_iadd X dX4_leftIn_46 ?_
        obtain ⟨v2_2, ev2_2, hf⟩ := lt_some hf
        have hv2_2 : inR v2_2 := inR_of ev2_2 (inR_wrap _)
        refine g_istn (v := v2_2) (lv' := [(2, .int (i2 v2_2)), (0, .ref (ad 30)), (1, .int (i2 v1)), (3, .int (i2 v3))]) X ev2_2 dX4_leftIn_47 rfl hl (by decide) rfl (fun ls hl => ?_)
        obtain ⟨v3_4, ev3_4, hf⟩ := lt_some hf
        have hv3_4 : inR v3_4 := inR_of ev3_4 (inR_wrap _)
        refine lv_iinc (v := i2 v3_4) (lv' := [(3, .int (i2 v3_4)), (2, .int (i2 v2_2)), (0, .ref (ad 30)), (1, .int (i2 v1))]) hx hb dX4_leftIn_48 hl (k := 3) rfl (by rw [ev3_4]; exact i2_add _ _) (by decide) rfl (fun ls hl => ?_)
        refine lv_goto (tgt := 4) hx hb dX4_leftIn_51 (by decide) ?_
        exact HC v2_2 v3_4 _ _ _ (Option.some.inj hf).symm hv2_2 hv3_4 (lv_sub hl [2, 3, 1, 0] rfl) w
set_option maxRecDepth 100000 in
set_option maxHeartbeats 4000000 in
theorem l_X4_leftIn_4 (X : CX p s m args c cX4_leftIn 4 RX4 D aC ad sg A H0) (v1 : Int) (hv1 : inR v1) {M : Mem} {out : Int × Int} (HE : ∀ (y2 : Int) (y3 : Int) (H : Heap) (locs : List Loc) (ls : Array Slot), out = (y2, y3) → inR y2 → inR y3 → lv_has ls 4 [(0, .ref (ad 30)), (1, .int (i2 v1)), (2, .int (i2 y2)), (3, .int (i2 y3))] → WS D aC ad A H0 M H locs → W p l e rm_X4_leftIn s m args below meth c H locs 0 0 Q (F0 m 54 ls [])) : ∀ (n : Nat) (v2 : Int) (v3 : Int), whl (fun s => f_X4_leftIn_s4 v1 M s.1 s.2) n (v2, v3) = some out → inR v2 → inR v3 → ∀ {H : Heap} {locs : List Loc} {ls : Array Slot}, lv_has ls 4 [(0, .ref (ad 30)), (1, .int (i2 v1)), (2, .int (i2 v2)), (3, .int (i2 v3))] → WS D aC ad A H0 M H locs → W p l e rm_X4_leftIn s m args below meth c H locs 0 0 Q (F0 m 4 ls []) := by
  intro n
  induction n with
  | zero => intro v2 v3 hf; exact (whl_zero hf).elim
  | succ n ih =>
    intro v2 v3 hf hv2 hv3 H locs ls hl w
    obtain ⟨o, hf, hk1, hk2⟩ := whl_step hf
    exact b_X4_leftIn_s4 X v1 hv1 (fun y2 y3 H locs ls eo hy2 hy3 hl w => ih y2 y3 (hk1 _ eo) hy2 hy3 hl w) (fun y2 y3 H locs ls eo hy2 hy3 hl w => HE y2 y3 H locs ls (hk2 _ eo).symm hy2 hy3 hl w) v2 hv2 v3 hv3 hf hl w
set_option maxRecDepth 100000 in
set_option maxHeartbeats 4000000 in
theorem b_X4_leftIn_j54 (X : CX p s m args c cX4_leftIn 4 RX4 D aC ad sg A H0) {M : Mem} {o : Int} (HR : ∀ (r : Int) (H : Heap) (locs : List Loc) (pc : Nat) (ls : Array Slot), o = r → inR r → WS D aC ad A H0 M H locs → decode cX4_leftIn pc = .ok (.ireturn, 1) → W p l e rm_X4_leftIn s m args below meth c H locs 0 0 Q (F0 m pc ls [.int (i2 r)])) (v2 : Int) (hv2 : inR v2) (hf : f_X4_leftIn_j54 v2 M = some o) {H : Heap} {locs : List Loc} {ls : Array Slot} (hl : lv_has ls 4 [(2, .int (i2 v2))]) (w : WS D aC ad A H0 M H locs) : W p l e rm_X4_leftIn s m args below meth c H locs 0 0 Q (F0 m 54 ls []) := by
  have hx := X.1.1
  have hb := X.1.2.1
  unfold f_X4_leftIn_j54 at hf
  refine lv_iload_n hx hb dX4_leftIn_54 rfl (lv_at hl 0 rfl) ?_
  exact HR v2 _ _ _ _ (Option.some.inj hf).symm hv2 w dX4_leftIn_55
set_option maxRecDepth 100000 in
set_option maxHeartbeats 4000000 in
theorem b_X4_leftIn_0 (X : CX p s m args c cX4_leftIn 4 RX4 D aC ad sg A H0) {M : Mem} {o : Int} (HR : ∀ (r : Int) (H : Heap) (locs : List Loc) (pc : Nat) (ls : Array Slot), o = r → inR r → WS D aC ad A H0 M H locs → decode cX4_leftIn pc = .ok (.ireturn, 1) → W p l e rm_X4_leftIn s m args below meth c H locs 0 0 Q (F0 m pc ls [.int (i2 r)])) (p1 : Int) (hp1 : inR p1) (hf : f_X4_leftIn p1 M = some o) {H : Heap} {locs : List Loc} {ls : Array Slot} (hl : lv_has ls 4 [(0, .ref (ad 30)), (1, .int (i2 p1))]) (w : WS D aC ad A H0 M H locs) : W p l e rm_X4_leftIn s m args below meth c H locs 0 0 Q (F0 m 0 ls []) := by
  have hx := X.1.1
  have hb := X.1.2.1
  unfold f_X4_leftIn at hf
  refine g_iconst X dX4_leftIn_0 ?_
  refine g_istn (v := 0) (lv' := [(2, .int (i2 0)), (0, .ref (ad 30)), (1, .int (i2 p1))]) X rfl dX4_leftIn_1 rfl hl (by decide) rfl (fun ls hl => ?_)
  refine g_iconst X dX4_leftIn_2 ?_
  refine g_istn (v := 0) (lv' := [(3, .int (i2 0)), (2, .int (i2 0)), (0, .ref (ad 30)), (1, .int (i2 p1))]) X rfl dX4_leftIn_3 rfl hl (by decide) rfl (fun ls hl => ?_)
  obtain ⟨q, hq, h1⟩ := obn_some hf
  exact l_X4_leftIn_4 X p1 hp1 (out := q) (fun y2 y3 H locs ls eq hy2 hy3 hl w => b_X4_leftIn_j54 X  HR y2 hy2 (by subst eq; exact h1) (lv_sub hl [2] rfl) w)  FU 0 0 hq (inL rfl) (inL rfl) (lv_sub hl [2, 3, 1, 0] rfl) w
set_option maxRecDepth 100000 in
set_option maxHeartbeats 4000000 in
theorem k_X4_leftIn {l : Launch} {D : va_G} {aC : Nat → ClassId} {ad : Nat → Nat} {sg : SG} (hi : Inj ad) (p1 : Int) (hp1 : inR p1) {M : Mem} (hM : inM M) {r : Int} (hf : f_X4_leftIn p1 M = some r) : MetI l D aC ad sg yX4_leftIn cX4_leftIn 4 (some .int) rm_X4_leftIn 0 0 [.ref (ad 30), .int (i2 p1)] M r M := by
  refine MetI.ofI (by decide +kernel) (nle rfl) hi hM (fun p e s m args below meth c Q H0 ls X hl w hret => ?_)
  exact b_X4_leftIn_0 X  (fun r1 H locs pc ls eo hP w dg => by cases eo; exact hret H locs pc ls hP w dg) p1 hp1 hf hl w
set_option maxRecDepth 100000 in
set_option maxHeartbeats 4000000 in
theorem b_X4_regretIn_s26 (X : CX p s m args c cX4_regretIn 5 RX4 D aC ad sg A H0) (v1 : Int) (hv1 : inR v1) (v3 : Int) (hv3 : inR v3) {M : Mem} {o : (Int × Int) ⊕ (Int × Int)} (HC : ∀ (y2 : Int) (y4 : Int) (H : Heap) (locs : List Loc) (ls : Array Slot), o = .inl (y2, y4) → inR y2 → inR y4 → lv_has ls 5 [(0, .ref (ad 30)), (1, .int (i2 v1)), (2, .int (i2 y2)), (3, .int (i2 v3)), (4, .int (i2 y4))] → WS D aC ad A H0 M H locs → W p l e rm_X4_regretIn s m args below meth c H locs 0 0 Q (F0 m 26 ls [])) (HE : ∀ (y2 : Int) (y4 : Int) (H : Heap) (locs : List Loc) (ls : Array Slot), o = .inr (y2, y4) → inR y2 → inR y4 → lv_has ls 5 [(0, .ref (ad 30)), (1, .int (i2 v1)), (2, .int (i2 y2)), (3, .int (i2 v3)), (4, .int (i2 y4))] → WS D aC ad A H0 M H locs → W p l e rm_X4_regretIn s m args below meth c H locs 0 0 Q (F0 m 65 ls [])) (v2 : Int) (hv2 : inR v2) (v4 : Int) (hv4 : inR v4) (hf : f_X4_regretIn_s26 v1 v3 M v2 v4 = some o) {H : Heap} {locs : List Loc} {ls : Array Slot} (hl : lv_has ls 5 [(0, .ref (ad 30)), (1, .int (i2 v1)), (2, .int (i2 v2)), (3, .int (i2 v3)), (4, .int (i2 v4))]) (w : WS D aC ad A H0 M H locs) : W p l e rm_X4_regretIn s m args below meth c H locs 0 0 Q (F0 m 26 ls []) := by
  have hx := X.1.1
  have hb := X.1.2.1
  unfold f_X4_regretIn_s26 at hf
  refine lv_iload hx hb dX4_regretIn_26 (lv_at hl 4 rfl) ?_
  refine lv_iload_n hx hb dX4_regretIn_28 rfl (lv_at hl 3 rfl) ?_
  refine g_icmp_ge (tgt := 65) X hv4 hv3 dX4_regretIn_29 (by decide) (fun cd => ?_) (fun cd => ?_)
  · replace hf := ite_t cd hf
    exact HE v2 v4 _ _ _ (Option.some.inj hf).symm hv2 hv4 hl w
  · replace hf := ite_f cd hf
    refine lv_iload_n hx hb dX4_regretIn_32 rfl (lv_at hl 1 rfl) ?_
    refine lv_iload hx hb dX4_regretIn_33 (lv_at hl 4 rfl) ?_
    refine g_ishr X dX4_regretIn_35 ?_
    refine g_iconst X dX4_regretIn_36 ?_
    refine g_iand X dX4_regretIn_37 ?_
    refine g_if_eq (tgt := 59) X (inR_toInt _) dX4_regretIn_38 (by decide) (fun cd_2 => ?_) (fun cd_2 => ?_)
    · replace hf := ite_t cd_2 hf
      obtain ⟨v4_2, ev4_2, hf⟩ := lt_some hf
      have hv4_2 : inR v4_2 := inR_of ev4_2 (inR_wrap _)
      refine lv_iinc (v := i2 v4_2) (lv' := [(4, .int (i2 v4_2)), (0, .ref (ad 30)), (1, .int (i2 v1)), (2, .int (i2 v2)), (3, .int (i2 v3))]) hx hb dX4_regretIn_59 hl (k := 4) rfl (by rw [ev4_2]; exact i2_add _ _) (by decide) rfl (fun ls hl => ?_)
      refine lv_goto (tgt := 26) hx hb dX4_regretIn_62 (by decide) ?_
      exact HC v2 v4_2 _ _ _ (Option.some.inj hf).symm hv2 hv4_2 (lv_sub hl [1, 2, 3, 4, 0] rfl) w
    · replace hf := ite_f cd_2 hf
      refine lv_iload_n hx hb dX4_regretIn_41 rfl (lv_at hl 2 rfl) ?_
      refine lv_aload_n hx hb dX4_regretIn_42 rfl (lv_at hl 0 rfl) ?_
      refine g_getr X w fg_X4_26 KD_30 FR_30_0 dX4_regretIn_43 ?_
      refine g_getr X w fg_X4_140 KD_3 FR_3_10 dX4_regretIn_46 ?_
      refine lv_iload_n hx hb dX4_regretIn_49 rfl (lv_at hl 3 rfl) ?_
      refine g_bipush X dX4_regretIn_50 (by decide) ?_
      refine g_imul X dX4_regretIn_52 ?_
      refine lv_iload hx hb dX4_regretIn_53 (lv_at hl 4 rfl) ?_
      refine g_iadd X dX4_regretIn_55 ?_
      obtain ⟨hg, hf⟩ := gd_some hf
      refine g_iald X w KD_13 (inR_wrap _) hg dX4_regretIn_56 ?_
      refine g_iadd X dX4_regretIn_57 ?_
      obtain ⟨v2_2, ev2_2, hf⟩ := lt_some hf
      have hv2_2 : inR v2_2 := inR_of ev2_2 (inR_wrap _)
      refine g_istn (v := v2_2) (lv' := [(2, .int (i2 v2_2)), (0, .ref (ad 30)), (1, .int (i2 v1)), (3, .int (i2 v3)), (4, .int (i2 v4))]) X ev2_2 dX4_regretIn_58 rfl hl (by decide) rfl (fun ls hl => ?_)
      obtain ⟨v4_3, ev4_3, hf⟩ := lt_some hf
      have hv4_3 : inR v4_3 := inR_of ev4_3 (inR_wrap _)
      refine lv_iinc (v := i2 v4_3) (lv' := [(4, .int (i2 v4_3)), (2, .int (i2 v2_2)), (0, .ref (ad 30)), (1, .int (i2 v1)), (3, .int (i2 v3))]) hx hb dX4_regretIn_59 hl (k := 4) rfl (by rw [ev4_3]; exact i2_add _ _) (by decide) rfl (fun ls hl => ?_)
      refine lv_goto (tgt := 26) hx hb dX4_regretIn_62 (by decide) ?_
      exact HC v2_2 v4_3 _ _ _ (Option.some.inj hf).symm hv2_2 hv4_3 (lv_sub hl [2, 3, 1, 4, 0] rfl) w
set_option maxRecDepth 100000 in
set_option maxHeartbeats 4000000 in
theorem l_X4_regretIn_26 (X : CX p s m args c cX4_regretIn 5 RX4 D aC ad sg A H0) (v1 : Int) (hv1 : inR v1) (v3 : Int) (hv3 : inR v3) {M : Mem} {out : Int × Int} (HE : ∀ (y2 : Int) (y4 : Int) (H : Heap) (locs : List Loc) (ls : Array Slot), out = (y2, y4) → inR y2 → inR y4 → lv_has ls 5 [(0, .ref (ad 30)), (1, .int (i2 v1)), (2, .int (i2 y2)), (3, .int (i2 v3)), (4, .int (i2 y4))] → WS D aC ad A H0 M H locs → W p l e rm_X4_regretIn s m args below meth c H locs 0 0 Q (F0 m 65 ls [])) : ∀ (n : Nat) (v2 : Int) (v4 : Int), whl (fun s => f_X4_regretIn_s26 v1 v3 M s.1 s.2) n (v2, v4) = some out → inR v2 → inR v4 → ∀ {H : Heap} {locs : List Loc} {ls : Array Slot}, lv_has ls 5 [(0, .ref (ad 30)), (1, .int (i2 v1)), (2, .int (i2 v2)), (3, .int (i2 v3)), (4, .int (i2 v4))] → WS D aC ad A H0 M H locs → W p l e rm_X4_regretIn s m args below meth c H locs 0 0 Q (F0 m 26 ls []) := by
  intro n
  induction n with
  | zero => intro v2 v4 hf; exact (whl_zero hf).elim
  | succ n ih =>
    intro v2 v4 hf hv2 hv4 H locs ls hl w
    obtain ⟨o, hf, hk1, hk2⟩ := whl_step hf
    exact b_X4_regretIn_s26 X v1 hv1 v3 hv3 (fun y2 y4 H locs ls eo hy2 hy4 hl w => ih y2 y4 (hk1 _ eo) hy2 hy4 hl w) (fun y2 y4 H locs ls eo hy2 hy4 hl w => HE y2 y4 H locs ls (hk2 _ eo).symm hy2 hy4 hl w) v2 hv2 v4 hv4 hf hl w
set_option maxRecDepth 100000 in
set_option maxHeartbeats 4000000 in
theorem b_X4_regretIn_j65k4 (X : CX p s m args c cX4_regretIn 5 RX4 D aC ad sg A H0) (v1 : Int) (hv1 : inR v1) {M : Mem} {o : (Int × Int) ⊕ (Int × Int)} (HC : ∀ (y2 : Int) (y3 : Int) (H : Heap) (locs : List Loc) (ls : Array Slot), o = .inl (y2, y3) → inR y2 → inR y3 → lv_has ls 5 [(0, .ref (ad 30)), (1, .int (i2 v1)), (2, .int (i2 y2)), (3, .int (i2 y3))] → WS D aC ad A H0 M H locs → W p l e rm_X4_regretIn s m args below meth c H locs 0 0 Q (F0 m 4 ls [])) (HE : ∀ (y2 : Int) (y3 : Int) (H : Heap) (locs : List Loc) (ls : Array Slot), o = .inr (y2, y3) → inR y2 → inR y3 → lv_has ls 5 [(0, .ref (ad 30)), (1, .int (i2 v1)), (2, .int (i2 y2)), (3, .int (i2 y3))] → WS D aC ad A H0 M H locs → W p l e rm_X4_regretIn s m args below meth c H locs 0 0 Q (F0 m 71 ls [])) (v2 : Int) (hv2 : inR v2) (v3 : Int) (hv3 : inR v3) (hf : f_X4_regretIn_j65k4 v1 v2 v3 M = some o) {H : Heap} {locs : List Loc} {ls : Array Slot} (hl : lv_has ls 5 [(0, .ref (ad 30)), (1, .int (i2 v1)), (2, .int (i2 v2)), (3, .int (i2 v3))]) (w : WS D aC ad A H0 M H locs) : W p l e rm_X4_regretIn s m args below meth c H locs 0 0 Q (F0 m 65 ls []) := by
  have hx := X.1.1
  have hb := X.1.2.1
  unfold f_X4_regretIn_j65k4 at hf
  obtain ⟨v3_2, ev3_2, hf⟩ := lt_some hf
  have hv3_2 : inR v3_2 := inR_of ev3_2 (inR_wrap _)
  refine lv_iinc (v := i2 v3_2) (lv' := [(3, .int (i2 v3_2)), (0, .ref (ad 30)), (1, .int (i2 v1)), (2, .int (i2 v2))]) hx hb dX4_regretIn_65 hl (k := 3) rfl (by rw [ev3_2]; exact i2_add _ _) (by decide) rfl (fun ls hl => ?_)
  refine lv_goto (tgt := 4) hx hb dX4_regretIn_68 (by decide) ?_
  exact HC v2 v3_2 _ _ _ (Option.some.inj hf).symm hv2 hv3_2 (lv_sub hl [1, 2, 3, 0] rfl) w
set_option maxRecDepth 100000 in
set_option maxHeartbeats 4000000 in
theorem b_X4_regretIn_s4 (X : CX p s m args c cX4_regretIn 5 RX4 D aC ad sg A H0) (v1 : Int) (hv1 : inR v1) {M : Mem} {o : (Int × Int) ⊕ (Int × Int)} (HC : ∀ (y2 : Int) (y3 : Int) (H : Heap) (locs : List Loc) (ls : Array Slot), o = .inl (y2, y3) → inR y2 → inR y3 → lv_has ls 5 [(0, .ref (ad 30)), (1, .int (i2 v1)), (2, .int (i2 y2)), (3, .int (i2 y3))] → WS D aC ad A H0 M H locs → W p l e rm_X4_regretIn s m args below meth c H locs 0 0 Q (F0 m 4 ls [])) (HE : ∀ (y2 : Int) (y3 : Int) (H : Heap) (locs : List Loc) (ls : Array Slot), o = .inr (y2, y3) → inR y2 → inR y3 → lv_has ls 5 [(0, .ref (ad 30)), (1, .int (i2 v1)), (2, .int (i2 y2)), (3, .int (i2 y3))] → WS D aC ad A H0 M H locs → W p l e rm_X4_regretIn s m args below meth c H locs 0 0 Q (F0 m 71 ls [])) (v2 : Int) (hv2 : inR v2) (v3 : Int) (hv3 : inR v3) (hf : f_X4_regretIn_s4 v1 M v2 v3 = some o) {H : Heap} {locs : List Loc} {ls : Array Slot} (hl : lv_has ls 5 [(0, .ref (ad 30)), (1, .int (i2 v1)), (2, .int (i2 v2)), (3, .int (i2 v3))]) (w : WS D aC ad A H0 M H locs) : W p l e rm_X4_regretIn s m args below meth c H locs 0 0 Q (F0 m 4 ls []) := by
  have hx := X.1.1
  have hb := X.1.2.1
  unfold f_X4_regretIn_s4 at hf
  refine lv_iload_n hx hb dX4_regretIn_4 rfl (lv_at hl 3 rfl) ?_
  refine lv_aload_n hx hb dX4_regretIn_5 rfl (lv_at hl 0 rfl) ?_
  refine g_getr X w fg_X4_26 KD_30 FR_30_0 dX4_regretIn_6 ?_
  refine g_geti X w fg_X4_56 KD_3 FR_3_0 dX4_regretIn_9 ?_
  refine g_icmp_ge (tgt := 71) X hv3 (w.2.2 _ _) dX4_regretIn_12 (by decide) (fun cd => ?_) (fun cd => ?_)
  · replace hf := ite_t cd hf
    exact HE v2 v3 _ _ _ (Option.some.inj hf).symm hv2 hv3 hl w
  · replace hf := ite_f cd hf
    refine lv_iload_n hx hb dX4_regretIn_15 rfl (lv_at hl 1 rfl) ?_
    refine lv_iload_n hx hb dX4_regretIn_16 rfl (lv_at hl 3 rfl) ?_
    refine g_ishr X dX4_regretIn_17 ?_
    refine g_iconst X dX4_regretIn_18 ?_
    refine g_iand X dX4_regretIn_19 ?_
    refine g_if_eq (tgt := 65) X (inR_toInt _) dX4_regretIn_20 (by decide) (fun cd_2 => ?_) (fun cd_2 => ?_)
    · replace hf := ite_t cd_2 hf
      obtain ⟨v3_2, ev3_2, hf⟩ := lt_some hf
      have hv3_2 : inR v3_2 := inR_of ev3_2 (inR_wrap _)
      refine lv_iinc (v := i2 v3_2) (lv' := [(3, .int (i2 v3_2)), (0, .ref (ad 30)), (1, .int (i2 v1)), (2, .int (i2 v2))]) hx hb dX4_regretIn_65 hl (k := 3) rfl (by rw [ev3_2]; exact i2_add _ _) (by decide) rfl (fun ls hl => ?_)
      refine lv_goto (tgt := 4) hx hb dX4_regretIn_68 (by decide) ?_
      exact HC v2 v3_2 _ _ _ (Option.some.inj hf).symm hv2 hv3_2 (lv_sub hl [1, 2, 3, 0] rfl) w
    · replace hf := ite_f cd_2 hf
      refine g_iconst X dX4_regretIn_23 ?_
      refine g_ist (v := 0) (lv' := [(4, .int (i2 0)), (0, .ref (ad 30)), (1, .int (i2 v1)), (2, .int (i2 v2)), (3, .int (i2 v3))]) X rfl dX4_regretIn_24 hl (by decide) rfl (fun ls hl => ?_)
      obtain ⟨q, hq, h1⟩ := obn_some hf
      exact l_X4_regretIn_26 X v1 hv1 v3 hv3 (out := q) (fun y2 y4 H locs ls eq hy2 hy4 hl w => b_X4_regretIn_j65k4 X v1 hv1 HC HE y2 hy2 v3 hv3 (by subst eq; exact h1) (lv_sub hl [0, 1, 2, 3] rfl) w)  FU v2 0 hq hv2 (inL rfl) (lv_sub hl [1, 2, 3, 4, 0] rfl) w
set_option maxRecDepth 100000 in
set_option maxHeartbeats 4000000 in
theorem l_X4_regretIn_4 (X : CX p s m args c cX4_regretIn 5 RX4 D aC ad sg A H0) (v1 : Int) (hv1 : inR v1) {M : Mem} {out : Int × Int} (HE : ∀ (y2 : Int) (y3 : Int) (H : Heap) (locs : List Loc) (ls : Array Slot), out = (y2, y3) → inR y2 → inR y3 → lv_has ls 5 [(0, .ref (ad 30)), (1, .int (i2 v1)), (2, .int (i2 y2)), (3, .int (i2 y3))] → WS D aC ad A H0 M H locs → W p l e rm_X4_regretIn s m args below meth c H locs 0 0 Q (F0 m 71 ls [])) : ∀ (n : Nat) (v2 : Int) (v3 : Int), whl (fun s => f_X4_regretIn_s4 v1 M s.1 s.2) n (v2, v3) = some out → inR v2 → inR v3 → ∀ {H : Heap} {locs : List Loc} {ls : Array Slot}, lv_has ls 5 [(0, .ref (ad 30)), (1, .int (i2 v1)), (2, .int (i2 v2)), (3, .int (i2 v3))] → WS D aC ad A H0 M H locs → W p l e rm_X4_regretIn s m args below meth c H locs 0 0 Q (F0 m 4 ls []) := by
  intro n
  induction n with
  | zero => intro v2 v3 hf; exact (whl_zero hf).elim
  | succ n ih =>
    intro v2 v3 hf hv2 hv3 H locs ls hl w
    obtain ⟨o, hf, hk1, hk2⟩ := whl_step hf
    exact b_X4_regretIn_s4 X v1 hv1 (fun y2 y3 H locs ls eo hy2 hy3 hl w => ih y2 y3 (hk1 _ eo) hy2 hy3 hl w) (fun y2 y3 H locs ls eo hy2 hy3 hl w => HE y2 y3 H locs ls (hk2 _ eo).symm hy2 hy3 hl w) v2 hv2 v3 hv3 hf hl w
set_option maxRecDepth 100000 in
set_option maxHeartbeats 4000000 in
theorem b_X4_regretIn_j71 (X : CX p s m args c cX4_regretIn 5 RX4 D aC ad sg A H0) {M : Mem} {o : Int} (HR : ∀ (r : Int) (H : Heap) (locs : List Loc) (pc : Nat) (ls : Array Slot), o = r → inR r → WS D aC ad A H0 M H locs → decode cX4_regretIn pc = .ok (.ireturn, 1) → W p l e rm_X4_regretIn s m args below meth c H locs 0 0 Q (F0 m pc ls [.int (i2 r)])) (v2 : Int) (hv2 : inR v2) (hf : f_X4_regretIn_j71 v2 M = some o) {H : Heap} {locs : List Loc} {ls : Array Slot} (hl : lv_has ls 5 [(2, .int (i2 v2))]) (w : WS D aC ad A H0 M H locs) : W p l e rm_X4_regretIn s m args below meth c H locs 0 0 Q (F0 m 71 ls []) := by
  have hx := X.1.1
  have hb := X.1.2.1
  unfold f_X4_regretIn_j71 at hf
  refine lv_iload_n hx hb dX4_regretIn_71 rfl (lv_at hl 0 rfl) ?_
  exact HR v2 _ _ _ _ (Option.some.inj hf).symm hv2 w dX4_regretIn_72
set_option maxRecDepth 100000 in
set_option maxHeartbeats 4000000 in
theorem b_X4_regretIn_0 (X : CX p s m args c cX4_regretIn 5 RX4 D aC ad sg A H0) {M : Mem} {o : Int} (HR : ∀ (r : Int) (H : Heap) (locs : List Loc) (pc : Nat) (ls : Array Slot), o = r → inR r → WS D aC ad A H0 M H locs → decode cX4_regretIn pc = .ok (.ireturn, 1) → W p l e rm_X4_regretIn s m args below meth c H locs 0 0 Q (F0 m pc ls [.int (i2 r)])) (p1 : Int) (hp1 : inR p1) (hf : f_X4_regretIn p1 M = some o) {H : Heap} {locs : List Loc} {ls : Array Slot} (hl : lv_has ls 5 [(0, .ref (ad 30)), (1, .int (i2 p1))]) (w : WS D aC ad A H0 M H locs) : W p l e rm_X4_regretIn s m args below meth c H locs 0 0 Q (F0 m 0 ls []) := by
  have hx := X.1.1
  have hb := X.1.2.1
  unfold f_X4_regretIn at hf
  refine g_iconst X dX4_regretIn_0 ?_
  refine g_istn (v := 0) (lv' := [(2, .int (i2 0)), (0, .ref (ad 30)), (1, .int (i2 p1))]) X rfl dX4_regretIn_1 rfl hl (by decide) rfl (fun ls hl => ?_)
  refine g_iconst X dX4_regretIn_2 ?_
  refine g_istn (v := 0) (lv' := [(3, .int (i2 0)), (2, .int (i2 0)), (0, .ref (ad 30)), (1, .int (i2 p1))]) X rfl dX4_regretIn_3 rfl hl (by decide) rfl (fun ls hl => ?_)
  obtain ⟨q, hq, h1⟩ := obn_some hf
  exact l_X4_regretIn_4 X p1 hp1 (out := q) (fun y2 y3 H locs ls eq hy2 hy3 hl w => b_X4_regretIn_j71 X  HR y2 hy2 (by subst eq; exact h1) (lv_sub hl [2] rfl) w)  FU 0 0 hq (inL rfl) (inL rfl) (lv_sub hl [2, 3, 1, 0] rfl) w
set_option maxRecDepth 100000 in
set_option maxHeartbeats 4000000 in
theorem k_X4_regretIn {l : Launch} {D : va_G} {aC : Nat → ClassId} {ad : Nat → Nat} {sg : SG} (hi : Inj ad) (p1 : Int) (hp1 : inR p1) {M : Mem} (hM : inM M) {r : Int} (hf : f_X4_regretIn p1 M = some r) : MetI l D aC ad sg yX4_regretIn cX4_regretIn 5 (some .int) rm_X4_regretIn 0 0 [.ref (ad 30), .int (i2 p1)] M r M := by
  refine MetI.ofI (by decide +kernel) (nle rfl) hi hM (fun p e s m args below meth c Q H0 ls X hl w hret => ?_)
  exact b_X4_regretIn_0 X  (fun r1 H locs pc ls eo hP w dg => by cases eo; exact hret H locs pc ls hP w dg) p1 hp1 hf hl w
set_option maxRecDepth 100000 in
set_option maxHeartbeats 4000000 in
theorem b_X4_addedHarm_0 (X : CX p s m args c cX4_addedHarm 3 RX4 D aC ad sg A H0) {M : Mem} {o : Int} (HR : ∀ (r : Int) (H : Heap) (locs : List Loc) (pc : Nat) (ls : Array Slot), o = r → inR r → WS D aC ad A H0 M H locs → decode cX4_addedHarm pc = .ok (.ireturn, 1) → W p l e rm_X4_addedHarm s m args below meth c H locs 0 0 Q (F0 m pc ls [.int (i2 r)])) (p1 : Int) (hp1 : inR p1) (p2 : Int) (hp2 : inR p2) (hf : f_X4_addedHarm p1 p2 M = some o) {H : Heap} {locs : List Loc} {ls : Array Slot} (hl : lv_has ls 3 [(0, .ref (ad 30)), (1, .int (i2 p1)), (2, .int (i2 p2))]) (w : WS D aC ad A H0 M H locs) : W p l e rm_X4_addedHarm s m args below meth c H locs 0 0 Q (F0 m 0 ls []) := by
  have hx := X.1.1
  have hb := X.1.2.1
  unfold f_X4_addedHarm at hf
  refine lv_aload_n hx hb dX4_addedHarm_0 rfl (lv_at hl 0 rfl) ?_
  obtain ⟨hru, hf⟩ := gd_some hf
  refine g_getd X w fg_X4_34 KD_30 FR_30_2 hru dX4_addedHarm_1 ?_
  refine g_getr X w fg_X4_117 (KD_ru hru) (FR_ru_1 hru) dX4_addedHarm_4 ?_
  refine lv_iload_n hx hb dX4_addedHarm_7 rfl (lv_at hl 1 rfl) ?_
  obtain ⟨hg, hf⟩ := gd_some hf
  refine g_iald X w (KD_ru_1 hru) hp1 hg dX4_addedHarm_8 ?_
  by_cases cd : (M ((M 30 2).toNat + 1) p1.toNat) < 10 ∨ 12 < (M ((M 30 2).toNat + 1) p1.toNat)
  · replace hf := ite_t cd hf
    refine g_tout (tgt := 97) X (w.2.2 _ _) cd dX4_addedHarm_9 (by decide) ?_
    refine g_iconst X dX4_addedHarm_97 ?_
    exact HR 0 _ _ _ _ (Option.some.inj hf).symm (inL rfl) w dX4_addedHarm_98
  · replace hf := ite_f cd hf
    by_cases cd_2 : (M ((M 30 2).toNat + 1) p1.toNat) = 10
    · replace hf := ite_t cd_2 hf
      refine g_tin (tgt := 36) (k := 10) (off := 27) X cd_2 (w.2.2 _ _) (by decide) (by decide) (by rfl) dX4_addedHarm_9 (by decide) ?_
      refine lv_aload_n hx hb dX4_addedHarm_36 rfl (lv_at hl 0 rfl) ?_
      obtain ⟨hru_2, hf⟩ := gd_some hf
      refine g_getd X w fg_X4_34 KD_30 FR_30_2 hru_2 dX4_addedHarm_37 ?_
      refine g_getr X w fg_X4_131 (KD_ru hru_2) (FR_ru_2 hru_2) dX4_addedHarm_40 ?_
      refine lv_iload_n hx hb dX4_addedHarm_43 rfl (lv_at hl 1 rfl) ?_
      obtain ⟨hg_2, hf⟩ := gd_some hf
      refine g_iald X w (KD_ru_2 hru_2) hp1 hg_2 dX4_addedHarm_44 ?_
      refine lv_aload_n hx hb dX4_addedHarm_45 rfl (lv_at hl 0 rfl) ?_
      refine lv_iload_n hx hb dX4_addedHarm_46 rfl (lv_at hl 2 rfl) ?_
      obtain ⟨r, hc, hf⟩ := obn_some hf
      refine g_cvi (As := [.int (i2 p2)]) (rest := [.int (i2 (M ((M 30 2).toNat + 2) p1.toNat))]) X w (k_X4_leftIn X.2.2.1 p2 hp2 w.2.2 hc) lk_X4_134 cl_4 KD_30 ⟨rfl, rfl⟩ ⟨nle rfl, nle rfl⟩ ⟨nle rfl, nle rfl⟩ hl.1 rfl (nle rfl) dX4_addedHarm_47 (fun hr H locs w => ?_)
      refine g_imul X dX4_addedHarm_50 ?_
      exact HR (wrap ((M ((M 30 2).toNat + 2) p1.toNat) * r)) _ _ _ _ (Option.some.inj hf).symm (inR_wrap _) w dX4_addedHarm_51
    · replace hf := ite_f cd_2 hf
      by_cases cd_3 : (M ((M 30 2).toNat + 1) p1.toNat) = 11
      · replace hf := ite_t cd_3 hf
        refine g_tin (tgt := 52) (k := 11) (off := 43) X cd_3 (w.2.2 _ _) (by decide) (by decide) (by rfl) dX4_addedHarm_9 (by decide) ?_
        refine lv_aload_n hx hb dX4_addedHarm_52 rfl (lv_at hl 0 rfl) ?_
        refine g_getr X w fg_X4_20 KD_30 FR_30_6 dX4_addedHarm_53 ?_
        refine lv_iload_n hx hb dX4_addedHarm_56 rfl (lv_at hl 1 rfl) ?_
        obtain ⟨hg_3, hf⟩ := gd_some hf
        refine g_iald X w KD_33 hp1 hg_3 dX4_addedHarm_57 ?_
        refine lv_iload_n hx hb dX4_addedHarm_58 rfl (lv_at hl 2 rfl) ?_
        refine g_iand X dX4_addedHarm_59 ?_
        obtain ⟨r_2, hc, hf⟩ := obn_some hf
        refine g_csi (As := [.int (i2 (band (M 33 p1.toNat) p2))]) (rest := []) X w (k_J6_bitCount_0f7a4 X.2.2.1 (band (M 33 p1.toNat) p2) (inR_toInt _) w.2.2 hc) lk_X4_123 ⟨rfl, rfl⟩ ⟨nle rfl, nle rfl⟩ ⟨nle rfl, nle rfl⟩ hl.1 rfl (nle rfl) dX4_addedHarm_60 (fun hr_2 H locs w => ?_)
        refine g_iconst X dX4_addedHarm_63 ?_
        refine g_icmp_ne (tgt := 79) X hr_2 (inL rfl) dX4_addedHarm_64 (by decide) (fun cd_4 => ?_) (fun cd_4 => ?_)
        · replace hf := ite_f cd_4 hf
          refine g_iconst X dX4_addedHarm_79 ?_
          exact HR 0 _ _ _ _ (Option.some.inj hf).symm (inL rfl) w dX4_addedHarm_80
        · replace hf := ite_t cd_4 hf
          refine lv_aload_n hx hb dX4_addedHarm_67 rfl (lv_at hl 0 rfl) ?_
          obtain ⟨hru_3, hf⟩ := gd_some hf
          refine g_getd X w fg_X4_34 KD_30 FR_30_2 hru_3 dX4_addedHarm_68 ?_
          refine g_getr X w fg_X4_131 (KD_ru hru_3) (FR_ru_2 hru_3) dX4_addedHarm_71 ?_
          refine lv_iload_n hx hb dX4_addedHarm_74 rfl (lv_at hl 1 rfl) ?_
          obtain ⟨hg_4, hf⟩ := gd_some hf
          refine g_iald X w (KD_ru_2 hru_3) hp1 hg_4 dX4_addedHarm_75 ?_
          refine lv_goto (tgt := 80) hx hb dX4_addedHarm_76 (by decide) ?_
          exact HR (M ((M 30 2).toNat + 2) p1.toNat) _ _ _ _ (Option.some.inj hf).symm (w.2.2 _ _) w dX4_addedHarm_80
      · replace hf := ite_f cd_3 hf
        by_cases cd_5 : (M ((M 30 2).toNat + 1) p1.toNat) = 12
        · replace hf := ite_t cd_5 hf
          refine g_tin (tgt := 81) (k := 12) (off := 72) X cd_5 (w.2.2 _ _) (by decide) (by decide) (by rfl) dX4_addedHarm_9 (by decide) ?_
          refine lv_aload_n hx hb dX4_addedHarm_81 rfl (lv_at hl 0 rfl) ?_
          obtain ⟨hru_4, hf⟩ := gd_some hf
          refine g_getd X w fg_X4_34 KD_30 FR_30_2 hru_4 dX4_addedHarm_82 ?_
          refine g_getr X w fg_X4_131 (KD_ru hru_4) (FR_ru_2 hru_4) dX4_addedHarm_85 ?_
          refine lv_iload_n hx hb dX4_addedHarm_88 rfl (lv_at hl 1 rfl) ?_
          obtain ⟨hg_5, hf⟩ := gd_some hf
          refine g_iald X w (KD_ru_2 hru_4) hp1 hg_5 dX4_addedHarm_89 ?_
          refine lv_aload_n hx hb dX4_addedHarm_90 rfl (lv_at hl 0 rfl) ?_
          refine lv_iload_n hx hb dX4_addedHarm_91 rfl (lv_at hl 2 rfl) ?_
          obtain ⟨r_3, hc, hf⟩ := obn_some hf
          refine g_cvi (As := [.int (i2 p2)]) (rest := [.int (i2 (M ((M 30 2).toNat + 2) p1.toNat))]) X w (k_X4_regretIn X.2.2.1 p2 hp2 w.2.2 hc) lk_X4_137 cl_4 KD_30 ⟨rfl, rfl⟩ ⟨nle rfl, nle rfl⟩ ⟨nle rfl, nle rfl⟩ hl.1 rfl (nle rfl) dX4_addedHarm_92 (fun hr_3 H locs w => ?_)
          refine g_imul X dX4_addedHarm_95 ?_
          exact HR (wrap ((M ((M 30 2).toNat + 2) p1.toNat) * r_3)) _ _ _ _ (Option.some.inj hf).symm (inR_wrap _) w dX4_addedHarm_96
        · replace hf := ite_f cd_5 hf
          cases hf
set_option maxRecDepth 100000 in
set_option maxHeartbeats 4000000 in
theorem k_X4_addedHarm {l : Launch} {D : va_G} {aC : Nat → ClassId} {ad : Nat → Nat} {sg : SG} (hi : Inj ad) (p1 : Int) (hp1 : inR p1) (p2 : Int) (hp2 : inR p2) {M : Mem} (hM : inM M) {r : Int} (hf : f_X4_addedHarm p1 p2 M = some r) : MetI l D aC ad sg yX4_addedHarm cX4_addedHarm 3 (some .int) rm_X4_addedHarm 0 0 [.ref (ad 30), .int (i2 p1), .int (i2 p2)] M r M := by
  refine MetI.ofI (by decide +kernel) (nle rfl) hi hM (fun p e s m args below meth c Q H0 ls X hl w hret => ?_)
  exact b_X4_addedHarm_0 X  (fun r1 H locs pc ls eo hP w dg => by cases eo; exact hret H locs pc ls hP w dg) p1 hp1 p2 hp2 hf hl w
set_option maxRecDepth 100000 in
set_option maxHeartbeats 4000000 in
theorem b_X4_joins_0 (X : CX p s m args c cX4_joins 3 RX4 D aC ad sg A H0) {M : Mem} {o : Int} (HR : ∀ (r : Int) (H : Heap) (locs : List Loc) (pc : Nat) (ls : Array Slot), o = r → isZ r → WS D aC ad A H0 M H locs → decode cX4_joins pc = .ok (.ireturn, 1) → W p l e rm_X4_joins s m args below meth c H locs 0 0 Q (F0 m pc ls [.int (i2 r)])) (p1 : Int) (hp1 : inR p1) (p2 : Int) (hp2 : inR p2) (hf : f_X4_joins p1 p2 M = some o) {H : Heap} {locs : List Loc} {ls : Array Slot} (hl : lv_has ls 3 [(0, .ref (ad 30)), (1, .int (i2 p1)), (2, .int (i2 p2))]) (w : WS D aC ad A H0 M H locs) : W p l e rm_X4_joins s m args below meth c H locs 0 0 Q (F0 m 0 ls []) := by
  have hx := X.1.1
  have hb := X.1.2.1
  unfold f_X4_joins at hf
  refine lv_aload_n hx hb dX4_joins_0 rfl (lv_at hl 0 rfl) ?_
  refine g_geti X w fg_X4_42 KD_30 FR_30_3 dX4_joins_1 ?_
  refine g_bipush X dX4_joins_4 (by decide) ?_
  refine g_icmp_ne (tgt := 29) X (w.2.2 _ _) (inL rfl) dX4_joins_6 (by decide) (fun cd => ?_) (fun cd => ?_)
  · replace hf := ite_f cd hf
    refine g_iconst X dX4_joins_29 ?_
    exact HR 0 _ _ _ _ (Option.some.inj hf).symm (Or.inl rfl) w dX4_joins_30
  · replace hf := ite_t cd hf
    refine lv_aload_n hx hb dX4_joins_9 rfl (lv_at hl 0 rfl) ?_
    refine g_getr X w fg_X4_26 KD_30 FR_30_0 dX4_joins_10 ?_
    refine g_getr X w fg_X4_199 KD_3 FR_3_8 dX4_joins_13 ?_
    refine lv_iload_n hx hb dX4_joins_16 rfl (lv_at hl 1 rfl) ?_
    obtain ⟨hg, hf⟩ := gd_some hf
    refine g_iald X w KD_11 hp1 hg dX4_joins_17 ?_
    refine lv_iload_n hx hb dX4_joins_18 rfl (lv_at hl 2 rfl) ?_
    refine g_ishr X dX4_joins_19 ?_
    refine g_iconst X dX4_joins_20 ?_
    refine g_iand X dX4_joins_21 ?_
    refine g_if_eq (tgt := 29) X (inR_toInt _) dX4_joins_22 (by decide) (fun cd_2 => ?_) (fun cd_2 => ?_)
    · replace hf := ite_t cd_2 hf
      refine g_iconst X dX4_joins_29 ?_
      exact HR 0 _ _ _ _ (Option.some.inj hf).symm (Or.inl rfl) w dX4_joins_30
    · replace hf := ite_f cd_2 hf
      refine g_iconst X dX4_joins_25 ?_
      refine lv_goto (tgt := 30) hx hb dX4_joins_26 (by decide) ?_
      exact HR 1 _ _ _ _ (Option.some.inj hf).symm (Or.inr rfl) w dX4_joins_30
set_option maxRecDepth 100000 in
set_option maxHeartbeats 4000000 in
theorem k_X4_joins {l : Launch} {D : va_G} {aC : Nat → ClassId} {ad : Nat → Nat} {sg : SG} (hi : Inj ad) (p1 : Int) (hp1 : inR p1) (p2 : Int) (hp2 : inR p2) {M : Mem} (hM : inM M) {r : Int} (hf : f_X4_joins p1 p2 M = some r) : MetI l D aC ad sg yX4_joins cX4_joins 3 (some .boolean) rm_X4_joins 0 0 [.ref (ad 30), .int (i2 p1), .int (i2 p2)] M r M := by
  refine MetI.ofZ (by decide +kernel) (nle rfl) hi hM (fun p e s m args below meth c Q H0 ls X hl w hret => ?_)
  exact b_X4_joins_0 X  (fun r1 H locs pc ls eo hP w dg => by cases eo; exact hret H locs pc ls hP w dg) p1 hp1 p2 hp2 hf hl w
set_option maxRecDepth 100000 in
set_option maxHeartbeats 4000000 in
theorem b_X4_isSpread_0 (X : CX p s m args c cX4_isSpread 2 RX4 D aC ad sg A H0) {M : Mem} {o : Int} (HR : ∀ (r : Int) (H : Heap) (locs : List Loc) (pc : Nat) (ls : Array Slot), o = r → isZ r → WS D aC ad A H0 M H locs → decode cX4_isSpread pc = .ok (.ireturn, 1) → W p l e rm_X4_isSpread s m args below meth c H locs 0 0 Q (F0 m pc ls [.int (i2 r)])) (p1 : Int) (hp1 : inR p1) (hf : f_X4_isSpread p1 M = some o) {H : Heap} {locs : List Loc} {ls : Array Slot} (hl : lv_has ls 2 [(0, .ref (ad 30)), (1, .int (i2 p1))]) (w : WS D aC ad A H0 M H locs) : W p l e rm_X4_isSpread s m args below meth c H locs 0 0 Q (F0 m 0 ls []) := by
  have hx := X.1.1
  have hb := X.1.2.1
  unfold f_X4_isSpread at hf
  refine lv_aload_n hx hb dX4_isSpread_0 rfl (lv_at hl 0 rfl) ?_
  obtain ⟨hru, hf⟩ := gd_some hf
  refine g_getd X w fg_X4_34 KD_30 FR_30_2 hru dX4_isSpread_1 ?_
  refine g_getr X w fg_X4_117 (KD_ru hru) (FR_ru_1 hru) dX4_isSpread_4 ?_
  refine lv_iload_n hx hb dX4_isSpread_7 rfl (lv_at hl 1 rfl) ?_
  obtain ⟨hg, hf⟩ := gd_some hf
  refine g_iald X w (KD_ru_1 hru) hp1 hg dX4_isSpread_8 ?_
  refine g_bipush X dX4_isSpread_9 (by decide) ?_
  refine g_icmp_eq (tgt := 28) X (w.2.2 _ _) (inL rfl) dX4_isSpread_11 (by decide) (fun cd => ?_) (fun cd => ?_)
  · replace hf := ite_t cd hf
    refine g_iconst X dX4_isSpread_28 ?_
    refine lv_goto (tgt := 33) hx hb dX4_isSpread_29 (by decide) ?_
    exact HR 1 _ _ _ _ (Option.some.inj hf).symm (Or.inr rfl) w dX4_isSpread_33
  · replace hf := ite_f cd hf
    refine lv_aload_n hx hb dX4_isSpread_14 rfl (lv_at hl 0 rfl) ?_
    obtain ⟨hru_2, hf⟩ := gd_some hf
    refine g_getd X w fg_X4_34 KD_30 FR_30_2 hru_2 dX4_isSpread_15 ?_
    refine g_getr X w fg_X4_117 (KD_ru hru_2) (FR_ru_1 hru_2) dX4_isSpread_18 ?_
    refine lv_iload_n hx hb dX4_isSpread_21 rfl (lv_at hl 1 rfl) ?_
    obtain ⟨hg_2, hf⟩ := gd_some hf
    refine g_iald X w (KD_ru_1 hru_2) hp1 hg_2 dX4_isSpread_22 ?_
    refine g_bipush X dX4_isSpread_23 (by decide) ?_
    refine g_icmp_ne (tgt := 32) X (w.2.2 _ _) (inL rfl) dX4_isSpread_25 (by decide) (fun cd_2 => ?_) (fun cd_2 => ?_)
    · replace hf := ite_f cd_2 hf
      refine g_iconst X dX4_isSpread_32 ?_
      exact HR 0 _ _ _ _ (Option.some.inj hf).symm (Or.inl rfl) w dX4_isSpread_33
    · replace hf := ite_t cd_2 hf
      refine g_iconst X dX4_isSpread_28 ?_
      refine lv_goto (tgt := 33) hx hb dX4_isSpread_29 (by decide) ?_
      exact HR 1 _ _ _ _ (Option.some.inj hf).symm (Or.inr rfl) w dX4_isSpread_33
set_option maxRecDepth 100000 in
set_option maxHeartbeats 4000000 in
theorem k_X4_isSpread {l : Launch} {D : va_G} {aC : Nat → ClassId} {ad : Nat → Nat} {sg : SG} (hi : Inj ad) (p1 : Int) (hp1 : inR p1) {M : Mem} (hM : inM M) {r : Int} (hf : f_X4_isSpread p1 M = some r) : MetI l D aC ad sg yX4_isSpread cX4_isSpread 2 (some .boolean) rm_X4_isSpread 0 0 [.ref (ad 30), .int (i2 p1)] M r M := by
  refine MetI.ofZ (by decide +kernel) (nle rfl) hi hM (fun p e s m args below meth c Q H0 ls X hl w hret => ?_)
  exact b_X4_isSpread_0 X  (fun r1 H locs pc ls eo hP w dg => by cases eo; exact hret H locs pc ls hP w dg) p1 hp1 hf hl w
set_option maxRecDepth 100000 in
set_option maxHeartbeats 4000000 in
theorem b_X4_weightOf_0 (X : CX p s m args c cX4_weightOf 3 RX4 D aC ad sg A H0) {M : Mem} {o : Int} (HR : ∀ (r : Int) (H : Heap) (locs : List Loc) (pc : Nat) (ls : Array Slot), o = r → inR r → WS D aC ad A H0 M H locs → decode cX4_weightOf pc = .ok (.ireturn, 1) → W p l e rm_X4_weightOf s m args below meth c H locs 0 0 Q (F0 m pc ls [.int (i2 r)])) (p1 : Int) (hp1 : inR p1) (p2 : Int) (hp2 : inR p2) (hf : f_X4_weightOf p1 p2 M = some o) {H : Heap} {locs : List Loc} {ls : Array Slot} (hl : lv_has ls 3 [(0, .ref (ad 30)), (1, .int (i2 p1)), (2, .int (i2 p2))]) (w : WS D aC ad A H0 M H locs) : W p l e rm_X4_weightOf s m args below meth c H locs 0 0 Q (F0 m 0 ls []) := by
  have hx := X.1.1
  have hb := X.1.2.1
  unfold f_X4_weightOf at hf
  refine lv_aload_n hx hb dX4_weightOf_0 rfl (lv_at hl 0 rfl) ?_
  obtain ⟨hru, hf⟩ := gd_some hf
  refine g_getd X w fg_X4_34 KD_30 FR_30_2 hru dX4_weightOf_1 ?_
  refine g_getr X w fg_X4_117 (KD_ru hru) (FR_ru_1 hru) dX4_weightOf_4 ?_
  refine lv_iload_n hx hb dX4_weightOf_7 rfl (lv_at hl 1 rfl) ?_
  obtain ⟨hg, hf⟩ := gd_some hf
  refine g_iald X w (KD_ru_1 hru) hp1 hg dX4_weightOf_8 ?_
  refine g_bipush X dX4_weightOf_9 (by decide) ?_
  refine g_icmp_ne (tgt := 34) X (w.2.2 _ _) (inL rfl) dX4_weightOf_11 (by decide) (fun cd => ?_) (fun cd => ?_)
  · replace hf := ite_f cd hf
    refine lv_aload_n hx hb dX4_weightOf_34 rfl (lv_at hl 0 rfl) ?_
    refine g_getr X w fg_X4_20 KD_30 FR_30_6 dX4_weightOf_35 ?_
    refine lv_iload_n hx hb dX4_weightOf_38 rfl (lv_at hl 1 rfl) ?_
    obtain ⟨hg_2, hf⟩ := gd_some hf
    refine g_iald X w KD_33 hp1 hg_2 dX4_weightOf_39 ?_
    refine lv_iload_n hx hb dX4_weightOf_40 rfl (lv_at hl 2 rfl) ?_
    refine g_ishr X dX4_weightOf_41 ?_
    refine g_iconst X dX4_weightOf_42 ?_
    refine g_iand X dX4_weightOf_43 ?_
    exact HR (band (bshr (M 33 p1.toNat) p2) 1) _ _ _ _ (Option.some.inj hf).symm (inR_toInt _) w dX4_weightOf_44
  · replace hf := ite_t cd hf
    refine lv_aload_n hx hb dX4_weightOf_14 rfl (lv_at hl 0 rfl) ?_
    refine g_getr X w fg_X4_11 KD_30 FR_30_4 dX4_weightOf_15 ?_
    refine lv_aload_n hx hb dX4_weightOf_18 rfl (lv_at hl 0 rfl) ?_
    obtain ⟨hru_2, hf⟩ := gd_some hf
    refine g_getd X w fg_X4_34 KD_30 FR_30_2 hru_2 dX4_weightOf_19 ?_
    refine g_getr X w fg_X4_120 (KD_ru hru_2) (FR_ru_3 hru_2) dX4_weightOf_22 ?_
    refine lv_iload_n hx hb dX4_weightOf_25 rfl (lv_at hl 1 rfl) ?_
    obtain ⟨hg_3, hf⟩ := gd_some hf
    refine g_iald X w (KD_ru_3 hru_2) hp1 hg_3 dX4_weightOf_26 ?_
    refine g_bipush X dX4_weightOf_27 (by decide) ?_
    refine g_imul X dX4_weightOf_29 ?_
    refine lv_iload_n hx hb dX4_weightOf_30 rfl (lv_at hl 2 rfl) ?_
    refine g_iadd X dX4_weightOf_31 ?_
    obtain ⟨hg_4, hf⟩ := gd_some hf
    refine g_iald X w KD_31 (inR_wrap _) hg_4 dX4_weightOf_32 ?_
    exact HR (M 31 (wrap ((wrap ((M ((M 30 2).toNat + 3) p1.toNat) * 14)) + p2)).toNat) _ _ _ _ (Option.some.inj hf).symm (w.2.2 _ _) w dX4_weightOf_33
set_option maxRecDepth 100000 in
set_option maxHeartbeats 4000000 in
theorem k_X4_weightOf {l : Launch} {D : va_G} {aC : Nat → ClassId} {ad : Nat → Nat} {sg : SG} (hi : Inj ad) (p1 : Int) (hp1 : inR p1) (p2 : Int) (hp2 : inR p2) {M : Mem} (hM : inM M) {r : Int} (hf : f_X4_weightOf p1 p2 M = some r) : MetI l D aC ad sg yX4_weightOf cX4_weightOf 3 (some .int) rm_X4_weightOf 0 0 [.ref (ad 30), .int (i2 p1), .int (i2 p2)] M r M := by
  refine MetI.ofI (by decide +kernel) (nle rfl) hi hM (fun p e s m args below meth c Q H0 ls X hl w hret => ?_)
  exact b_X4_weightOf_0 X  (fun r1 H locs pc ls eo hP w dg => by cases eo; exact hret H locs pc ls hP w dg) p1 hp1 p2 hp2 hf hl w
set_option maxRecDepth 100000 in
set_option maxHeartbeats 4000000 in
theorem b_X4_isWhole_s13 (X : CX p s m args c cX4_isWhole 4 RX4 D aC ad sg A H0) (v1 : Int) (hv1 : inR v1) (v2 : Int) (hv2 : inR v2) {M : Mem} {o : (Int) ⊕ ((Int) ⊕ (Int))} (HC : ∀ (y3 : Int) (H : Heap) (locs : List Loc) (ls : Array Slot), o = .inl y3 → inR y3 → lv_has ls 4 [(0, .ref (ad 30)), (1, .int (i2 v1)), (2, .int (i2 v2)), (3, .int (i2 y3))] → WS D aC ad A H0 M H locs → W p l e rm_X4_isWhole s m args below meth c H locs 0 0 Q (F0 m 13 ls [])) (HE : ∀ (y3 : Int) (H : Heap) (locs : List Loc) (ls : Array Slot), o = .inr (.inl y3) → inR y3 → lv_has ls 4 [(0, .ref (ad 30)), (1, .int (i2 v1)), (2, .int (i2 v2)), (3, .int (i2 y3))] → WS D aC ad A H0 M H locs → W p l e rm_X4_isWhole s m args below meth c H locs 0 0 Q (F0 m 58 ls [])) (HR : ∀ (r : Int) (H : Heap) (locs : List Loc) (pc : Nat) (ls : Array Slot), o = .inr (.inr r) → isZ r → WS D aC ad A H0 M H locs → decode cX4_isWhole pc = .ok (.ireturn, 1) → W p l e rm_X4_isWhole s m args below meth c H locs 0 0 Q (F0 m pc ls [.int (i2 r)])) (v3 : Int) (hv3 : inR v3) (hf : f_X4_isWhole_s13 v1 v2 M v3 = some o) {H : Heap} {locs : List Loc} {ls : Array Slot} (hl : lv_has ls 4 [(0, .ref (ad 30)), (1, .int (i2 v1)), (2, .int (i2 v2)), (3, .int (i2 v3))]) (w : WS D aC ad A H0 M H locs) : W p l e rm_X4_isWhole s m args below meth c H locs 0 0 Q (F0 m 13 ls []) := by
  have hx := X.1.1
  have hb := X.1.2.1
  unfold f_X4_isWhole_s13 at hf
  refine lv_iload_n hx hb dX4_isWhole_13 rfl (lv_at hl 3 rfl) ?_
  refine lv_aload_n hx hb dX4_isWhole_14 rfl (lv_at hl 0 rfl) ?_
  refine g_getr X w fg_X4_26 KD_30 FR_30_0 dX4_isWhole_15 ?_
  refine g_geti X w fg_X4_56 KD_3 FR_3_0 dX4_isWhole_18 ?_
  refine g_icmp_ge (tgt := 58) X hv3 (w.2.2 _ _) dX4_isWhole_21 (by decide) (fun cd => ?_) (fun cd => ?_)
  · replace hf := ite_t cd hf
    exact HE v3 _ _ _ (Option.some.inj hf).symm hv3 hl w
  · replace hf := ite_f cd hf
    refine lv_iload_n hx hb dX4_isWhole_24 rfl (lv_at hl 1 rfl) ?_
    refine lv_iload_n hx hb dX4_isWhole_25 rfl (lv_at hl 3 rfl) ?_
    refine g_ishr X dX4_isWhole_26 ?_
    refine g_iconst X dX4_isWhole_27 ?_
    refine g_iand X dX4_isWhole_28 ?_
    refine g_if_eq (tgt := 52) X (inR_toInt _) dX4_isWhole_29 (by decide) (fun cd_2 => ?_) (fun cd_2 => ?_)
    · replace hf := ite_t cd_2 hf
      obtain ⟨v3_2, ev3_2, hf⟩ := lt_some hf
      have hv3_2 : inR v3_2 := inR_of ev3_2 (inR_wrap _)
      refine lv_iinc (v := i2 v3_2) (lv' := [(3, .int (i2 v3_2)), (0, .ref (ad 30)), (1, .int (i2 v1)), (2, .int (i2 v2))]) hx hb dX4_isWhole_52 hl (k := 3) rfl (by rw [ev3_2]; exact i2_add _ _) (by decide) rfl (fun ls hl => ?_)
      refine lv_goto (tgt := 13) hx hb dX4_isWhole_55 (by decide) ?_
      exact HC v3_2 _ _ _ (Option.some.inj hf).symm hv3_2 (lv_sub hl [1, 2, 3, 0] rfl) w
    · replace hf := ite_f cd_2 hf
      refine lv_aload_n hx hb dX4_isWhole_32 rfl (lv_at hl 0 rfl) ?_
      refine g_getr X w fg_X4_26 KD_30 FR_30_0 dX4_isWhole_33 ?_
      refine g_getr X w fg_X4_199 KD_3 FR_3_8 dX4_isWhole_36 ?_
      refine lv_iload_n hx hb dX4_isWhole_39 rfl (lv_at hl 3 rfl) ?_
      obtain ⟨hg, hf⟩ := gd_some hf
      refine g_iald X w KD_11 hv3 hg dX4_isWhole_40 ?_
      refine lv_iload_n hx hb dX4_isWhole_41 rfl (lv_at hl 2 rfl) ?_
      refine g_iand X dX4_isWhole_42 ?_
      refine lv_iload_n hx hb dX4_isWhole_43 rfl (lv_at hl 1 rfl) ?_
      refine g_iconst X dX4_isWhole_44 ?_
      refine g_ixor X dX4_isWhole_45 ?_
      refine g_iand X dX4_isWhole_46 ?_
      refine g_if_eq (tgt := 52) X (inR_toInt _) dX4_isWhole_47 (by decide) (fun cd_3 => ?_) (fun cd_3 => ?_)
      · replace hf := ite_t cd_3 hf
        obtain ⟨v3_3, ev3_3, hf⟩ := lt_some hf
        have hv3_3 : inR v3_3 := inR_of ev3_3 (inR_wrap _)
        refine lv_iinc (v := i2 v3_3) (lv' := [(3, .int (i2 v3_3)), (0, .ref (ad 30)), (1, .int (i2 v1)), (2, .int (i2 v2))]) hx hb dX4_isWhole_52 hl (k := 3) rfl (by rw [ev3_3]; exact i2_add _ _) (by decide) rfl (fun ls hl => ?_)
        refine lv_goto (tgt := 13) hx hb dX4_isWhole_55 (by decide) ?_
        exact HC v3_3 _ _ _ (Option.some.inj hf).symm hv3_3 (lv_sub hl [1, 2, 3, 0] rfl) w
      · replace hf := ite_f cd_3 hf
        refine g_iconst X dX4_isWhole_50 ?_
        exact HR 0 _ _ _ _ (Option.some.inj hf).symm (Or.inl rfl) w dX4_isWhole_51
set_option maxRecDepth 100000 in
set_option maxHeartbeats 4000000 in
theorem l_X4_isWhole_13 (X : CX p s m args c cX4_isWhole 4 RX4 D aC ad sg A H0) (v1 : Int) (hv1 : inR v1) (v2 : Int) (hv2 : inR v2) {M : Mem} {out : (Int) ⊕ (Int)} (HE : ∀ (y3 : Int) (H : Heap) (locs : List Loc) (ls : Array Slot), out = .inl y3 → inR y3 → lv_has ls 4 [(0, .ref (ad 30)), (1, .int (i2 v1)), (2, .int (i2 v2)), (3, .int (i2 y3))] → WS D aC ad A H0 M H locs → W p l e rm_X4_isWhole s m args below meth c H locs 0 0 Q (F0 m 58 ls [])) (HR : ∀ (r : Int) (H : Heap) (locs : List Loc) (pc : Nat) (ls : Array Slot), out = .inr r → isZ r → WS D aC ad A H0 M H locs → decode cX4_isWhole pc = .ok (.ireturn, 1) → W p l e rm_X4_isWhole s m args below meth c H locs 0 0 Q (F0 m pc ls [.int (i2 r)])) : ∀ (n : Nat) (v3 : Int), whl (fun s => f_X4_isWhole_s13 v1 v2 M s) n v3 = some out → inR v3 → ∀ {H : Heap} {locs : List Loc} {ls : Array Slot}, lv_has ls 4 [(0, .ref (ad 30)), (1, .int (i2 v1)), (2, .int (i2 v2)), (3, .int (i2 v3))] → WS D aC ad A H0 M H locs → W p l e rm_X4_isWhole s m args below meth c H locs 0 0 Q (F0 m 13 ls []) := by
  intro n
  induction n with
  | zero => intro v3 hf; exact (whl_zero hf).elim
  | succ n ih =>
    intro v3 hf hv3 H locs ls hl w
    obtain ⟨o, hf, hk1, hk2⟩ := whl_step hf
    exact b_X4_isWhole_s13 X v1 hv1 v2 hv2 (fun y3 H locs ls eo hy3 hl w => ih y3 (hk1 _ eo) hy3 hl w) (fun y3 H locs ls eo hy3 hl w => HE y3 H locs ls (hk2 _ eo).symm hy3 hl w) (fun r H locs pc ls eo hP w dg => HR r H locs pc ls (hk2 _ eo).symm hP w dg) v3 hv3 hf hl w
set_option maxRecDepth 100000 in
set_option maxHeartbeats 4000000 in
theorem b_X4_isWhole_j58 (X : CX p s m args c cX4_isWhole 4 RX4 D aC ad sg A H0) {M : Mem} {o : Int} (HR : ∀ (r : Int) (H : Heap) (locs : List Loc) (pc : Nat) (ls : Array Slot), o = r → isZ r → WS D aC ad A H0 M H locs → decode cX4_isWhole pc = .ok (.ireturn, 1) → W p l e rm_X4_isWhole s m args below meth c H locs 0 0 Q (F0 m pc ls [.int (i2 r)])) (hf : f_X4_isWhole_j58 M = some o) {H : Heap} {locs : List Loc} {ls : Array Slot} (hl : lv_has ls 4 []) (w : WS D aC ad A H0 M H locs) : W p l e rm_X4_isWhole s m args below meth c H locs 0 0 Q (F0 m 58 ls []) := by
  have hx := X.1.1
  have hb := X.1.2.1
  unfold f_X4_isWhole_j58 at hf
  refine g_iconst X dX4_isWhole_58 ?_
  exact HR 1 _ _ _ _ (Option.some.inj hf).symm (Or.inr rfl) w dX4_isWhole_59
set_option maxRecDepth 100000 in
set_option maxHeartbeats 4000000 in
theorem b_X4_isWhole_0 (X : CX p s m args c cX4_isWhole 4 RX4 D aC ad sg A H0) {M : Mem} {o : Int} (HR : ∀ (r : Int) (H : Heap) (locs : List Loc) (pc : Nat) (ls : Array Slot), o = r → isZ r → WS D aC ad A H0 M H locs → decode cX4_isWhole pc = .ok (.ireturn, 1) → W p l e rm_X4_isWhole s m args below meth c H locs 0 0 Q (F0 m pc ls [.int (i2 r)])) (p1 : Int) (hp1 : inR p1) (p2 : Int) (hp2 : inR p2) (hf : f_X4_isWhole p1 p2 M = some o) {H : Heap} {locs : List Loc} {ls : Array Slot} (hl : lv_has ls 4 [(0, .ref (ad 30)), (1, .int (i2 p1)), (2, .int (i2 p2))]) (w : WS D aC ad A H0 M H locs) : W p l e rm_X4_isWhole s m args below meth c H locs 0 0 Q (F0 m 0 ls []) := by
  have hx := X.1.1
  have hb := X.1.2.1
  unfold f_X4_isWhole at hf
  refine lv_aload_n hx hb dX4_isWhole_0 rfl (lv_at hl 0 rfl) ?_
  refine g_geti X w fg_X4_42 KD_30 FR_30_3 dX4_isWhole_1 ?_
  refine g_bipush X dX4_isWhole_4 (by decide) ?_
  refine g_icmp_eq (tgt := 11) X (w.2.2 _ _) (inL rfl) dX4_isWhole_6 (by decide) (fun cd => ?_) (fun cd => ?_)
  · replace hf := ite_t cd hf
    refine g_iconst X dX4_isWhole_11 ?_
    refine g_istn (v := 0) (lv' := [(3, .int (i2 0)), (0, .ref (ad 30)), (1, .int (i2 p1)), (2, .int (i2 p2))]) X rfl dX4_isWhole_12 rfl hl (by decide) rfl (fun ls hl => ?_)
    obtain ⟨q, hq, h1, h2⟩ := lpr_some hf
    exact l_X4_isWhole_13 X p1 hp1 p2 hp2 (out := q) (fun y3 H locs ls eq hy3 hl w => b_X4_isWhole_j58 X  HR  (h1 _ eq) (lv_sub hl [] rfl) w) (fun r H locs pc ls eq hP w dg => HR r H locs pc ls (Option.some.inj (h2 _ eq)).symm hP w dg) FU 0 hq (inL rfl) (lv_sub hl [1, 2, 3, 0] rfl) w
  · replace hf := ite_f cd hf
    refine g_iconst X dX4_isWhole_9 ?_
    exact HR 1 _ _ _ _ (Option.some.inj hf).symm (Or.inr rfl) w dX4_isWhole_10
set_option maxRecDepth 100000 in
set_option maxHeartbeats 4000000 in
theorem k_X4_isWhole {l : Launch} {D : va_G} {aC : Nat → ClassId} {ad : Nat → Nat} {sg : SG} (hi : Inj ad) (p1 : Int) (hp1 : inR p1) (p2 : Int) (hp2 : inR p2) {M : Mem} (hM : inM M) {r : Int} (hf : f_X4_isWhole p1 p2 M = some r) : MetI l D aC ad sg yX4_isWhole cX4_isWhole 4 (some .boolean) rm_X4_isWhole 0 0 [.ref (ad 30), .int (i2 p1), .int (i2 p2)] M r M := by
  refine MetI.ofZ (by decide +kernel) (nle rfl) hi hM (fun p e s m args below meth c Q H0 ls X hl w hret => ?_)
  exact b_X4_isWhole_0 X  (fun r1 H locs pc ls eo hP w dg => by cases eo; exact hret H locs pc ls hP w dg) p1 hp1 p2 hp2 hf hl w
set_option maxRecDepth 100000 in
set_option maxHeartbeats 4000000 in
theorem b_X4_isSound_s4 (X : CX p s m args c cX4_isSound 4 RX4 D aC ad sg A H0) (p1 : Nat) (hp1 : KD[p1]? = some (.inr (0, aln p1))) {M : Mem} {o : (Int × Int) ⊕ (Int × Int)} (HC : ∀ (y2 : Int) (y3 : Int) (H : Heap) (locs : List Loc) (ls : Array Slot), o = .inl (y2, y3) → inR y2 → inR y3 → lv_has ls 4 [(0, .ref (ad 30)), (1, .ref (ad p1)), (2, .int (i2 y2)), (3, .int (i2 y3))] → WS D aC ad A H0 M H locs → W p l e rm_X4_isSound s m args below meth c H locs 0 0 Q (F0 m 4 ls [])) (HE : ∀ (y2 : Int) (y3 : Int) (H : Heap) (locs : List Loc) (ls : Array Slot), o = .inr (y2, y3) → inR y2 → inR y3 → lv_has ls 4 [(0, .ref (ad 30)), (1, .ref (ad p1)), (2, .int (i2 y2)), (3, .int (i2 y3))] → WS D aC ad A H0 M H locs → W p l e rm_X4_isSound s m args below meth c H locs 0 0 Q (F0 m 27 ls [])) (v2 : Int) (hv2 : inR v2) (v3 : Int) (hv3 : inR v3) (hf : f_X4_isSound_s4 p1 M v2 v3 = some o) {H : Heap} {locs : List Loc} {ls : Array Slot} (hl : lv_has ls 4 [(0, .ref (ad 30)), (1, .ref (ad p1)), (2, .int (i2 v2)), (3, .int (i2 v3))]) (w : WS D aC ad A H0 M H locs) : W p l e rm_X4_isSound s m args below meth c H locs 0 0 Q (F0 m 4 ls []) := by
  have hx := X.1.1
  have hb := X.1.2.1
  unfold f_X4_isSound_s4 at hf
  refine lv_iload_n hx hb dX4_isSound_4 rfl (lv_at hl 3 rfl) ?_
  refine lv_aload_n hx hb dX4_isSound_5 rfl (lv_at hl 0 rfl) ?_
  refine g_getr X w fg_X4_26 KD_30 FR_30_0 dX4_isSound_6 ?_
  refine g_geti X w fg_X4_149 KD_3 FR_3_13 dX4_isSound_9 ?_
  refine g_icmp_ge (tgt := 27) X hv3 (w.2.2 _ _) dX4_isSound_12 (by decide) (fun cd => ?_) (fun cd => ?_)
  · replace hf := ite_t cd hf
    exact HE v2 v3 _ _ _ (Option.some.inj hf).symm hv2 hv3 hl w
  · replace hf := ite_f cd hf
    refine lv_iload_n hx hb dX4_isSound_15 rfl (lv_at hl 2 rfl) ?_
    refine lv_aload_n hx hb dX4_isSound_16 rfl (lv_at hl 1 rfl) ?_
    refine lv_iload_n hx hb dX4_isSound_17 rfl (lv_at hl 3 rfl) ?_
    obtain ⟨hg, hf⟩ := gd_some hf
    refine g_iald X w hp1 hv3 hg dX4_isSound_18 ?_
    refine g_ior X dX4_isSound_19 ?_
    obtain ⟨v2_2, ev2_2, hf⟩ := lt_some hf
    have hv2_2 : inR v2_2 := inR_of ev2_2 (inR_toInt _)
    refine g_istn (v := v2_2) (lv' := [(2, .int (i2 v2_2)), (0, .ref (ad 30)), (1, .ref (ad p1)), (3, .int (i2 v3))]) X ev2_2 dX4_isSound_20 rfl hl (by decide) rfl (fun ls hl => ?_)
    obtain ⟨v3_2, ev3_2, hf⟩ := lt_some hf
    have hv3_2 : inR v3_2 := inR_of ev3_2 (inR_wrap _)
    refine lv_iinc (v := i2 v3_2) (lv' := [(3, .int (i2 v3_2)), (2, .int (i2 v2_2)), (0, .ref (ad 30)), (1, .ref (ad p1))]) hx hb dX4_isSound_21 hl (k := 3) rfl (by rw [ev3_2]; exact i2_add _ _) (by decide) rfl (fun ls hl => ?_)
    refine lv_goto (tgt := 4) hx hb dX4_isSound_24 (by decide) ?_
    exact HC v2_2 v3_2 _ _ _ (Option.some.inj hf).symm hv2_2 hv3_2 (lv_sub hl [2, 3, 1, 0] rfl) w
set_option maxRecDepth 100000 in
set_option maxHeartbeats 4000000 in
theorem l_X4_isSound_4 (X : CX p s m args c cX4_isSound 4 RX4 D aC ad sg A H0) (p1 : Nat) (hp1 : KD[p1]? = some (.inr (0, aln p1))) {M : Mem} {out : Int × Int} (HE : ∀ (y2 : Int) (y3 : Int) (H : Heap) (locs : List Loc) (ls : Array Slot), out = (y2, y3) → inR y2 → inR y3 → lv_has ls 4 [(0, .ref (ad 30)), (1, .ref (ad p1)), (2, .int (i2 y2)), (3, .int (i2 y3))] → WS D aC ad A H0 M H locs → W p l e rm_X4_isSound s m args below meth c H locs 0 0 Q (F0 m 27 ls [])) : ∀ (n : Nat) (v2 : Int) (v3 : Int), whl (fun s => f_X4_isSound_s4 p1 M s.1 s.2) n (v2, v3) = some out → inR v2 → inR v3 → ∀ {H : Heap} {locs : List Loc} {ls : Array Slot}, lv_has ls 4 [(0, .ref (ad 30)), (1, .ref (ad p1)), (2, .int (i2 v2)), (3, .int (i2 v3))] → WS D aC ad A H0 M H locs → W p l e rm_X4_isSound s m args below meth c H locs 0 0 Q (F0 m 4 ls []) := by
  intro n
  induction n with
  | zero => intro v2 v3 hf; exact (whl_zero hf).elim
  | succ n ih =>
    intro v2 v3 hf hv2 hv3 H locs ls hl w
    obtain ⟨o, hf, hk1, hk2⟩ := whl_step hf
    exact b_X4_isSound_s4 X p1 hp1 (fun y2 y3 H locs ls eo hy2 hy3 hl w => ih y2 y3 (hk1 _ eo) hy2 hy3 hl w) (fun y2 y3 H locs ls eo hy2 hy3 hl w => HE y2 y3 H locs ls (hk2 _ eo).symm hy2 hy3 hl w) v2 hv2 v3 hv3 hf hl w
set_option maxRecDepth 100000 in
set_option maxHeartbeats 4000000 in
theorem b_X4_isSound_s29 (X : CX p s m args c cX4_isSound 4 RX4 D aC ad sg A H0) (p1 : Nat) (hp1 : KD[p1]? = some (.inr (0, aln p1))) (v2 : Int) (hv2 : inR v2) {M : Mem} {o : (Int) ⊕ ((Int) ⊕ (Int))} (HC : ∀ (y3 : Int) (H : Heap) (locs : List Loc) (ls : Array Slot), o = .inl y3 → inR y3 → lv_has ls 4 [(0, .ref (ad 30)), (1, .ref (ad p1)), (2, .int (i2 v2)), (3, .int (i2 y3))] → WS D aC ad A H0 M H locs → W p l e rm_X4_isSound s m args below meth c H locs 0 0 Q (F0 m 29 ls [])) (HE : ∀ (y3 : Int) (H : Heap) (locs : List Loc) (ls : Array Slot), o = .inr (.inl y3) → inR y3 → lv_has ls 4 [(0, .ref (ad 30)), (1, .ref (ad p1)), (2, .int (i2 v2)), (3, .int (i2 y3))] → WS D aC ad A H0 M H locs → W p l e rm_X4_isSound s m args below meth c H locs 0 0 Q (F0 m 70 ls [])) (HR : ∀ (r : Int) (H : Heap) (locs : List Loc) (pc : Nat) (ls : Array Slot), o = .inr (.inr r) → isZ r → WS D aC ad A H0 M H locs → decode cX4_isSound pc = .ok (.ireturn, 1) → W p l e rm_X4_isSound s m args below meth c H locs 0 0 Q (F0 m pc ls [.int (i2 r)])) (v3 : Int) (hv3 : inR v3) (hf : f_X4_isSound_s29 p1 v2 M v3 = some o) {H : Heap} {locs : List Loc} {ls : Array Slot} (hl : lv_has ls 4 [(0, .ref (ad 30)), (1, .ref (ad p1)), (2, .int (i2 v2)), (3, .int (i2 v3))]) (w : WS D aC ad A H0 M H locs) : W p l e rm_X4_isSound s m args below meth c H locs 0 0 Q (F0 m 29 ls []) := by
  have hx := X.1.1
  have hb := X.1.2.1
  unfold f_X4_isSound_s29 at hf
  refine lv_iload_n hx hb dX4_isSound_29 rfl (lv_at hl 3 rfl) ?_
  refine lv_aload_n hx hb dX4_isSound_30 rfl (lv_at hl 0 rfl) ?_
  refine g_getr X w fg_X4_26 KD_30 FR_30_0 dX4_isSound_31 ?_
  refine g_geti X w fg_X4_149 KD_3 FR_3_13 dX4_isSound_34 ?_
  refine g_icmp_ge (tgt := 70) X hv3 (w.2.2 _ _) dX4_isSound_37 (by decide) (fun cd => ?_) (fun cd => ?_)
  · replace hf := ite_t cd hf
    exact HE v3 _ _ _ (Option.some.inj hf).symm hv3 hl w
  · replace hf := ite_f cd hf
    refine lv_aload_n hx hb dX4_isSound_40 rfl (lv_at hl 0 rfl) ?_
    refine lv_iload_n hx hb dX4_isSound_41 rfl (lv_at hl 3 rfl) ?_
    refine lv_aload_n hx hb dX4_isSound_42 rfl (lv_at hl 1 rfl) ?_
    refine lv_iload_n hx hb dX4_isSound_43 rfl (lv_at hl 3 rfl) ?_
    obtain ⟨hg, hf⟩ := gd_some hf
    refine g_iald X w hp1 hv3 hg dX4_isSound_44 ?_
    obtain ⟨r, hc, hf⟩ := obn_some hf
    refine g_cvi (As := [.int (i2 v3), .int (i2 (M p1 v3.toNat))]) (rest := []) X w (k_X4_mayStand X.2.2.1 v3 hv3 (M p1 v3.toNat) (w.2.2 _ _) w.2.2 hc) lk_X4_170 cl_4 KD_30 ⟨rfl, rfl⟩ ⟨nle rfl, nle rfl⟩ ⟨nle rfl, nle rfl⟩ hl.1 rfl (nle rfl) dX4_isSound_45 (fun hr H locs w => ?_)
    refine g_if_eq (tgt := 62) X hr dX4_isSound_48 (by decide) (fun cd_2 => ?_) (fun cd_2 => ?_)
    · replace hf := ite_t cd_2 hf
      refine g_iconst X dX4_isSound_62 ?_
      exact HR 0 _ _ _ _ (Option.some.inj hf).symm (Or.inl rfl) w dX4_isSound_63
    · replace hf := ite_f cd_2 hf
      refine lv_aload_n hx hb dX4_isSound_51 rfl (lv_at hl 0 rfl) ?_
      refine lv_aload_n hx hb dX4_isSound_52 rfl (lv_at hl 1 rfl) ?_
      refine lv_iload_n hx hb dX4_isSound_53 rfl (lv_at hl 3 rfl) ?_
      obtain ⟨hg_2, hf⟩ := gd_some hf
      refine g_iald X w hp1 hv3 hg_2 dX4_isSound_54 ?_
      refine lv_iload_n hx hb dX4_isSound_55 rfl (lv_at hl 2 rfl) ?_
      obtain ⟨r_2, hc, hf⟩ := obn_some hf
      refine g_cvi (As := [.int (i2 (M p1 v3.toNat)), .int (i2 v2)]) (rest := []) X w (k_X4_isWhole X.2.2.1 (M p1 v3.toNat) (w.2.2 _ _) v2 hv2 w.2.2 hc) lk_X4_173 cl_4 KD_30 ⟨rfl, rfl⟩ ⟨nle rfl, nle rfl⟩ ⟨nle rfl, nle rfl⟩ hl.1 rfl (nle rfl) dX4_isSound_56 (fun hr_2 H locs w => ?_)
      refine g_if_ne (tgt := 64) X hr_2 dX4_isSound_59 (by decide) (fun cd_3 => ?_) (fun cd_3 => ?_)
      · replace hf := ite_f cd_3 hf
        obtain ⟨v3_2, ev3_2, hf⟩ := lt_some hf
        have hv3_2 : inR v3_2 := inR_of ev3_2 (inR_wrap _)
        refine lv_iinc (v := i2 v3_2) (lv' := [(3, .int (i2 v3_2)), (0, .ref (ad 30)), (1, .ref (ad p1)), (2, .int (i2 v2))]) hx hb dX4_isSound_64 hl (k := 3) rfl (by rw [ev3_2]; exact i2_add _ _) (by decide) rfl (fun ls hl => ?_)
        refine lv_goto (tgt := 29) hx hb dX4_isSound_67 (by decide) ?_
        exact HC v3_2 _ _ _ (Option.some.inj hf).symm hv3_2 (lv_sub hl [1, 2, 3, 0] rfl) w
      · replace hf := ite_t cd_3 hf
        refine g_iconst X dX4_isSound_62 ?_
        exact HR 0 _ _ _ _ (Option.some.inj hf).symm (Or.inl rfl) w dX4_isSound_63
set_option maxRecDepth 100000 in
set_option maxHeartbeats 4000000 in
theorem l_X4_isSound_29 (X : CX p s m args c cX4_isSound 4 RX4 D aC ad sg A H0) (p1 : Nat) (hp1 : KD[p1]? = some (.inr (0, aln p1))) (v2 : Int) (hv2 : inR v2) {M : Mem} {out : (Int) ⊕ (Int)} (HE : ∀ (y3 : Int) (H : Heap) (locs : List Loc) (ls : Array Slot), out = .inl y3 → inR y3 → lv_has ls 4 [(0, .ref (ad 30)), (1, .ref (ad p1)), (2, .int (i2 v2)), (3, .int (i2 y3))] → WS D aC ad A H0 M H locs → W p l e rm_X4_isSound s m args below meth c H locs 0 0 Q (F0 m 70 ls [])) (HR : ∀ (r : Int) (H : Heap) (locs : List Loc) (pc : Nat) (ls : Array Slot), out = .inr r → isZ r → WS D aC ad A H0 M H locs → decode cX4_isSound pc = .ok (.ireturn, 1) → W p l e rm_X4_isSound s m args below meth c H locs 0 0 Q (F0 m pc ls [.int (i2 r)])) : ∀ (n : Nat) (v3 : Int), whl (fun s => f_X4_isSound_s29 p1 v2 M s) n v3 = some out → inR v3 → ∀ {H : Heap} {locs : List Loc} {ls : Array Slot}, lv_has ls 4 [(0, .ref (ad 30)), (1, .ref (ad p1)), (2, .int (i2 v2)), (3, .int (i2 v3))] → WS D aC ad A H0 M H locs → W p l e rm_X4_isSound s m args below meth c H locs 0 0 Q (F0 m 29 ls []) := by
  intro n
  induction n with
  | zero => intro v3 hf; exact (whl_zero hf).elim
  | succ n ih =>
    intro v3 hf hv3 H locs ls hl w
    obtain ⟨o, hf, hk1, hk2⟩ := whl_step hf
    exact b_X4_isSound_s29 X p1 hp1 v2 hv2 (fun y3 H locs ls eo hy3 hl w => ih y3 (hk1 _ eo) hy3 hl w) (fun y3 H locs ls eo hy3 hl w => HE y3 H locs ls (hk2 _ eo).symm hy3 hl w) (fun r H locs pc ls eo hP w dg => HR r H locs pc ls (hk2 _ eo).symm hP w dg) v3 hv3 hf hl w
set_option maxRecDepth 100000 in
set_option maxHeartbeats 4000000 in
theorem b_X4_isSound_j70 (X : CX p s m args c cX4_isSound 4 RX4 D aC ad sg A H0) (p1 : Nat) (hp1 : KD[p1]? = some (.inr (0, aln p1))) {M : Mem} {o : Int} (HR : ∀ (r : Int) (H : Heap) (locs : List Loc) (pc : Nat) (ls : Array Slot), o = r → isZ r → WS D aC ad A H0 M H locs → decode cX4_isSound pc = .ok (.ireturn, 1) → W p l e rm_X4_isSound s m args below meth c H locs 0 0 Q (F0 m pc ls [.int (i2 r)])) (hf : f_X4_isSound_j70 p1 M = some o) {H : Heap} {locs : List Loc} {ls : Array Slot} (hl : lv_has ls 4 []) (w : WS D aC ad A H0 M H locs) : W p l e rm_X4_isSound s m args below meth c H locs 0 0 Q (F0 m 70 ls []) := by
  have hx := X.1.1
  have hb := X.1.2.1
  unfold f_X4_isSound_j70 at hf
  refine g_iconst X dX4_isSound_70 ?_
  exact HR 1 _ _ _ _ (Option.some.inj hf).symm (Or.inr rfl) w dX4_isSound_71
set_option maxRecDepth 100000 in
set_option maxHeartbeats 4000000 in
theorem b_X4_isSound_j27 (X : CX p s m args c cX4_isSound 4 RX4 D aC ad sg A H0) (p1 : Nat) (hp1 : KD[p1]? = some (.inr (0, aln p1))) {M : Mem} {o : Int} (HR : ∀ (r : Int) (H : Heap) (locs : List Loc) (pc : Nat) (ls : Array Slot), o = r → isZ r → WS D aC ad A H0 M H locs → decode cX4_isSound pc = .ok (.ireturn, 1) → W p l e rm_X4_isSound s m args below meth c H locs 0 0 Q (F0 m pc ls [.int (i2 r)])) (v2 : Int) (hv2 : inR v2) (hf : f_X4_isSound_j27 p1 v2 M = some o) {H : Heap} {locs : List Loc} {ls : Array Slot} (hl : lv_has ls 4 [(0, .ref (ad 30)), (1, .ref (ad p1)), (2, .int (i2 v2))]) (w : WS D aC ad A H0 M H locs) : W p l e rm_X4_isSound s m args below meth c H locs 0 0 Q (F0 m 27 ls []) := by
  have hx := X.1.1
  have hb := X.1.2.1
  unfold f_X4_isSound_j27 at hf
  refine g_iconst X dX4_isSound_27 ?_
  refine g_istn (v := 0) (lv' := [(3, .int (i2 0)), (0, .ref (ad 30)), (1, .ref (ad p1)), (2, .int (i2 v2))]) X rfl dX4_isSound_28 rfl hl (by decide) rfl (fun ls hl => ?_)
  obtain ⟨q, hq, h1, h2⟩ := lpr_some hf
  exact l_X4_isSound_29 X p1 hp1 v2 hv2 (out := q) (fun y3 H locs ls eq hy3 hl w => b_X4_isSound_j70 X p1 hp1 HR  (h1 _ eq) (lv_sub hl [] rfl) w) (fun r H locs pc ls eq hP w dg => HR r H locs pc ls (Option.some.inj (h2 _ eq)).symm hP w dg) FU 0 hq (inL rfl) (lv_sub hl [1, 2, 3, 0] rfl) w
set_option maxRecDepth 100000 in
set_option maxHeartbeats 4000000 in
theorem b_X4_isSound_0 (X : CX p s m args c cX4_isSound 4 RX4 D aC ad sg A H0) (p1 : Nat) (hp1 : KD[p1]? = some (.inr (0, aln p1))) {M : Mem} {o : Int} (HR : ∀ (r : Int) (H : Heap) (locs : List Loc) (pc : Nat) (ls : Array Slot), o = r → isZ r → WS D aC ad A H0 M H locs → decode cX4_isSound pc = .ok (.ireturn, 1) → W p l e rm_X4_isSound s m args below meth c H locs 0 0 Q (F0 m pc ls [.int (i2 r)])) (hf : f_X4_isSound p1 M = some o) {H : Heap} {locs : List Loc} {ls : Array Slot} (hl : lv_has ls 4 [(0, .ref (ad 30)), (1, .ref (ad p1))]) (w : WS D aC ad A H0 M H locs) : W p l e rm_X4_isSound s m args below meth c H locs 0 0 Q (F0 m 0 ls []) := by
  have hx := X.1.1
  have hb := X.1.2.1
  unfold f_X4_isSound at hf
  refine g_iconst X dX4_isSound_0 ?_
  refine g_istn (v := 0) (lv' := [(2, .int (i2 0)), (0, .ref (ad 30)), (1, .ref (ad p1))]) X rfl dX4_isSound_1 rfl hl (by decide) rfl (fun ls hl => ?_)
  refine g_iconst X dX4_isSound_2 ?_
  refine g_istn (v := 0) (lv' := [(3, .int (i2 0)), (2, .int (i2 0)), (0, .ref (ad 30)), (1, .ref (ad p1))]) X rfl dX4_isSound_3 rfl hl (by decide) rfl (fun ls hl => ?_)
  obtain ⟨q, hq, h1⟩ := obn_some hf
  exact l_X4_isSound_4 X p1 hp1 (out := q) (fun y2 y3 H locs ls eq hy2 hy3 hl w => b_X4_isSound_j27 X p1 hp1 HR y2 hy2 (by subst eq; exact h1) (lv_sub hl [0, 1, 2] rfl) w)  FU 0 0 hq (inL rfl) (inL rfl) (lv_sub hl [2, 3, 1, 0] rfl) w
set_option maxRecDepth 100000 in
set_option maxHeartbeats 4000000 in
theorem k_X4_isSound {l : Launch} {D : va_G} {aC : Nat → ClassId} {ad : Nat → Nat} {sg : SG} (hi : Inj ad) (p1 : Nat) (hp1 : KD[p1]? = some (.inr (0, aln p1))) {M : Mem} (hM : inM M) {r : Int} (hf : f_X4_isSound p1 M = some r) : MetI l D aC ad sg yX4_isSound cX4_isSound 4 (some .boolean) rm_X4_isSound 0 0 [.ref (ad 30), .ref (ad p1)] M r M := by
  refine MetI.ofZ (by decide +kernel) (nle rfl) hi hM (fun p e s m args below meth c Q H0 ls X hl w hret => ?_)
  exact b_X4_isSound_0 X p1 hp1 (fun r1 H locs pc ls eo hP w dg => by cases eo; exact hret H locs pc ls hP w dg)  hf hl w
set_option maxRecDepth 100000 in
set_option maxHeartbeats 4000000 in
theorem b_X4_weightIn_s31 (X : CX p s m args c cX4_weightIn 5 RX4 D aC ad sg A H0) (v1 : Int) (hv1 : inR v1) (v2 : Int) (hv2 : inR v2) {M : Mem} {o : (Int × Int) ⊕ (Int × Int)} (HC : ∀ (y3 : Int) (y4 : Int) (H : Heap) (locs : List Loc) (ls : Array Slot), o = .inl (y3, y4) → inR y3 → inR y4 → lv_has ls 5 [(0, .ref (ad 30)), (1, .int (i2 v1)), (2, .int (i2 v2)), (3, .int (i2 y3)), (4, .int (i2 y4))] → WS D aC ad A H0 M H locs → W p l e rm_X4_weightIn s m args below meth c H locs 0 0 Q (F0 m 31 ls [])) (HE : ∀ (y3 : Int) (y4 : Int) (H : Heap) (locs : List Loc) (ls : Array Slot), o = .inr (y3, y4) → inR y3 → inR y4 → lv_has ls 5 [(0, .ref (ad 30)), (1, .int (i2 v1)), (2, .int (i2 v2)), (3, .int (i2 y3)), (4, .int (i2 y4))] → WS D aC ad A H0 M H locs → W p l e rm_X4_weightIn s m args below meth c H locs 0 0 Q (F0 m 68 ls [])) (v3 : Int) (hv3 : inR v3) (v4 : Int) (hv4 : inR v4) (hf : f_X4_weightIn_s31 v1 v2 M v3 v4 = some o) {H : Heap} {locs : List Loc} {ls : Array Slot} (hl : lv_has ls 5 [(0, .ref (ad 30)), (1, .int (i2 v1)), (2, .int (i2 v2)), (3, .int (i2 v3)), (4, .int (i2 v4))]) (w : WS D aC ad A H0 M H locs) : W p l e rm_X4_weightIn s m args below meth c H locs 0 0 Q (F0 m 31 ls []) := by
  have hx := X.1.1
  have hb := X.1.2.1
  unfold f_X4_weightIn_s31 at hf
  refine lv_iload hx hb dX4_weightIn_31 (lv_at hl 4 rfl) ?_
  refine lv_aload_n hx hb dX4_weightIn_33 rfl (lv_at hl 0 rfl) ?_
  refine g_getr X w fg_X4_26 KD_30 FR_30_0 dX4_weightIn_34 ?_
  refine g_geti X w fg_X4_56 KD_3 FR_3_0 dX4_weightIn_37 ?_
  refine g_icmp_ge (tgt := 68) X hv4 (w.2.2 _ _) dX4_weightIn_40 (by decide) (fun cd => ?_) (fun cd => ?_)
  · replace hf := ite_t cd hf
    exact HE v3 v4 _ _ _ (Option.some.inj hf).symm hv3 hv4 hl w
  · replace hf := ite_f cd hf
    refine lv_iload_n hx hb dX4_weightIn_43 rfl (lv_at hl 2 rfl) ?_
    refine lv_iload hx hb dX4_weightIn_44 (lv_at hl 4 rfl) ?_
    refine g_ishr X dX4_weightIn_46 ?_
    refine g_iconst X dX4_weightIn_47 ?_
    refine g_iand X dX4_weightIn_48 ?_
    refine g_if_eq (tgt := 62) X (inR_toInt _) dX4_weightIn_49 (by decide) (fun cd_2 => ?_) (fun cd_2 => ?_)
    · replace hf := ite_t cd_2 hf
      obtain ⟨v4_2, ev4_2, hf⟩ := lt_some hf
      have hv4_2 : inR v4_2 := inR_of ev4_2 (inR_wrap _)
      refine lv_iinc (v := i2 v4_2) (lv' := [(4, .int (i2 v4_2)), (0, .ref (ad 30)), (1, .int (i2 v1)), (2, .int (i2 v2)), (3, .int (i2 v3))]) hx hb dX4_weightIn_62 hl (k := 4) rfl (by rw [ev4_2]; exact i2_add _ _) (by decide) rfl (fun ls hl => ?_)
      refine lv_goto (tgt := 31) hx hb dX4_weightIn_65 (by decide) ?_
      exact HC v3 v4_2 _ _ _ (Option.some.inj hf).symm hv3 hv4_2 (lv_sub hl [1, 2, 3, 4, 0] rfl) w
    · replace hf := ite_f cd_2 hf
      refine lv_iload_n hx hb dX4_weightIn_52 rfl (lv_at hl 3 rfl) ?_
      refine lv_aload_n hx hb dX4_weightIn_53 rfl (lv_at hl 0 rfl) ?_
      refine lv_iload_n hx hb dX4_weightIn_54 rfl (lv_at hl 1 rfl) ?_
      refine lv_iload hx hb dX4_weightIn_55 (lv_at hl 4 rfl) ?_
      obtain ⟨r, hc, hf⟩ := obn_some hf
      refine g_cvi (As := [.int (i2 v1), .int (i2 v4)]) (rest := [.int (i2 v3)]) X w (k_X4_weightOf X.2.2.1 v1 hv1 v4 hv4 w.2.2 hc) lk_X4_128 cl_4 KD_30 ⟨rfl, rfl⟩ ⟨nle rfl, nle rfl⟩ ⟨nle rfl, nle rfl⟩ hl.1 rfl (nle rfl) dX4_weightIn_57 (fun hr H locs w => ?_)
      refine g_iadd X dX4_weightIn_60 ?_
      obtain ⟨v3_2, ev3_2, hf⟩ := lt_some hf
      have hv3_2 : inR v3_2 := inR_of ev3_2 (inR_wrap _)
      refine g_istn (v := v3_2) (lv' := [(3, .int (i2 v3_2)), (0, .ref (ad 30)), (1, .int (i2 v1)), (2, .int (i2 v2)), (4, .int (i2 v4))]) X ev3_2 dX4_weightIn_61 rfl hl (by decide) rfl (fun ls hl => ?_)
      obtain ⟨v4_3, ev4_3, hf⟩ := lt_some hf
      have hv4_3 : inR v4_3 := inR_of ev4_3 (inR_wrap _)
      refine lv_iinc (v := i2 v4_3) (lv' := [(4, .int (i2 v4_3)), (3, .int (i2 v3_2)), (0, .ref (ad 30)), (1, .int (i2 v1)), (2, .int (i2 v2))]) hx hb dX4_weightIn_62 hl (k := 4) rfl (by rw [ev4_3]; exact i2_add _ _) (by decide) rfl (fun ls hl => ?_)
      refine lv_goto (tgt := 31) hx hb dX4_weightIn_65 (by decide) ?_
      exact HC v3_2 v4_3 _ _ _ (Option.some.inj hf).symm hv3_2 hv4_3 (lv_sub hl [2, 3, 4, 1, 0] rfl) w
set_option maxRecDepth 100000 in
set_option maxHeartbeats 4000000 in
theorem l_X4_weightIn_31 (X : CX p s m args c cX4_weightIn 5 RX4 D aC ad sg A H0) (v1 : Int) (hv1 : inR v1) (v2 : Int) (hv2 : inR v2) {M : Mem} {out : Int × Int} (HE : ∀ (y3 : Int) (y4 : Int) (H : Heap) (locs : List Loc) (ls : Array Slot), out = (y3, y4) → inR y3 → inR y4 → lv_has ls 5 [(0, .ref (ad 30)), (1, .int (i2 v1)), (2, .int (i2 v2)), (3, .int (i2 y3)), (4, .int (i2 y4))] → WS D aC ad A H0 M H locs → W p l e rm_X4_weightIn s m args below meth c H locs 0 0 Q (F0 m 68 ls [])) : ∀ (n : Nat) (v3 : Int) (v4 : Int), whl (fun s => f_X4_weightIn_s31 v1 v2 M s.1 s.2) n (v3, v4) = some out → inR v3 → inR v4 → ∀ {H : Heap} {locs : List Loc} {ls : Array Slot}, lv_has ls 5 [(0, .ref (ad 30)), (1, .int (i2 v1)), (2, .int (i2 v2)), (3, .int (i2 v3)), (4, .int (i2 v4))] → WS D aC ad A H0 M H locs → W p l e rm_X4_weightIn s m args below meth c H locs 0 0 Q (F0 m 31 ls []) := by
  intro n
  induction n with
  | zero => intro v3 v4 hf; exact (whl_zero hf).elim
  | succ n ih =>
    intro v3 v4 hf hv3 hv4 H locs ls hl w
    obtain ⟨o, hf, hk1, hk2⟩ := whl_step hf
    exact b_X4_weightIn_s31 X v1 hv1 v2 hv2 (fun y3 y4 H locs ls eo hy3 hy4 hl w => ih y3 y4 (hk1 _ eo) hy3 hy4 hl w) (fun y3 y4 H locs ls eo hy3 hy4 hl w => HE y3 y4 H locs ls (hk2 _ eo).symm hy3 hy4 hl w) v3 hv3 v4 hv4 hf hl w
set_option maxRecDepth 100000 in
set_option maxHeartbeats 4000000 in
theorem b_X4_weightIn_j68 (X : CX p s m args c cX4_weightIn 5 RX4 D aC ad sg A H0) {M : Mem} {o : Int} (HR : ∀ (r : Int) (H : Heap) (locs : List Loc) (pc : Nat) (ls : Array Slot), o = r → inR r → WS D aC ad A H0 M H locs → decode cX4_weightIn pc = .ok (.ireturn, 1) → W p l e rm_X4_weightIn s m args below meth c H locs 0 0 Q (F0 m pc ls [.int (i2 r)])) (v3 : Int) (hv3 : inR v3) (hf : f_X4_weightIn_j68 v3 M = some o) {H : Heap} {locs : List Loc} {ls : Array Slot} (hl : lv_has ls 5 [(3, .int (i2 v3))]) (w : WS D aC ad A H0 M H locs) : W p l e rm_X4_weightIn s m args below meth c H locs 0 0 Q (F0 m 68 ls []) := by
  have hx := X.1.1
  have hb := X.1.2.1
  unfold f_X4_weightIn_j68 at hf
  refine lv_iload_n hx hb dX4_weightIn_68 rfl (lv_at hl 0 rfl) ?_
  exact HR v3 _ _ _ _ (Option.some.inj hf).symm hv3 w dX4_weightIn_69
set_option maxRecDepth 100000 in
set_option maxHeartbeats 4000000 in
theorem b_X4_weightIn_0 (X : CX p s m args c cX4_weightIn 5 RX4 D aC ad sg A H0) {M : Mem} {o : Int} (HR : ∀ (r : Int) (H : Heap) (locs : List Loc) (pc : Nat) (ls : Array Slot), o = r → inR r → WS D aC ad A H0 M H locs → decode cX4_weightIn pc = .ok (.ireturn, 1) → W p l e rm_X4_weightIn s m args below meth c H locs 0 0 Q (F0 m pc ls [.int (i2 r)])) (p1 : Int) (hp1 : inR p1) (p2 : Int) (hp2 : inR p2) (hf : f_X4_weightIn p1 p2 M = some o) {H : Heap} {locs : List Loc} {ls : Array Slot} (hl : lv_has ls 5 [(0, .ref (ad 30)), (1, .int (i2 p1)), (2, .int (i2 p2))]) (w : WS D aC ad A H0 M H locs) : W p l e rm_X4_weightIn s m args below meth c H locs 0 0 Q (F0 m 0 ls []) := by
  have hx := X.1.1
  have hb := X.1.2.1
  unfold f_X4_weightIn at hf
  refine lv_aload_n hx hb dX4_weightIn_0 rfl (lv_at hl 0 rfl) ?_
  obtain ⟨hru, hf⟩ := gd_some hf
  refine g_getd X w fg_X4_34 KD_30 FR_30_2 hru dX4_weightIn_1 ?_
  refine g_getr X w fg_X4_117 (KD_ru hru) (FR_ru_1 hru) dX4_weightIn_4 ?_
  refine lv_iload_n hx hb dX4_weightIn_7 rfl (lv_at hl 1 rfl) ?_
  obtain ⟨hg, hf⟩ := gd_some hf
  refine g_iald X w (KD_ru_1 hru) hp1 hg dX4_weightIn_8 ?_
  refine g_bipush X dX4_weightIn_9 (by decide) ?_
  refine g_icmp_ne (tgt := 26) X (w.2.2 _ _) (inL rfl) dX4_weightIn_11 (by decide) (fun cd => ?_) (fun cd => ?_)
  · replace hf := ite_f cd hf
    refine g_iconst X dX4_weightIn_26 ?_
    refine g_istn (v := 0) (lv' := [(3, .int (i2 0)), (0, .ref (ad 30)), (1, .int (i2 p1)), (2, .int (i2 p2))]) X rfl dX4_weightIn_27 rfl hl (by decide) rfl (fun ls hl => ?_)
    refine g_iconst X dX4_weightIn_28 ?_
    refine g_ist (v := 0) (lv' := [(4, .int (i2 0)), (3, .int (i2 0)), (0, .ref (ad 30)), (1, .int (i2 p1)), (2, .int (i2 p2))]) X rfl dX4_weightIn_29 hl (by decide) rfl (fun ls hl => ?_)
    obtain ⟨q, hq, h1⟩ := obn_some hf
    exact l_X4_weightIn_31 X p1 hp1 p2 hp2 (out := q) (fun y3 y4 H locs ls eq hy3 hy4 hl w => b_X4_weightIn_j68 X  HR y3 hy3 (by subst eq; exact h1) (lv_sub hl [3] rfl) w)  FU 0 0 hq (inL rfl) (inL rfl) (lv_sub hl [2, 3, 4, 1, 0] rfl) w
  · replace hf := ite_t cd hf
    refine lv_aload_n hx hb dX4_weightIn_14 rfl (lv_at hl 0 rfl) ?_
    refine g_getr X w fg_X4_20 KD_30 FR_30_6 dX4_weightIn_15 ?_
    refine lv_iload_n hx hb dX4_weightIn_18 rfl (lv_at hl 1 rfl) ?_
    obtain ⟨hg_2, hf⟩ := gd_some hf
    refine g_iald X w KD_33 hp1 hg_2 dX4_weightIn_19 ?_
    refine lv_iload_n hx hb dX4_weightIn_20 rfl (lv_at hl 2 rfl) ?_
    refine g_iand X dX4_weightIn_21 ?_
    obtain ⟨r, hc, hf⟩ := obn_some hf
    refine g_csi (As := [.int (i2 (band (M 33 p1.toNat) p2))]) (rest := []) X w (k_J6_bitCount_0f7a4 X.2.2.1 (band (M 33 p1.toNat) p2) (inR_toInt _) w.2.2 hc) lk_X4_123 ⟨rfl, rfl⟩ ⟨nle rfl, nle rfl⟩ ⟨nle rfl, nle rfl⟩ hl.1 rfl (nle rfl) dX4_weightIn_22 (fun hr H locs w => ?_)
    exact HR r _ _ _ _ (Option.some.inj hf).symm hr w dX4_weightIn_25
set_option maxRecDepth 100000 in
set_option maxHeartbeats 4000000 in
theorem k_X4_weightIn {l : Launch} {D : va_G} {aC : Nat → ClassId} {ad : Nat → Nat} {sg : SG} (hi : Inj ad) (p1 : Int) (hp1 : inR p1) (p2 : Int) (hp2 : inR p2) {M : Mem} (hM : inM M) {r : Int} (hf : f_X4_weightIn p1 p2 M = some r) : MetI l D aC ad sg yX4_weightIn cX4_weightIn 5 (some .int) rm_X4_weightIn 0 0 [.ref (ad 30), .int (i2 p1), .int (i2 p2)] M r M := by
  refine MetI.ofI (by decide +kernel) (nle rfl) hi hM (fun p e s m args below meth c Q H0 ls X hl w hret => ?_)
  exact b_X4_weightIn_0 X  (fun r1 H locs pc ls eo hP w dg => by cases eo; exact hret H locs pc ls hP w dg) p1 hp1 p2 hp2 hf hl w
set_option maxRecDepth 100000 in
set_option maxHeartbeats 4000000 in
theorem b_X4_harmBy_s88 (X : CX p s m args c cX4_harmBy 7 RX4 D aC ad sg A H0) (p2 : Nat) (hp2 : KD[p2]? = some (.inr (0, aln p2))) (v1 : Int) (hv1 : inR v1) {M : Mem} {o : (Int × Int) ⊕ (Int × Int)} (HC : ∀ (y3 : Int) (y4 : Int) (H : Heap) (locs : List Loc) (ls : Array Slot), o = .inl (y3, y4) → inR y3 → inR y4 → lv_has ls 7 [(0, .ref (ad 30)), (1, .int (i2 v1)), (2, .ref (ad p2)), (3, .int (i2 y3)), (4, .int (i2 y4))] → WS D aC ad A H0 M H locs → W p l e rm_X4_harmBy s m args below meth c H locs 0 0 Q (F0 m 88 ls [])) (HE : ∀ (y3 : Int) (y4 : Int) (H : Heap) (locs : List Loc) (ls : Array Slot), o = .inr (y3, y4) → inR y3 → inR y4 → lv_has ls 7 [(0, .ref (ad 30)), (1, .int (i2 v1)), (2, .ref (ad p2)), (3, .int (i2 y3)), (4, .int (i2 y4))] → WS D aC ad A H0 M H locs → W p l e rm_X4_harmBy s m args below meth c H locs 0 0 Q (F0 m 118 ls [])) (v3 : Int) (hv3 : inR v3) (v4 : Int) (hv4 : inR v4) (hf : f_X4_harmBy_s88 p2 v1 M v3 v4 = some o) {H : Heap} {locs : List Loc} {ls : Array Slot} (hl : lv_has ls 7 [(0, .ref (ad 30)), (1, .int (i2 v1)), (2, .ref (ad p2)), (3, .int (i2 v3)), (4, .int (i2 v4))]) (w : WS D aC ad A H0 M H locs) : W p l e rm_X4_harmBy s m args below meth c H locs 0 0 Q (F0 m 88 ls []) := by
  have hx := X.1.1
  have hb := X.1.2.1
  unfold f_X4_harmBy_s88 at hf
  refine lv_iload hx hb dX4_harmBy_88 (lv_at hl 4 rfl) ?_
  refine lv_aload_n hx hb dX4_harmBy_90 rfl (lv_at hl 0 rfl) ?_
  refine g_getr X w fg_X4_26 KD_30 FR_30_0 dX4_harmBy_91 ?_
  refine g_geti X w fg_X4_149 KD_3 FR_3_13 dX4_harmBy_94 ?_
  refine g_icmp_ge (tgt := 118) X hv4 (w.2.2 _ _) dX4_harmBy_97 (by decide) (fun cd => ?_) (fun cd => ?_)
  · replace hf := ite_t cd hf
    exact HE v3 v4 _ _ _ (Option.some.inj hf).symm hv3 hv4 hl w
  · replace hf := ite_f cd hf
    refine lv_iload_n hx hb dX4_harmBy_100 rfl (lv_at hl 3 rfl) ?_
    refine lv_aload_n hx hb dX4_harmBy_101 rfl (lv_at hl 0 rfl) ?_
    refine lv_iload_n hx hb dX4_harmBy_102 rfl (lv_at hl 1 rfl) ?_
    refine lv_aload_n hx hb dX4_harmBy_103 rfl (lv_at hl 2 rfl) ?_
    refine lv_iload hx hb dX4_harmBy_104 (lv_at hl 4 rfl) ?_
    obtain ⟨hg, hf⟩ := gd_some hf
    refine g_iald X w hp2 hv4 hg dX4_harmBy_106 ?_
    obtain ⟨r, hc, hf⟩ := obn_some hf
    refine g_cvi (As := [.int (i2 v1), .int (i2 (M p2 v4.toNat))]) (rest := [.int (i2 v3)]) X w (k_X4_addedHarm X.2.2.1 v1 hv1 (M p2 v4.toNat) (w.2.2 _ _) w.2.2 hc) lk_X4_160 cl_4 KD_30 ⟨rfl, rfl⟩ ⟨nle rfl, nle rfl⟩ ⟨nle rfl, nle rfl⟩ hl.1 rfl (nle rfl) dX4_harmBy_107 (fun hr H locs w => ?_)
    refine g_iadd X dX4_harmBy_110 ?_
    obtain ⟨v3_2, ev3_2, hf⟩ := lt_some hf
    have hv3_2 : inR v3_2 := inR_of ev3_2 (inR_wrap _)
    refine g_istn (v := v3_2) (lv' := [(3, .int (i2 v3_2)), (0, .ref (ad 30)), (1, .int (i2 v1)), (2, .ref (ad p2)), (4, .int (i2 v4))]) X ev3_2 dX4_harmBy_111 rfl hl (by decide) rfl (fun ls hl => ?_)
    obtain ⟨v4_2, ev4_2, hf⟩ := lt_some hf
    have hv4_2 : inR v4_2 := inR_of ev4_2 (inR_wrap _)
    refine lv_iinc (v := i2 v4_2) (lv' := [(4, .int (i2 v4_2)), (3, .int (i2 v3_2)), (0, .ref (ad 30)), (1, .int (i2 v1)), (2, .ref (ad p2))]) hx hb dX4_harmBy_112 hl (k := 4) rfl (by rw [ev4_2]; exact i2_add _ _) (by decide) rfl (fun ls hl => ?_)
    refine lv_goto (tgt := 88) hx hb dX4_harmBy_115 (by decide) ?_
    exact HC v3_2 v4_2 _ _ _ (Option.some.inj hf).symm hv3_2 hv4_2 (lv_sub hl [2, 3, 4, 1, 0] rfl) w
set_option maxRecDepth 100000 in
set_option maxHeartbeats 4000000 in
theorem l_X4_harmBy_88 (X : CX p s m args c cX4_harmBy 7 RX4 D aC ad sg A H0) (p2 : Nat) (hp2 : KD[p2]? = some (.inr (0, aln p2))) (v1 : Int) (hv1 : inR v1) {M : Mem} {out : Int × Int} (HE : ∀ (y3 : Int) (y4 : Int) (H : Heap) (locs : List Loc) (ls : Array Slot), out = (y3, y4) → inR y3 → inR y4 → lv_has ls 7 [(0, .ref (ad 30)), (1, .int (i2 v1)), (2, .ref (ad p2)), (3, .int (i2 y3)), (4, .int (i2 y4))] → WS D aC ad A H0 M H locs → W p l e rm_X4_harmBy s m args below meth c H locs 0 0 Q (F0 m 118 ls [])) : ∀ (n : Nat) (v3 : Int) (v4 : Int), whl (fun s => f_X4_harmBy_s88 p2 v1 M s.1 s.2) n (v3, v4) = some out → inR v3 → inR v4 → ∀ {H : Heap} {locs : List Loc} {ls : Array Slot}, lv_has ls 7 [(0, .ref (ad 30)), (1, .int (i2 v1)), (2, .ref (ad p2)), (3, .int (i2 v3)), (4, .int (i2 v4))] → WS D aC ad A H0 M H locs → W p l e rm_X4_harmBy s m args below meth c H locs 0 0 Q (F0 m 88 ls []) := by
  intro n
  induction n with
  | zero => intro v3 v4 hf; exact (whl_zero hf).elim
  | succ n ih =>
    intro v3 v4 hf hv3 hv4 H locs ls hl w
    obtain ⟨o, hf, hk1, hk2⟩ := whl_step hf
    exact b_X4_harmBy_s88 X p2 hp2 v1 hv1 (fun y3 y4 H locs ls eo hy3 hy4 hl w => ih y3 y4 (hk1 _ eo) hy3 hy4 hl w) (fun y3 y4 H locs ls eo hy3 hy4 hl w => HE y3 y4 H locs ls (hk2 _ eo).symm hy3 hy4 hl w) v3 hv3 v4 hv4 hf hl w
set_option maxRecDepth 100000 in
set_option maxHeartbeats 4000000 in
theorem b_X4_harmBy_j118 (X : CX p s m args c cX4_harmBy 7 RX4 D aC ad sg A H0) (p2 : Nat) (hp2 : KD[p2]? = some (.inr (0, aln p2))) {M : Mem} {o : Int} (HR : ∀ (r : Int) (H : Heap) (locs : List Loc) (pc : Nat) (ls : Array Slot), o = r → inR r → WS D aC ad A H0 M H locs → decode cX4_harmBy pc = .ok (.ireturn, 1) → W p l e rm_X4_harmBy s m args below meth c H locs 0 0 Q (F0 m pc ls [.int (i2 r)])) (v3 : Int) (hv3 : inR v3) (hf : f_X4_harmBy_j118 p2 v3 M = some o) {H : Heap} {locs : List Loc} {ls : Array Slot} (hl : lv_has ls 7 [(3, .int (i2 v3))]) (w : WS D aC ad A H0 M H locs) : W p l e rm_X4_harmBy s m args below meth c H locs 0 0 Q (F0 m 118 ls []) := by
  have hx := X.1.1
  have hb := X.1.2.1
  unfold f_X4_harmBy_j118 at hf
  refine lv_iload_n hx hb dX4_harmBy_118 rfl (lv_at hl 0 rfl) ?_
  exact HR v3 _ _ _ _ (Option.some.inj hf).symm hv3 w dX4_harmBy_119
set_option maxRecDepth 100000 in
set_option maxHeartbeats 4000000 in
theorem b_X4_harmBy_s23 (X : CX p s m args c cX4_harmBy 7 RX4 D aC ad sg A H0) (p2 : Nat) (hp2 : KD[p2]? = some (.inr (0, aln p2))) (v1 : Int) (hv1 : inR v1) {M : Mem} {o : (Int × Int × Int) ⊕ (Int × Int × Int)} (HC : ∀ (y3 : Int) (y4 : Int) (y5 : Int) (H : Heap) (locs : List Loc) (ls : Array Slot), o = .inl (y3, y4, y5) → inR y3 → inR y4 → inR y5 → lv_has ls 7 [(0, .ref (ad 30)), (1, .int (i2 v1)), (2, .ref (ad p2)), (3, .int (i2 y3)), (4, .int (i2 y4)), (5, .int (i2 y5))] → WS D aC ad A H0 M H locs → W p l e rm_X4_harmBy s m args below meth c H locs 0 0 Q (F0 m 23 ls [])) (HE : ∀ (y3 : Int) (y4 : Int) (y5 : Int) (H : Heap) (locs : List Loc) (ls : Array Slot), o = .inr (y3, y4, y5) → inR y3 → inR y4 → inR y5 → lv_has ls 7 [(0, .ref (ad 30)), (1, .int (i2 v1)), (2, .ref (ad p2)), (3, .int (i2 y3)), (4, .int (i2 y4)), (5, .int (i2 y5))] → WS D aC ad A H0 M H locs → W p l e rm_X4_harmBy s m args below meth c H locs 0 0 Q (F0 m 68 ls [])) (v3 : Int) (hv3 : inR v3) (v4 : Int) (hv4 : inR v4) (v5 : Int) (hv5 : inR v5) (hf : f_X4_harmBy_s23 p2 v1 M v3 v4 v5 = some o) {H : Heap} {locs : List Loc} {ls : Array Slot} (hl : lv_has ls 7 [(0, .ref (ad 30)), (1, .int (i2 v1)), (2, .ref (ad p2)), (3, .int (i2 v3)), (4, .int (i2 v4)), (5, .int (i2 v5))]) (w : WS D aC ad A H0 M H locs) : W p l e rm_X4_harmBy s m args below meth c H locs 0 0 Q (F0 m 23 ls []) := by
  have hx := X.1.1
  have hb := X.1.2.1
  unfold f_X4_harmBy_s23 at hf
  refine lv_iload hx hb dX4_harmBy_23 (lv_at hl 5 rfl) ?_
  refine lv_aload_n hx hb dX4_harmBy_25 rfl (lv_at hl 0 rfl) ?_
  refine g_getr X w fg_X4_26 KD_30 FR_30_0 dX4_harmBy_26 ?_
  refine g_geti X w fg_X4_149 KD_3 FR_3_13 dX4_harmBy_29 ?_
  refine g_icmp_ge (tgt := 68) X hv5 (w.2.2 _ _) dX4_harmBy_32 (by decide) (fun cd => ?_) (fun cd => ?_)
  · replace hf := ite_t cd hf
    exact HE v3 v4 v5 _ _ _ (Option.some.inj hf).symm hv3 hv4 hv5 hl w
  · replace hf := ite_f cd hf
    refine lv_aload_n hx hb dX4_harmBy_35 rfl (lv_at hl 0 rfl) ?_
    refine lv_iload_n hx hb dX4_harmBy_36 rfl (lv_at hl 1 rfl) ?_
    refine lv_aload_n hx hb dX4_harmBy_37 rfl (lv_at hl 2 rfl) ?_
    refine lv_iload hx hb dX4_harmBy_38 (lv_at hl 5 rfl) ?_
    obtain ⟨hg, hf⟩ := gd_some hf
    refine g_iald X w hp2 hv5 hg dX4_harmBy_40 ?_
    obtain ⟨r, hc, hf⟩ := obn_some hf
    refine g_cvi (As := [.int (i2 v1), .int (i2 (M p2 v5.toNat))]) (rest := []) X w (k_X4_weightIn X.2.2.1 v1 hv1 (M p2 v5.toNat) (w.2.2 _ _) w.2.2 hc) lk_X4_146 cl_4 KD_30 ⟨rfl, rfl⟩ ⟨nle rfl, nle rfl⟩ ⟨nle rfl, nle rfl⟩ hl.1 rfl (nle rfl) dX4_harmBy_41 (fun hr H locs w => ?_)
    refine g_ist (v := r) (lv' := [(6, .int (i2 r)), (0, .ref (ad 30)), (1, .int (i2 v1)), (2, .ref (ad p2)), (3, .int (i2 v3)), (4, .int (i2 v4)), (5, .int (i2 v5))]) X rfl dX4_harmBy_44 hl (by decide) rfl (fun ls hl => ?_)
    refine lv_iload_n hx hb dX4_harmBy_46 rfl (lv_at hl 4 rfl) ?_
    refine lv_iload hx hb dX4_harmBy_47 (lv_at hl 0 rfl) ?_
    refine g_min X hv3 hr hl.1 mw_X4_152 ⟨nle rfl, nle rfl⟩ (nle rfl) (nle rfl) (nle rfl) dX4_harmBy_49 ?_
    obtain ⟨v3_2, ev3_2, hf⟩ := lt_some hf
    have hv3_2 : inR v3_2 := inR_of ev3_2 (inR_ite hr hv3)
    refine g_istn (v := v3_2) (lv' := [(3, .int (i2 v3_2)), (6, .int (i2 r)), (0, .ref (ad 30)), (1, .int (i2 v1)), (2, .ref (ad p2)), (4, .int (i2 v4)), (5, .int (i2 v5))]) X ev3_2 dX4_harmBy_52 rfl hl (by decide) rfl (fun ls hl => ?_)
    refine lv_iload hx hb dX4_harmBy_53 (lv_at hl 5 rfl) ?_
    refine lv_iload hx hb dX4_harmBy_55 (lv_at hl 1 rfl) ?_
    refine g_max X hv4 hr hl.1 mw_X4_157 ⟨nle rfl, nle rfl⟩ (nle rfl) (nle rfl) (nle rfl) dX4_harmBy_57 ?_
    obtain ⟨v4_2, ev4_2, hf⟩ := lt_some hf
    have hv4_2 : inR v4_2 := inR_of ev4_2 (inR_ite hr hv4)
    refine g_ist (v := v4_2) (lv' := [(4, .int (i2 v4_2)), (3, .int (i2 v3_2)), (6, .int (i2 r)), (0, .ref (ad 30)), (1, .int (i2 v1)), (2, .ref (ad p2)), (5, .int (i2 v5))]) X ev4_2 dX4_harmBy_60 hl (by decide) rfl (fun ls hl => ?_)
    obtain ⟨v5_2, ev5_2, hf⟩ := lt_some hf
    have hv5_2 : inR v5_2 := inR_of ev5_2 (inR_wrap _)
    refine lv_iinc (v := i2 v5_2) (lv' := [(5, .int (i2 v5_2)), (4, .int (i2 v4_2)), (3, .int (i2 v3_2)), (6, .int (i2 r)), (0, .ref (ad 30)), (1, .int (i2 v1)), (2, .ref (ad p2))]) hx hb dX4_harmBy_62 hl (k := 6) rfl (by rw [ev5_2]; exact i2_add _ _) (by decide) rfl (fun ls hl => ?_)
    refine lv_goto (tgt := 23) hx hb dX4_harmBy_65 (by decide) ?_
    exact HC v3_2 v4_2 v5_2 _ _ _ (Option.some.inj hf).symm hv3_2 hv4_2 hv5_2 (lv_sub hl [4, 5, 6, 2, 1, 0] rfl) w
set_option maxRecDepth 100000 in
set_option maxHeartbeats 4000000 in
theorem l_X4_harmBy_23 (X : CX p s m args c cX4_harmBy 7 RX4 D aC ad sg A H0) (p2 : Nat) (hp2 : KD[p2]? = some (.inr (0, aln p2))) (v1 : Int) (hv1 : inR v1) {M : Mem} {out : Int × Int × Int} (HE : ∀ (y3 : Int) (y4 : Int) (y5 : Int) (H : Heap) (locs : List Loc) (ls : Array Slot), out = (y3, y4, y5) → inR y3 → inR y4 → inR y5 → lv_has ls 7 [(0, .ref (ad 30)), (1, .int (i2 v1)), (2, .ref (ad p2)), (3, .int (i2 y3)), (4, .int (i2 y4)), (5, .int (i2 y5))] → WS D aC ad A H0 M H locs → W p l e rm_X4_harmBy s m args below meth c H locs 0 0 Q (F0 m 68 ls [])) : ∀ (n : Nat) (v3 : Int) (v4 : Int) (v5 : Int), whl (fun s => f_X4_harmBy_s23 p2 v1 M s.1 s.2.1 s.2.2) n (v3, v4, v5) = some out → inR v3 → inR v4 → inR v5 → ∀ {H : Heap} {locs : List Loc} {ls : Array Slot}, lv_has ls 7 [(0, .ref (ad 30)), (1, .int (i2 v1)), (2, .ref (ad p2)), (3, .int (i2 v3)), (4, .int (i2 v4)), (5, .int (i2 v5))] → WS D aC ad A H0 M H locs → W p l e rm_X4_harmBy s m args below meth c H locs 0 0 Q (F0 m 23 ls []) := by
  intro n
  induction n with
  | zero => intro v3 v4 v5 hf; exact (whl_zero hf).elim
  | succ n ih =>
    intro v3 v4 v5 hf hv3 hv4 hv5 H locs ls hl w
    obtain ⟨o, hf, hk1, hk2⟩ := whl_step hf
    exact b_X4_harmBy_s23 X p2 hp2 v1 hv1 (fun y3 y4 y5 H locs ls eo hy3 hy4 hy5 hl w => ih y3 y4 y5 (hk1 _ eo) hy3 hy4 hy5 hl w) (fun y3 y4 y5 H locs ls eo hy3 hy4 hy5 hl w => HE y3 y4 y5 H locs ls (hk2 _ eo).symm hy3 hy4 hy5 hl w) v3 hv3 v4 hv4 v5 hv5 hf hl w
set_option maxRecDepth 100000 in
set_option maxHeartbeats 4000000 in
theorem b_X4_harmBy_j68 (X : CX p s m args c cX4_harmBy 7 RX4 D aC ad sg A H0) (p2 : Nat) (hp2 : KD[p2]? = some (.inr (0, aln p2))) {M : Mem} {o : Int} (HR : ∀ (r : Int) (H : Heap) (locs : List Loc) (pc : Nat) (ls : Array Slot), o = r → inR r → WS D aC ad A H0 M H locs → decode cX4_harmBy pc = .ok (.ireturn, 1) → W p l e rm_X4_harmBy s m args below meth c H locs 0 0 Q (F0 m pc ls [.int (i2 r)])) (v1 : Int) (hv1 : inR v1) (v3 : Int) (hv3 : inR v3) (v4 : Int) (hv4 : inR v4) (hf : f_X4_harmBy_j68 p2 v1 v3 v4 M = some o) {H : Heap} {locs : List Loc} {ls : Array Slot} (hl : lv_has ls 7 [(0, .ref (ad 30)), (1, .int (i2 v1)), (3, .int (i2 v3)), (4, .int (i2 v4))]) (w : WS D aC ad A H0 M H locs) : W p l e rm_X4_harmBy s m args below meth c H locs 0 0 Q (F0 m 68 ls []) := by
  have hx := X.1.1
  have hb := X.1.2.1
  unfold f_X4_harmBy_j68 at hf
  refine lv_aload_n hx hb dX4_harmBy_68 rfl (lv_at hl 0 rfl) ?_
  obtain ⟨hru, hf⟩ := gd_some hf
  refine g_getd X w fg_X4_34 KD_30 FR_30_2 hru dX4_harmBy_69 ?_
  refine g_getr X w fg_X4_131 (KD_ru hru) (FR_ru_2 hru) dX4_harmBy_72 ?_
  refine lv_iload_n hx hb dX4_harmBy_75 rfl (lv_at hl 1 rfl) ?_
  obtain ⟨hg, hf⟩ := gd_some hf
  refine g_iald X w (KD_ru_2 hru) hv1 hg dX4_harmBy_76 ?_
  refine lv_iload hx hb dX4_harmBy_77 (lv_at hl 3 rfl) ?_
  refine lv_iload_n hx hb dX4_harmBy_79 rfl (lv_at hl 2 rfl) ?_
  refine g_isub X dX4_harmBy_80 ?_
  refine g_imul X dX4_harmBy_81 ?_
  exact HR (wrap ((M ((M 30 2).toNat + 2) v1.toNat) * (wrap (v4 - v3)))) _ _ _ _ (Option.some.inj hf).symm (inR_wrap _) w dX4_harmBy_82
set_option maxRecDepth 100000 in
set_option maxHeartbeats 4000000 in
theorem b_X4_harmBy_0 (X : CX p s m args c cX4_harmBy 7 RX4 D aC ad sg A H0) (p2 : Nat) (hp2 : KD[p2]? = some (.inr (0, aln p2))) {M : Mem} {o : Int} (HR : ∀ (r : Int) (H : Heap) (locs : List Loc) (pc : Nat) (ls : Array Slot), o = r → inR r → WS D aC ad A H0 M H locs → decode cX4_harmBy pc = .ok (.ireturn, 1) → W p l e rm_X4_harmBy s m args below meth c H locs 0 0 Q (F0 m pc ls [.int (i2 r)])) (p1 : Int) (hp1 : inR p1) (hf : f_X4_harmBy p1 p2 M = some o) {H : Heap} {locs : List Loc} {ls : Array Slot} (hl : lv_has ls 7 [(0, .ref (ad 30)), (1, .int (i2 p1)), (2, .ref (ad p2))]) (w : WS D aC ad A H0 M H locs) : W p l e rm_X4_harmBy s m args below meth c H locs 0 0 Q (F0 m 0 ls []) := by
  have hx := X.1.1
  have hb := X.1.2.1
  unfold f_X4_harmBy at hf
  refine lv_aload_n hx hb dX4_harmBy_0 rfl (lv_at hl 0 rfl) ?_
  refine lv_iload_n hx hb dX4_harmBy_1 rfl (lv_at hl 1 rfl) ?_
  obtain ⟨r, hc, hf⟩ := obn_some hf
  refine g_cvi (As := [.int (i2 p1)]) (rest := []) X w (k_X4_isSpread X.2.2.1 p1 hp1 w.2.2 hc) lk_X4_143 cl_4 KD_30 ⟨rfl, rfl⟩ ⟨nle rfl, nle rfl⟩ ⟨nle rfl, nle rfl⟩ hl.1 rfl (nle rfl) dX4_harmBy_2 (fun hr H locs w => ?_)
  refine g_if_eq (tgt := 83) X hr dX4_harmBy_5 (by decide) (fun cd => ?_) (fun cd => ?_)
  · replace hf := ite_t cd hf
    refine g_iconst X dX4_harmBy_83 ?_
    refine g_istn (v := 0) (lv' := [(3, .int (i2 0)), (0, .ref (ad 30)), (1, .int (i2 p1)), (2, .ref (ad p2))]) X rfl dX4_harmBy_84 rfl hl (by decide) rfl (fun ls hl => ?_)
    refine g_iconst X dX4_harmBy_85 ?_
    refine g_ist (v := 0) (lv' := [(4, .int (i2 0)), (3, .int (i2 0)), (0, .ref (ad 30)), (1, .int (i2 p1)), (2, .ref (ad p2))]) X rfl dX4_harmBy_86 hl (by decide) rfl (fun ls hl => ?_)
    obtain ⟨q, hq, h1⟩ := obn_some hf
    exact l_X4_harmBy_88 X p2 hp2 p1 hp1 (out := q) (fun y3 y4 H locs ls eq hy3 hy4 hl w => b_X4_harmBy_j118 X p2 hp2 HR y3 hy3 (by subst eq; exact h1) (lv_sub hl [3] rfl) w)  FU 0 0 hq (inL rfl) (inL rfl) (lv_sub hl [2, 3, 4, 1, 0] rfl) w
  · replace hf := ite_f cd hf
    refine lv_aload_n hx hb dX4_harmBy_8 rfl (lv_at hl 0 rfl) ?_
    refine lv_iload_n hx hb dX4_harmBy_9 rfl (lv_at hl 1 rfl) ?_
    refine lv_aload_n hx hb dX4_harmBy_10 rfl (lv_at hl 2 rfl) ?_
    refine g_iconst X dX4_harmBy_11 ?_
    obtain ⟨hg, hf⟩ := gd_some hf
    refine g_iald X w hp2 (inL rfl) hg dX4_harmBy_12 ?_
    obtain ⟨r_2, hc, hf⟩ := obn_some hf
    refine g_cvi (As := [.int (i2 p1), .int (i2 (M p2 0))]) (rest := []) X w (k_X4_weightIn X.2.2.1 p1 hp1 (M p2 0) (w.2.2 _ _) w.2.2 hc) lk_X4_146 cl_4 KD_30 ⟨rfl, rfl⟩ ⟨nle rfl, nle rfl⟩ ⟨nle rfl, nle rfl⟩ hl.1 rfl (nle rfl) dX4_harmBy_13 (fun hr_2 H locs w => ?_)
    refine g_istn (v := r_2) (lv' := [(3, .int (i2 r_2)), (0, .ref (ad 30)), (1, .int (i2 p1)), (2, .ref (ad p2))]) X rfl dX4_harmBy_16 rfl hl (by decide) rfl (fun ls hl => ?_)
    refine lv_iload_n hx hb dX4_harmBy_17 rfl (lv_at hl 0 rfl) ?_
    refine g_ist (v := r_2) (lv' := [(4, .int (i2 r_2)), (3, .int (i2 r_2)), (0, .ref (ad 30)), (1, .int (i2 p1)), (2, .ref (ad p2))]) X rfl dX4_harmBy_18 hl (by decide) rfl (fun ls hl => ?_)
    refine g_iconst X dX4_harmBy_20 ?_
    refine g_ist (v := 1) (lv' := [(5, .int (i2 1)), (4, .int (i2 r_2)), (3, .int (i2 r_2)), (0, .ref (ad 30)), (1, .int (i2 p1)), (2, .ref (ad p2))]) X rfl dX4_harmBy_21 hl (by decide) rfl (fun ls hl => ?_)
    obtain ⟨q, hq, h1⟩ := obn_some hf
    exact l_X4_harmBy_23 X p2 hp2 p1 hp1 (out := q) (fun y3 y4 y5 H locs ls eq hy3 hy4 hy5 hl w => b_X4_harmBy_j68 X p2 hp2 HR p1 hp1 y3 hy3 y4 hy4 (by subst eq; exact h1) (lv_sub hl [0, 1, 3, 4] rfl) w)  FU r_2 r_2 1 hq hr_2 hr_2 (inL rfl) (lv_sub hl [3, 4, 5, 2, 1, 0] rfl) w
set_option maxRecDepth 100000 in
set_option maxHeartbeats 4000000 in
theorem k_X4_harmBy {l : Launch} {D : va_G} {aC : Nat → ClassId} {ad : Nat → Nat} {sg : SG} (hi : Inj ad) (p1 : Int) (hp1 : inR p1) (p2 : Nat) (hp2 : KD[p2]? = some (.inr (0, aln p2))) {M : Mem} (hM : inM M) {r : Int} (hf : f_X4_harmBy p1 p2 M = some r) : MetI l D aC ad sg yX4_harmBy cX4_harmBy 7 (some .int) rm_X4_harmBy 0 0 [.ref (ad 30), .int (i2 p1), .ref (ad p2)] M r M := by
  refine MetI.ofI (by decide +kernel) (nle rfl) hi hM (fun p e s m args below meth c Q H0 ls X hl w hret => ?_)
  exact b_X4_harmBy_0 X p2 hp2 (fun r1 H locs pc ls eo hP w dg => by cases eo; exact hret H locs pc ls hP w dg) p1 hp1 hf hl w
set_option maxRecDepth 100000 in
set_option maxHeartbeats 4000000 in
theorem b_X4_harmOf_s4 (X : CX p s m args c cX4_harmOf 4 RX4 D aC ad sg A H0) (p1 : Nat) (hp1 : KD[p1]? = some (.inr (0, aln p1))) {M : Mem} {o : (Int × Int) ⊕ (Int × Int)} (HC : ∀ (y2 : Int) (y3 : Int) (H : Heap) (locs : List Loc) (ls : Array Slot), o = .inl (y2, y3) → inR y2 → inR y3 → lv_has ls 4 [(0, .ref (ad 30)), (1, .ref (ad p1)), (2, .int (i2 y2)), (3, .int (i2 y3))] → WS D aC ad A H0 M H locs → W p l e rm_X4_harmOf s m args below meth c H locs 0 0 Q (F0 m 4 ls [])) (HE : ∀ (y2 : Int) (y3 : Int) (H : Heap) (locs : List Loc) (ls : Array Slot), o = .inr (y2, y3) → inR y2 → inR y3 → lv_has ls 4 [(0, .ref (ad 30)), (1, .ref (ad p1)), (2, .int (i2 y2)), (3, .int (i2 y3))] → WS D aC ad A H0 M H locs → W p l e rm_X4_harmOf s m args below meth c H locs 0 0 Q (F0 m 30 ls [])) (v2 : Int) (hv2 : inR v2) (v3 : Int) (hv3 : inR v3) (hf : f_X4_harmOf_s4 p1 M v2 v3 = some o) {H : Heap} {locs : List Loc} {ls : Array Slot} (hl : lv_has ls 4 [(0, .ref (ad 30)), (1, .ref (ad p1)), (2, .int (i2 v2)), (3, .int (i2 v3))]) (w : WS D aC ad A H0 M H locs) : W p l e rm_X4_harmOf s m args below meth c H locs 0 0 Q (F0 m 4 ls []) := by
  have hx := X.1.1
  have hb := X.1.2.1
  unfold f_X4_harmOf_s4 at hf
  refine lv_iload_n hx hb dX4_harmOf_4 rfl (lv_at hl 3 rfl) ?_
  refine lv_aload_n hx hb dX4_harmOf_5 rfl (lv_at hl 0 rfl) ?_
  obtain ⟨hru, hf⟩ := gd_some hf
  refine g_getd X w fg_X4_34 KD_30 FR_30_2 hru dX4_harmOf_6 ?_
  refine g_geti X w fg_X4_69 (KD_ru hru) (FR_ru_0 hru) dX4_harmOf_9 ?_
  refine g_icmp_ge (tgt := 30) X hv3 (w.2.2 _ _) dX4_harmOf_12 (by decide) (fun cd => ?_) (fun cd => ?_)
  · replace hf := ite_t cd hf
    exact HE v2 v3 _ _ _ (Option.some.inj hf).symm hv2 hv3 hl w
  · replace hf := ite_f cd hf
    refine lv_iload_n hx hb dX4_harmOf_15 rfl (lv_at hl 2 rfl) ?_
    refine lv_aload_n hx hb dX4_harmOf_16 rfl (lv_at hl 0 rfl) ?_
    refine lv_iload_n hx hb dX4_harmOf_17 rfl (lv_at hl 3 rfl) ?_
    refine lv_aload_n hx hb dX4_harmOf_18 rfl (lv_at hl 1 rfl) ?_
    obtain ⟨r, hc, hf⟩ := obn_some hf
    refine g_cvi (As := [.int (i2 v3), .ref (ad p1)]) (rest := [.int (i2 v2)]) X w (k_X4_harmBy X.2.2.1 v3 hv3 p1 hp1 w.2.2 hc) lk_X4_163 cl_4 KD_30 ⟨rfl, rfl⟩ ⟨nle rfl, nle rfl⟩ ⟨nle rfl, nle rfl⟩ hl.1 rfl (nle rfl) dX4_harmOf_19 (fun hr H locs w => ?_)
    refine g_iadd X dX4_harmOf_22 ?_
    obtain ⟨v2_2, ev2_2, hf⟩ := lt_some hf
    have hv2_2 : inR v2_2 := inR_of ev2_2 (inR_wrap _)
    refine g_istn (v := v2_2) (lv' := [(2, .int (i2 v2_2)), (0, .ref (ad 30)), (1, .ref (ad p1)), (3, .int (i2 v3))]) X ev2_2 dX4_harmOf_23 rfl hl (by decide) rfl (fun ls hl => ?_)
    obtain ⟨v3_2, ev3_2, hf⟩ := lt_some hf
    have hv3_2 : inR v3_2 := inR_of ev3_2 (inR_wrap _)
    refine lv_iinc (v := i2 v3_2) (lv' := [(3, .int (i2 v3_2)), (2, .int (i2 v2_2)), (0, .ref (ad 30)), (1, .ref (ad p1))]) hx hb dX4_harmOf_24 hl (k := 3) rfl (by rw [ev3_2]; exact i2_add _ _) (by decide) rfl (fun ls hl => ?_)
    refine lv_goto (tgt := 4) hx hb dX4_harmOf_27 (by decide) ?_
    exact HC v2_2 v3_2 _ _ _ (Option.some.inj hf).symm hv2_2 hv3_2 (lv_sub hl [2, 3, 1, 0] rfl) w
set_option maxRecDepth 100000 in
set_option maxHeartbeats 4000000 in
theorem l_X4_harmOf_4 (X : CX p s m args c cX4_harmOf 4 RX4 D aC ad sg A H0) (p1 : Nat) (hp1 : KD[p1]? = some (.inr (0, aln p1))) {M : Mem} {out : Int × Int} (HE : ∀ (y2 : Int) (y3 : Int) (H : Heap) (locs : List Loc) (ls : Array Slot), out = (y2, y3) → inR y2 → inR y3 → lv_has ls 4 [(0, .ref (ad 30)), (1, .ref (ad p1)), (2, .int (i2 y2)), (3, .int (i2 y3))] → WS D aC ad A H0 M H locs → W p l e rm_X4_harmOf s m args below meth c H locs 0 0 Q (F0 m 30 ls [])) : ∀ (n : Nat) (v2 : Int) (v3 : Int), whl (fun s => f_X4_harmOf_s4 p1 M s.1 s.2) n (v2, v3) = some out → inR v2 → inR v3 → ∀ {H : Heap} {locs : List Loc} {ls : Array Slot}, lv_has ls 4 [(0, .ref (ad 30)), (1, .ref (ad p1)), (2, .int (i2 v2)), (3, .int (i2 v3))] → WS D aC ad A H0 M H locs → W p l e rm_X4_harmOf s m args below meth c H locs 0 0 Q (F0 m 4 ls []) := by
  intro n
  induction n with
  | zero => intro v2 v3 hf; exact (whl_zero hf).elim
  | succ n ih =>
    intro v2 v3 hf hv2 hv3 H locs ls hl w
    obtain ⟨o, hf, hk1, hk2⟩ := whl_step hf
    exact b_X4_harmOf_s4 X p1 hp1 (fun y2 y3 H locs ls eo hy2 hy3 hl w => ih y2 y3 (hk1 _ eo) hy2 hy3 hl w) (fun y2 y3 H locs ls eo hy2 hy3 hl w => HE y2 y3 H locs ls (hk2 _ eo).symm hy2 hy3 hl w) v2 hv2 v3 hv3 hf hl w
set_option maxRecDepth 100000 in
set_option maxHeartbeats 4000000 in
theorem b_X4_harmOf_j30 (X : CX p s m args c cX4_harmOf 4 RX4 D aC ad sg A H0) (p1 : Nat) (hp1 : KD[p1]? = some (.inr (0, aln p1))) {M : Mem} {o : Int} (HR : ∀ (r : Int) (H : Heap) (locs : List Loc) (pc : Nat) (ls : Array Slot), o = r → inR r → WS D aC ad A H0 M H locs → decode cX4_harmOf pc = .ok (.ireturn, 1) → W p l e rm_X4_harmOf s m args below meth c H locs 0 0 Q (F0 m pc ls [.int (i2 r)])) (v2 : Int) (hv2 : inR v2) (hf : f_X4_harmOf_j30 p1 v2 M = some o) {H : Heap} {locs : List Loc} {ls : Array Slot} (hl : lv_has ls 4 [(2, .int (i2 v2))]) (w : WS D aC ad A H0 M H locs) : W p l e rm_X4_harmOf s m args below meth c H locs 0 0 Q (F0 m 30 ls []) := by
  have hx := X.1.1
  have hb := X.1.2.1
  unfold f_X4_harmOf_j30 at hf
  refine lv_iload_n hx hb dX4_harmOf_30 rfl (lv_at hl 0 rfl) ?_
  exact HR v2 _ _ _ _ (Option.some.inj hf).symm hv2 w dX4_harmOf_31
set_option maxRecDepth 100000 in
set_option maxHeartbeats 4000000 in
theorem b_X4_harmOf_0 (X : CX p s m args c cX4_harmOf 4 RX4 D aC ad sg A H0) (p1 : Nat) (hp1 : KD[p1]? = some (.inr (0, aln p1))) {M : Mem} {o : Int} (HR : ∀ (r : Int) (H : Heap) (locs : List Loc) (pc : Nat) (ls : Array Slot), o = r → inR r → WS D aC ad A H0 M H locs → decode cX4_harmOf pc = .ok (.ireturn, 1) → W p l e rm_X4_harmOf s m args below meth c H locs 0 0 Q (F0 m pc ls [.int (i2 r)])) (hf : f_X4_harmOf p1 M = some o) {H : Heap} {locs : List Loc} {ls : Array Slot} (hl : lv_has ls 4 [(0, .ref (ad 30)), (1, .ref (ad p1))]) (w : WS D aC ad A H0 M H locs) : W p l e rm_X4_harmOf s m args below meth c H locs 0 0 Q (F0 m 0 ls []) := by
  have hx := X.1.1
  have hb := X.1.2.1
  unfold f_X4_harmOf at hf
  refine g_iconst X dX4_harmOf_0 ?_
  refine g_istn (v := 0) (lv' := [(2, .int (i2 0)), (0, .ref (ad 30)), (1, .ref (ad p1))]) X rfl dX4_harmOf_1 rfl hl (by decide) rfl (fun ls hl => ?_)
  refine g_iconst X dX4_harmOf_2 ?_
  refine g_istn (v := 0) (lv' := [(3, .int (i2 0)), (2, .int (i2 0)), (0, .ref (ad 30)), (1, .ref (ad p1))]) X rfl dX4_harmOf_3 rfl hl (by decide) rfl (fun ls hl => ?_)
  obtain ⟨q, hq, h1⟩ := obn_some hf
  exact l_X4_harmOf_4 X p1 hp1 (out := q) (fun y2 y3 H locs ls eq hy2 hy3 hl w => b_X4_harmOf_j30 X p1 hp1 HR y2 hy2 (by subst eq; exact h1) (lv_sub hl [2] rfl) w)  FU 0 0 hq (inL rfl) (inL rfl) (lv_sub hl [2, 3, 1, 0] rfl) w
set_option maxRecDepth 100000 in
set_option maxHeartbeats 4000000 in
theorem k_X4_harmOf {l : Launch} {D : va_G} {aC : Nat → ClassId} {ad : Nat → Nat} {sg : SG} (hi : Inj ad) (p1 : Nat) (hp1 : KD[p1]? = some (.inr (0, aln p1))) {M : Mem} (hM : inM M) {r : Int} (hf : f_X4_harmOf p1 M = some r) : MetI l D aC ad sg yX4_harmOf cX4_harmOf 4 (some .int) rm_X4_harmOf 0 0 [.ref (ad 30), .ref (ad p1)] M r M := by
  refine MetI.ofI (by decide +kernel) (nle rfl) hi hM (fun p e s m args below meth c Q H0 ls X hl w hret => ?_)
  exact b_X4_harmOf_0 X p1 hp1 (fun r1 H locs pc ls eo hP w dg => by cases eo; exact hret H locs pc ls hP w dg)  hf hl w
set_option maxRecDepth 100000 in
set_option maxHeartbeats 4000000 in
theorem b_X4_lackOf_s4 (X : CX p s m args c cX4_lackOf 4 RX4 D aC ad sg A H0) (p1 : Nat) (hp1 : KD[p1]? = some (.inr (0, aln p1))) {M : Mem} {o : (Int × Int) ⊕ (Int × Int)} (HC : ∀ (y2 : Int) (y3 : Int) (H : Heap) (locs : List Loc) (ls : Array Slot), o = .inl (y2, y3) → inR y2 → inR y3 → lv_has ls 4 [(0, .ref (ad 30)), (1, .ref (ad p1)), (2, .int (i2 y2)), (3, .int (i2 y3))] → WS D aC ad A H0 M H locs → W p l e rm_X4_lackOf s m args below meth c H locs 0 0 Q (F0 m 4 ls [])) (HE : ∀ (y2 : Int) (y3 : Int) (H : Heap) (locs : List Loc) (ls : Array Slot), o = .inr (y2, y3) → inR y2 → inR y3 → lv_has ls 4 [(0, .ref (ad 30)), (1, .ref (ad p1)), (2, .int (i2 y2)), (3, .int (i2 y3))] → WS D aC ad A H0 M H locs → W p l e rm_X4_lackOf s m args below meth c H locs 0 0 Q (F0 m 31 ls [])) (v2 : Int) (hv2 : inR v2) (v3 : Int) (hv3 : inR v3) (hf : f_X4_lackOf_s4 p1 M v2 v3 = some o) {H : Heap} {locs : List Loc} {ls : Array Slot} (hl : lv_has ls 4 [(0, .ref (ad 30)), (1, .ref (ad p1)), (2, .int (i2 v2)), (3, .int (i2 v3))]) (w : WS D aC ad A H0 M H locs) : W p l e rm_X4_lackOf s m args below meth c H locs 0 0 Q (F0 m 4 ls []) := by
  have hx := X.1.1
  have hb := X.1.2.1
  unfold f_X4_lackOf_s4 at hf
  refine lv_iload_n hx hb dX4_lackOf_4 rfl (lv_at hl 3 rfl) ?_
  refine lv_aload_n hx hb dX4_lackOf_5 rfl (lv_at hl 0 rfl) ?_
  refine g_getr X w fg_X4_26 KD_30 FR_30_0 dX4_lackOf_6 ?_
  refine g_geti X w fg_X4_149 KD_3 FR_3_13 dX4_lackOf_9 ?_
  refine g_icmp_ge (tgt := 31) X hv3 (w.2.2 _ _) dX4_lackOf_12 (by decide) (fun cd => ?_) (fun cd => ?_)
  · replace hf := ite_t cd hf
    exact HE v2 v3 _ _ _ (Option.some.inj hf).symm hv2 hv3 hl w
  · replace hf := ite_f cd hf
    refine lv_iload_n hx hb dX4_lackOf_15 rfl (lv_at hl 2 rfl) ?_
    refine lv_aload_n hx hb dX4_lackOf_16 rfl (lv_at hl 0 rfl) ?_
    refine lv_aload_n hx hb dX4_lackOf_17 rfl (lv_at hl 1 rfl) ?_
    refine lv_iload_n hx hb dX4_lackOf_18 rfl (lv_at hl 3 rfl) ?_
    obtain ⟨hg, hf⟩ := gd_some hf
    refine g_iald X w hp1 hv3 hg dX4_lackOf_19 ?_
    obtain ⟨r, hc, hf⟩ := obn_some hf
    refine g_cvi (As := [.int (i2 (M p1 v3.toNat))]) (rest := [.int (i2 v2)]) X w (k_X4_lackIn X.2.2.1 (M p1 v3.toNat) (w.2.2 _ _) w.2.2 hc) lk_X4_167 cl_4 KD_30 ⟨rfl, rfl⟩ ⟨nle rfl, nle rfl⟩ ⟨nle rfl, nle rfl⟩ hl.1 rfl (nle rfl) dX4_lackOf_20 (fun hr H locs w => ?_)
    refine g_iadd X dX4_lackOf_23 ?_
    obtain ⟨v2_2, ev2_2, hf⟩ := lt_some hf
    have hv2_2 : inR v2_2 := inR_of ev2_2 (inR_wrap _)
    refine g_istn (v := v2_2) (lv' := [(2, .int (i2 v2_2)), (0, .ref (ad 30)), (1, .ref (ad p1)), (3, .int (i2 v3))]) X ev2_2 dX4_lackOf_24 rfl hl (by decide) rfl (fun ls hl => ?_)
    obtain ⟨v3_2, ev3_2, hf⟩ := lt_some hf
    have hv3_2 : inR v3_2 := inR_of ev3_2 (inR_wrap _)
    refine lv_iinc (v := i2 v3_2) (lv' := [(3, .int (i2 v3_2)), (2, .int (i2 v2_2)), (0, .ref (ad 30)), (1, .ref (ad p1))]) hx hb dX4_lackOf_25 hl (k := 3) rfl (by rw [ev3_2]; exact i2_add _ _) (by decide) rfl (fun ls hl => ?_)
    refine lv_goto (tgt := 4) hx hb dX4_lackOf_28 (by decide) ?_
    exact HC v2_2 v3_2 _ _ _ (Option.some.inj hf).symm hv2_2 hv3_2 (lv_sub hl [2, 3, 1, 0] rfl) w
set_option maxRecDepth 100000 in
set_option maxHeartbeats 4000000 in
theorem l_X4_lackOf_4 (X : CX p s m args c cX4_lackOf 4 RX4 D aC ad sg A H0) (p1 : Nat) (hp1 : KD[p1]? = some (.inr (0, aln p1))) {M : Mem} {out : Int × Int} (HE : ∀ (y2 : Int) (y3 : Int) (H : Heap) (locs : List Loc) (ls : Array Slot), out = (y2, y3) → inR y2 → inR y3 → lv_has ls 4 [(0, .ref (ad 30)), (1, .ref (ad p1)), (2, .int (i2 y2)), (3, .int (i2 y3))] → WS D aC ad A H0 M H locs → W p l e rm_X4_lackOf s m args below meth c H locs 0 0 Q (F0 m 31 ls [])) : ∀ (n : Nat) (v2 : Int) (v3 : Int), whl (fun s => f_X4_lackOf_s4 p1 M s.1 s.2) n (v2, v3) = some out → inR v2 → inR v3 → ∀ {H : Heap} {locs : List Loc} {ls : Array Slot}, lv_has ls 4 [(0, .ref (ad 30)), (1, .ref (ad p1)), (2, .int (i2 v2)), (3, .int (i2 v3))] → WS D aC ad A H0 M H locs → W p l e rm_X4_lackOf s m args below meth c H locs 0 0 Q (F0 m 4 ls []) := by
  intro n
  induction n with
  | zero => intro v2 v3 hf; exact (whl_zero hf).elim
  | succ n ih =>
    intro v2 v3 hf hv2 hv3 H locs ls hl w
    obtain ⟨o, hf, hk1, hk2⟩ := whl_step hf
    exact b_X4_lackOf_s4 X p1 hp1 (fun y2 y3 H locs ls eo hy2 hy3 hl w => ih y2 y3 (hk1 _ eo) hy2 hy3 hl w) (fun y2 y3 H locs ls eo hy2 hy3 hl w => HE y2 y3 H locs ls (hk2 _ eo).symm hy2 hy3 hl w) v2 hv2 v3 hv3 hf hl w
set_option maxRecDepth 100000 in
set_option maxHeartbeats 4000000 in
theorem b_X4_lackOf_j31 (X : CX p s m args c cX4_lackOf 4 RX4 D aC ad sg A H0) (p1 : Nat) (hp1 : KD[p1]? = some (.inr (0, aln p1))) {M : Mem} {o : Int} (HR : ∀ (r : Int) (H : Heap) (locs : List Loc) (pc : Nat) (ls : Array Slot), o = r → inR r → WS D aC ad A H0 M H locs → decode cX4_lackOf pc = .ok (.ireturn, 1) → W p l e rm_X4_lackOf s m args below meth c H locs 0 0 Q (F0 m pc ls [.int (i2 r)])) (v2 : Int) (hv2 : inR v2) (hf : f_X4_lackOf_j31 p1 v2 M = some o) {H : Heap} {locs : List Loc} {ls : Array Slot} (hl : lv_has ls 4 [(2, .int (i2 v2))]) (w : WS D aC ad A H0 M H locs) : W p l e rm_X4_lackOf s m args below meth c H locs 0 0 Q (F0 m 31 ls []) := by
  have hx := X.1.1
  have hb := X.1.2.1
  unfold f_X4_lackOf_j31 at hf
  refine lv_iload_n hx hb dX4_lackOf_31 rfl (lv_at hl 0 rfl) ?_
  exact HR v2 _ _ _ _ (Option.some.inj hf).symm hv2 w dX4_lackOf_32
set_option maxRecDepth 100000 in
set_option maxHeartbeats 4000000 in
theorem b_X4_lackOf_0 (X : CX p s m args c cX4_lackOf 4 RX4 D aC ad sg A H0) (p1 : Nat) (hp1 : KD[p1]? = some (.inr (0, aln p1))) {M : Mem} {o : Int} (HR : ∀ (r : Int) (H : Heap) (locs : List Loc) (pc : Nat) (ls : Array Slot), o = r → inR r → WS D aC ad A H0 M H locs → decode cX4_lackOf pc = .ok (.ireturn, 1) → W p l e rm_X4_lackOf s m args below meth c H locs 0 0 Q (F0 m pc ls [.int (i2 r)])) (hf : f_X4_lackOf p1 M = some o) {H : Heap} {locs : List Loc} {ls : Array Slot} (hl : lv_has ls 4 [(0, .ref (ad 30)), (1, .ref (ad p1))]) (w : WS D aC ad A H0 M H locs) : W p l e rm_X4_lackOf s m args below meth c H locs 0 0 Q (F0 m 0 ls []) := by
  have hx := X.1.1
  have hb := X.1.2.1
  unfold f_X4_lackOf at hf
  refine g_iconst X dX4_lackOf_0 ?_
  refine g_istn (v := 0) (lv' := [(2, .int (i2 0)), (0, .ref (ad 30)), (1, .ref (ad p1))]) X rfl dX4_lackOf_1 rfl hl (by decide) rfl (fun ls hl => ?_)
  refine g_iconst X dX4_lackOf_2 ?_
  refine g_istn (v := 0) (lv' := [(3, .int (i2 0)), (2, .int (i2 0)), (0, .ref (ad 30)), (1, .ref (ad p1))]) X rfl dX4_lackOf_3 rfl hl (by decide) rfl (fun ls hl => ?_)
  obtain ⟨q, hq, h1⟩ := obn_some hf
  exact l_X4_lackOf_4 X p1 hp1 (out := q) (fun y2 y3 H locs ls eq hy2 hy3 hl w => b_X4_lackOf_j31 X p1 hp1 HR y2 hy2 (by subst eq; exact h1) (lv_sub hl [2] rfl) w)  FU 0 0 hq (inL rfl) (inL rfl) (lv_sub hl [2, 3, 1, 0] rfl) w
set_option maxRecDepth 100000 in
set_option maxHeartbeats 4000000 in
theorem k_X4_lackOf {l : Launch} {D : va_G} {aC : Nat → ClassId} {ad : Nat → Nat} {sg : SG} (hi : Inj ad) (p1 : Nat) (hp1 : KD[p1]? = some (.inr (0, aln p1))) {M : Mem} (hM : inM M) {r : Int} (hf : f_X4_lackOf p1 M = some r) : MetI l D aC ad sg yX4_lackOf cX4_lackOf 4 (some .int) rm_X4_lackOf 0 0 [.ref (ad 30), .ref (ad p1)] M r M := by
  refine MetI.ofI (by decide +kernel) (nle rfl) hi hM (fun p e s m args below meth c Q H0 ls X hl w hret => ?_)
  exact b_X4_lackOf_0 X p1 hp1 (fun r1 H locs pc ls eo hP w dg => by cases eo; exact hret H locs pc ls hP w dg)  hf hl w
set_option maxRecDepth 100000 in
set_option maxHeartbeats 4000000 in
theorem b_X4_allows_0 (X : CX p s m args c cX4_allows 2 RX4 D aC ad sg A H0) (p1 : Nat) (hp1 : KD[p1]? = some (.inr (0, aln p1))) {M : Mem} {o : Int} (HR : ∀ (r : Int) (H : Heap) (locs : List Loc) (pc : Nat) (ls : Array Slot), o = r → isZ r → WS D aC ad A H0 M H locs → decode cX4_allows pc = .ok (.ireturn, 1) → W p l e rm_X4_allows s m args below meth c H locs 0 0 Q (F0 m pc ls [.int (i2 r)])) (hf : f_X4_allows p1 M = some o) {H : Heap} {locs : List Loc} {ls : Array Slot} (hl : lv_has ls 2 [(0, .ref (ad 30)), (1, .ref (ad p1))]) (w : WS D aC ad A H0 M H locs) : W p l e rm_X4_allows s m args below meth c H locs 0 0 Q (F0 m 0 ls []) := by
  have hx := X.1.1
  have hb := X.1.2.1
  unfold f_X4_allows at hf
  refine lv_aload_n hx hb dX4_allows_0 rfl (lv_at hl 0 rfl) ?_
  refine lv_aload_n hx hb dX4_allows_1 rfl (lv_at hl 1 rfl) ?_
  obtain ⟨r, hc, hf⟩ := obn_some hf
  refine g_cvi (As := [.ref (ad p1)]) (rest := []) X w (k_X4_lackOf X.2.2.1 p1 hp1 w.2.2 hc) lk_X4_176 cl_4 KD_30 ⟨rfl, rfl⟩ ⟨nle rfl, nle rfl⟩ ⟨nle rfl, nle rfl⟩ hl.1 rfl (nle rfl) dX4_allows_2 (fun hr H locs w => ?_)
  refine g_if_ne (tgt := 20) X hr dX4_allows_5 (by decide) (fun cd => ?_) (fun cd => ?_)
  · replace hf := ite_f cd hf
    refine g_iconst X dX4_allows_20 ?_
    exact HR 0 _ _ _ _ (Option.some.inj hf).symm (Or.inl rfl) w dX4_allows_21
  · replace hf := ite_t cd hf
    refine lv_aload_n hx hb dX4_allows_8 rfl (lv_at hl 0 rfl) ?_
    refine lv_aload_n hx hb dX4_allows_9 rfl (lv_at hl 1 rfl) ?_
    obtain ⟨r_2, hc, hf⟩ := obn_some hf
    refine g_cvi (As := [.ref (ad p1)]) (rest := []) X w (k_X4_isSound X.2.2.1 p1 hp1 w.2.2 hc) lk_X4_180 cl_4 KD_30 ⟨rfl, rfl⟩ ⟨nle rfl, nle rfl⟩ ⟨nle rfl, nle rfl⟩ hl.1 rfl (nle rfl) dX4_allows_10 (fun hr_2 H locs w => ?_)
    refine g_if_eq (tgt := 20) X hr_2 dX4_allows_13 (by decide) (fun cd_2 => ?_) (fun cd_2 => ?_)
    · replace hf := ite_t cd_2 hf
      refine g_iconst X dX4_allows_20 ?_
      exact HR 0 _ _ _ _ (Option.some.inj hf).symm (Or.inl rfl) w dX4_allows_21
    · replace hf := ite_f cd_2 hf
      refine g_iconst X dX4_allows_16 ?_
      refine lv_goto (tgt := 21) hx hb dX4_allows_17 (by decide) ?_
      exact HR 1 _ _ _ _ (Option.some.inj hf).symm (Or.inr rfl) w dX4_allows_21
set_option maxRecDepth 100000 in
set_option maxHeartbeats 4000000 in
theorem k_X4_allows {l : Launch} {D : va_G} {aC : Nat → ClassId} {ad : Nat → Nat} {sg : SG} (hi : Inj ad) (p1 : Nat) (hp1 : KD[p1]? = some (.inr (0, aln p1))) {M : Mem} (hM : inM M) {r : Int} (hf : f_X4_allows p1 M = some r) : MetI l D aC ad sg yX4_allows cX4_allows 2 (some .boolean) rm_X4_allows 0 0 [.ref (ad 30), .ref (ad p1)] M r M := by
  refine MetI.ofZ (by decide +kernel) (nle rfl) hi hM (fun p e s m args below meth c Q H0 ls X hl w hret => ?_)
  exact b_X4_allows_0 X p1 hp1 (fun r1 H locs pc ls eo hP w dg => by cases eo; exact hret H locs pc ls hP w dg)  hf hl w
end
section
variable {p : Program} {l : Launch} {e : Env} {s : State} {m : MethodId} {args : Array Value} {below : List Frame} {meth : Method} {c : Code} {Q : State → Prop} {D : va_G} {aC : Nat → ClassId} {ad : Nat → Nat} {sg : SG} {A : Nat → Prop} {H0 : Heap}
set_option maxRecDepth 100000 in
set_option maxHeartbeats 4000000 in
theorem b_X8_begin_0 (X : CX p s m args c cX8_begin 1 RX8 D aC ad sg A H0) {o : Mem} (HR : ∀ (M1 : Mem) (H : Heap) (locs : List Loc) (pc : Nat) (ls : Array Slot), o = M1 → WS D aC ad A H0 M1 H locs → decode cX8_begin pc = .ok (.return_, 1) → W p l e rm_X8_begin s m args below meth c H locs 0 0 Q (F0 m pc ls [])) (M : Mem) (hf : f_X8_begin M = some o) {H : Heap} {locs : List Loc} {ls : Array Slot} (hl : lv_has ls 1 [(0, .ref (ad 35))]) (w : WS D aC ad A H0 M H locs) : W p l e rm_X8_begin s m args below meth c H locs 0 0 Q (F0 m 0 ls []) := by
  have hx := X.1.1
  have hb := X.1.2.1
  unfold f_X8_begin at hf
  refine lv_aload_n hx hb dX8_begin_0 rfl (lv_at hl 0 rfl) ?_
  refine g_iconst X dX8_begin_1 ?_
  obtain ⟨M_2, eM_2, hf⟩ := lt_some hf
  refine g_puti X w fp_X8_58 KD_35 FR_35_2 (inL rfl) dX8_begin_2 (fun H locs w_M_2 => ?_)
  rw [← eM_2] at w_M_2
  refine lv_aload_n hx hb dX8_begin_5 rfl (lv_at hl 0 rfl) ?_
  refine g_iconst X dX8_begin_6 ?_
  obtain ⟨M_3, eM_3, hf⟩ := lt_some hf
  refine g_putz X w_M_2 fp_X8_62 KD_35 FR_35_17 (Or.inl rfl) dX8_begin_7 (fun H locs w_M_3 => ?_)
  rw [← eM_3] at w_M_3
  exact HR M_3 _ _ _ _ (Option.some.inj hf).symm w_M_3 dX8_begin_10
set_option maxRecDepth 100000 in
set_option maxHeartbeats 4000000 in
theorem k_X8_begin {l : Launch} {D : va_G} {aC : Nat → ClassId} {ad : Nat → Nat} {sg : SG} (hi : Inj ad)  {M : Mem} (hM : inM M) {M' : Mem} (hf : f_X8_begin M = some M') : MetV l D aC ad sg yX8_begin cX8_begin 1 rm_X8_begin 0 0 [.ref (ad 35)] M M' := by
  refine MetV.of (by decide +kernel) (nle rfl) hi hM (fun p e s m args below meth c Q H0 ls X hl w hret => ?_)
  exact b_X8_begin_0 X  (fun M1 H locs pc ls eo w dg => by cases eo; exact hret H locs pc ls w dg) M hf hl w
set_option maxRecDepth 100000 in
set_option maxHeartbeats 4000000 in
theorem b_X8_admit_0 (X : CX p s m args c cX8_admit 3 RX8 D aC ad sg A H0) {o : Mem} (HR : ∀ (M1 : Mem) (H : Heap) (locs : List Loc) (pc : Nat) (ls : Array Slot), o = M1 → WS D aC ad A H0 M1 H locs → decode cX8_admit pc = .ok (.return_, 1) → W p l e rm_X8_admit s m args below meth c H locs 0 0 Q (F0 m pc ls [])) (p1 : Int) (hp1 : inR p1) (p2 : Int) (hp2 : inR p2) (M : Mem) (hf : f_X8_admit p1 p2 M = some o) {H : Heap} {locs : List Loc} {ls : Array Slot} (hl : lv_has ls 3 [(0, .ref (ad 35)), (1, .int (i2 p1)), (2, .int (i2 p2))]) (w : WS D aC ad A H0 M H locs) : W p l e rm_X8_admit s m args below meth c H locs 0 0 Q (F0 m 0 ls []) := by
  have hx := X.1.1
  have hb := X.1.2.1
  unfold f_X8_admit at hf
  refine lv_aload_n hx hb dX8_admit_0 rfl (lv_at hl 0 rfl) ?_
  refine g_geti X w fg_X8_58 KD_35 FR_35_2 dX8_admit_1 ?_
  refine g_bipush X dX8_admit_4 (by decide) ?_
  refine g_icmp_ge (tgt := 39) X (w.2.2 _ _) (inL rfl) dX8_admit_6 (by decide) (fun cd => ?_) (fun cd => ?_)
  · replace hf := ite_t cd hf
    exact HR M _ _ _ _ (Option.some.inj hf).symm w dX8_admit_39
  · replace hf := ite_f cd hf
    refine lv_aload_n hx hb dX8_admit_9 rfl (lv_at hl 0 rfl) ?_
    refine g_getr X w fg_X8_11 KD_35 FR_35_3 dX8_admit_10 ?_
    refine lv_aload_n hx hb dX8_admit_13 rfl (lv_at hl 0 rfl) ?_
    refine g_geti X w fg_X8_58 KD_35 FR_35_2 dX8_admit_14 ?_
    refine lv_iload_n hx hb dX8_admit_17 rfl (lv_at hl 1 rfl) ?_
    obtain ⟨hg, hf⟩ := gd_some hf
    obtain ⟨M_2, eM_2, hf⟩ := lt_some hf
    refine g_iast X w KD_36 (w.2.2 _ _) hg hp1 dX8_admit_18 (fun H locs w_M_2 => ?_)
    rw [← eM_2] at w_M_2
    refine lv_aload_n hx hb dX8_admit_19 rfl (lv_at hl 0 rfl) ?_
    refine g_getr X w_M_2 fg_X8_15 KD_35 FR_35_4 dX8_admit_20 ?_
    refine lv_aload_n hx hb dX8_admit_23 rfl (lv_at hl 0 rfl) ?_
    refine g_geti X w_M_2 fg_X8_58 KD_35 FR_35_2 dX8_admit_24 ?_
    refine lv_iload_n hx hb dX8_admit_27 rfl (lv_at hl 2 rfl) ?_
    obtain ⟨hg_2, hf⟩ := gd_some hf
    obtain ⟨M_3, eM_3, hf⟩ := lt_some hf
    refine g_iast X w_M_2 KD_37 (w_M_2.2.2 _ _) hg_2 hp2 dX8_admit_28 (fun H locs w_M_3 => ?_)
    rw [← eM_3] at w_M_3
    refine lv_aload_n hx hb dX8_admit_29 rfl (lv_at hl 0 rfl) ?_
    refine lv_dup hx hb dX8_admit_30 rfl ?_
    refine g_geti X w_M_3 fg_X8_58 KD_35 FR_35_2 dX8_admit_31 ?_
    refine g_iconst X dX8_admit_34 ?_
    refine g_iadd X dX8_admit_35 ?_
    obtain ⟨M_4, eM_4, hf⟩ := lt_some hf
    refine g_puti X w_M_3 fp_X8_58 KD_35 FR_35_2 (inR_wrap _) dX8_admit_36 (fun H locs w_M_4 => ?_)
    rw [← eM_4] at w_M_4
    exact HR M_4 _ _ _ _ (Option.some.inj hf).symm w_M_4 dX8_admit_39
set_option maxRecDepth 100000 in
set_option maxHeartbeats 4000000 in
theorem k_X8_admit {l : Launch} {D : va_G} {aC : Nat → ClassId} {ad : Nat → Nat} {sg : SG} (hi : Inj ad) (p1 : Int) (hp1 : inR p1) (p2 : Int) (hp2 : inR p2) {M : Mem} (hM : inM M) {M' : Mem} (hf : f_X8_admit p1 p2 M = some M') : MetV l D aC ad sg yX8_admit cX8_admit 3 rm_X8_admit 0 0 [.ref (ad 35), .int (i2 p1), .int (i2 p2)] M M' := by
  refine MetV.of (by decide +kernel) (nle rfl) hi hM (fun p e s m args below meth c Q H0 ls X hl w hret => ?_)
  exact b_X8_admit_0 X  (fun M1 H locs pc ls eo w dg => by cases eo; exact hret H locs pc ls w dg) p1 hp1 p2 hp2 M hf hl w
set_option maxRecDepth 100000 in
set_option maxHeartbeats 4000000 in
theorem b_X8_readSets_s16 (X : CX p s m args c cX8_readSets 4 RX8 D aC ad sg A H0) (v1 : Int) (hv1 : inR v1) {M : Mem} {o : (Int × Int) ⊕ (Int × Int)} (HC : ∀ (y2 : Int) (y3 : Int) (H : Heap) (locs : List Loc) (ls : Array Slot), o = .inl (y2, y3) → inR y2 → inR y3 → lv_has ls 4 [(0, .ref (ad 35)), (1, .int (i2 v1)), (2, .int (i2 y2)), (3, .int (i2 y3))] → WS D aC ad A H0 M H locs → W p l e rm_X8_readSets s m args below meth c H locs 0 0 Q (F0 m 16 ls [])) (HE : ∀ (y2 : Int) (y3 : Int) (H : Heap) (locs : List Loc) (ls : Array Slot), o = .inr (y2, y3) → inR y2 → inR y3 → lv_has ls 4 [(0, .ref (ad 35)), (1, .int (i2 v1)), (2, .int (i2 y2)), (3, .int (i2 y3))] → WS D aC ad A H0 M H locs → W p l e rm_X8_readSets s m args below meth c H locs 0 0 Q (F0 m 49 ls [])) (v2 : Int) (hv2 : inR v2) (v3 : Int) (hv3 : inR v3) (hf : f_X8_readSets_s16 v1 M v2 v3 = some o) {H : Heap} {locs : List Loc} {ls : Array Slot} (hl : lv_has ls 4 [(0, .ref (ad 35)), (1, .int (i2 v1)), (2, .int (i2 v2)), (3, .int (i2 v3))]) (w : WS D aC ad A H0 M H locs) : W p l e rm_X8_readSets s m args below meth c H locs 0 0 Q (F0 m 16 ls []) := by
  have hx := X.1.1
  have hb := X.1.2.1
  unfold f_X8_readSets_s16 at hf
  refine lv_iload_n hx hb dX8_readSets_16 rfl (lv_at hl 3 rfl) ?_
  refine lv_aload_n hx hb dX8_readSets_17 rfl (lv_at hl 0 rfl) ?_
  refine g_geti X w fg_X8_58 KD_35 FR_35_2 dX8_readSets_18 ?_
  refine g_icmp_ge (tgt := 49) X hv3 (w.2.2 _ _) dX8_readSets_21 (by decide) (fun cd => ?_) (fun cd => ?_)
  · replace hf := ite_t cd hf
    exact HE v2 v3 _ _ _ (Option.some.inj hf).symm hv2 hv3 hl w
  · replace hf := ite_f cd hf
    refine lv_iload_n hx hb dX8_readSets_24 rfl (lv_at hl 1 rfl) ?_
    refine lv_iload_n hx hb dX8_readSets_25 rfl (lv_at hl 3 rfl) ?_
    refine g_ishr X dX8_readSets_26 ?_
    refine g_iconst X dX8_readSets_27 ?_
    refine g_iand X dX8_readSets_28 ?_
    refine g_if_eq (tgt := 43) X (inR_toInt _) dX8_readSets_29 (by decide) (fun cd_2 => ?_) (fun cd_2 => ?_)
    · replace hf := ite_t cd_2 hf
      obtain ⟨v3_2, ev3_2, hf⟩ := lt_some hf
      have hv3_2 : inR v3_2 := inR_of ev3_2 (inR_wrap _)
      refine lv_iinc (v := i2 v3_2) (lv' := [(3, .int (i2 v3_2)), (0, .ref (ad 35)), (1, .int (i2 v1)), (2, .int (i2 v2))]) hx hb dX8_readSets_43 hl (k := 3) rfl (by rw [ev3_2]; exact i2_add _ _) (by decide) rfl (fun ls hl => ?_)
      refine lv_goto (tgt := 16) hx hb dX8_readSets_46 (by decide) ?_
      exact HC v2 v3_2 _ _ _ (Option.some.inj hf).symm hv2 hv3_2 (lv_sub hl [1, 2, 3, 0] rfl) w
    · replace hf := ite_f cd_2 hf
      refine lv_iload_n hx hb dX8_readSets_32 rfl (lv_at hl 2 rfl) ?_
      refine g_iconst X dX8_readSets_33 ?_
      refine lv_aload_n hx hb dX8_readSets_34 rfl (lv_at hl 0 rfl) ?_
      refine g_getr X w fg_X8_11 KD_35 FR_35_3 dX8_readSets_35 ?_
      refine lv_iload_n hx hb dX8_readSets_38 rfl (lv_at hl 3 rfl) ?_
      obtain ⟨hg, hf⟩ := gd_some hf
      refine g_iald X w KD_36 hv3 hg dX8_readSets_39 ?_
      refine g_ishl X dX8_readSets_40 ?_
      refine g_ior X dX8_readSets_41 ?_
      obtain ⟨v2_2, ev2_2, hf⟩ := lt_some hf
      have hv2_2 : inR v2_2 := inR_of ev2_2 (inR_toInt _)
      refine g_istn (v := v2_2) (lv' := [(2, .int (i2 v2_2)), (0, .ref (ad 35)), (1, .int (i2 v1)), (3, .int (i2 v3))]) X ev2_2 dX8_readSets_42 rfl hl (by decide) rfl (fun ls hl => ?_)
      obtain ⟨v3_3, ev3_3, hf⟩ := lt_some hf
      have hv3_3 : inR v3_3 := inR_of ev3_3 (inR_wrap _)
      refine lv_iinc (v := i2 v3_3) (lv' := [(3, .int (i2 v3_3)), (2, .int (i2 v2_2)), (0, .ref (ad 35)), (1, .int (i2 v1))]) hx hb dX8_readSets_43 hl (k := 3) rfl (by rw [ev3_3]; exact i2_add _ _) (by decide) rfl (fun ls hl => ?_)
      refine lv_goto (tgt := 16) hx hb dX8_readSets_46 (by decide) ?_
      exact HC v2_2 v3_3 _ _ _ (Option.some.inj hf).symm hv2_2 hv3_3 (lv_sub hl [2, 3, 1, 0] rfl) w
set_option maxRecDepth 100000 in
set_option maxHeartbeats 4000000 in
theorem l_X8_readSets_16 (X : CX p s m args c cX8_readSets 4 RX8 D aC ad sg A H0) (v1 : Int) (hv1 : inR v1) {M : Mem} {out : Int × Int} (HE : ∀ (y2 : Int) (y3 : Int) (H : Heap) (locs : List Loc) (ls : Array Slot), out = (y2, y3) → inR y2 → inR y3 → lv_has ls 4 [(0, .ref (ad 35)), (1, .int (i2 v1)), (2, .int (i2 y2)), (3, .int (i2 y3))] → WS D aC ad A H0 M H locs → W p l e rm_X8_readSets s m args below meth c H locs 0 0 Q (F0 m 49 ls [])) : ∀ (n : Nat) (v2 : Int) (v3 : Int), whl (fun s => f_X8_readSets_s16 v1 M s.1 s.2) n (v2, v3) = some out → inR v2 → inR v3 → ∀ {H : Heap} {locs : List Loc} {ls : Array Slot}, lv_has ls 4 [(0, .ref (ad 35)), (1, .int (i2 v1)), (2, .int (i2 v2)), (3, .int (i2 v3))] → WS D aC ad A H0 M H locs → W p l e rm_X8_readSets s m args below meth c H locs 0 0 Q (F0 m 16 ls []) := by
  intro n
  induction n with
  | zero => intro v2 v3 hf; exact (whl_zero hf).elim
  | succ n ih =>
    intro v2 v3 hf hv2 hv3 H locs ls hl w
    obtain ⟨o, hf, hk1, hk2⟩ := whl_step hf
    exact b_X8_readSets_s16 X v1 hv1 (fun y2 y3 H locs ls eo hy2 hy3 hl w => ih y2 y3 (hk1 _ eo) hy2 hy3 hl w) (fun y2 y3 H locs ls eo hy2 hy3 hl w => HE y2 y3 H locs ls (hk2 _ eo).symm hy2 hy3 hl w) v2 hv2 v3 hv3 hf hl w
set_option maxRecDepth 100000 in
set_option maxHeartbeats 4000000 in
theorem b_X8_readSets_s58 (X : CX p s m args c cX8_readSets 4 RX8 D aC ad sg A H0) (v1 : Int) (hv1 : inR v1) (v2 : Int) (hv2 : inR v2) {o : (Int × Mem) ⊕ (Int × Mem)} (HC : ∀ (y3 : Int) (M1 : Mem) (H : Heap) (locs : List Loc) (ls : Array Slot), o = .inl (y3, M1) → inR y3 → lv_has ls 4 [(0, .ref (ad 35)), (1, .int (i2 v1)), (2, .int (i2 v2)), (3, .int (i2 y3))] → WS D aC ad A H0 M1 H locs → W p l e rm_X8_readSets s m args below meth c H locs 0 0 Q (F0 m 58 ls [])) (HE : ∀ (y3 : Int) (M1 : Mem) (H : Heap) (locs : List Loc) (ls : Array Slot), o = .inr (y3, M1) → inR y3 → lv_has ls 4 [(0, .ref (ad 35)), (1, .int (i2 v1)), (2, .int (i2 v2)), (3, .int (i2 y3))] → WS D aC ad A H0 M1 H locs → W p l e rm_X8_readSets s m args below meth c H locs 0 0 Q (F0 m 99 ls [])) (v3 : Int) (hv3 : inR v3) (M : Mem) (hf : f_X8_readSets_s58 v1 v2 v3 M = some o) {H : Heap} {locs : List Loc} {ls : Array Slot} (hl : lv_has ls 4 [(0, .ref (ad 35)), (1, .int (i2 v1)), (2, .int (i2 v2)), (3, .int (i2 v3))]) (w : WS D aC ad A H0 M H locs) : W p l e rm_X8_readSets s m args below meth c H locs 0 0 Q (F0 m 58 ls []) := by
  have hx := X.1.1
  have hb := X.1.2.1
  unfold f_X8_readSets_s58 at hf
  refine lv_iload_n hx hb dX8_readSets_58 rfl (lv_at hl 3 rfl) ?_
  refine lv_aload_n hx hb dX8_readSets_59 rfl (lv_at hl 0 rfl) ?_
  refine g_getr X w fg_X8_50 KD_35 FR_35_0 dX8_readSets_60 ?_
  refine g_geti X w fg_X8_98 KD_3 FR_3_13 dX8_readSets_63 ?_
  refine g_icmp_ge (tgt := 99) X hv3 (w.2.2 _ _) dX8_readSets_66 (by decide) (fun cd => ?_) (fun cd => ?_)
  · replace hf := ite_t cd hf
    exact HE v3 M _ _ _ (Option.some.inj hf).symm hv3 hl w
  · replace hf := ite_f cd hf
    refine lv_aload_n hx hb dX8_readSets_69 rfl (lv_at hl 0 rfl) ?_
    refine g_getr X w fg_X8_54 KD_35 FR_35_1 dX8_readSets_70 ?_
    refine lv_iload_n hx hb dX8_readSets_73 rfl (lv_at hl 3 rfl) ?_
    refine lv_iload_n hx hb dX8_readSets_74 rfl (lv_at hl 2 rfl) ?_
    obtain ⟨r, hc, hf⟩ := obn_some hf
    refine g_cvi (As := [.int (i2 v3), .int (i2 v2)]) (rest := []) X w (k_X4_mayStand X.2.2.1 v3 hv3 v2 hv2 w.2.2 hc) lk_X8_103 cl_4 KD_30 ⟨rfl, rfl⟩ ⟨nle rfl, nle rfl⟩ ⟨nle rfl, nle rfl⟩ hl.1 rfl (nle rfl) dX8_readSets_75 (fun hr H locs w => ?_)
    refine g_if_eq (tgt := 93) X hr dX8_readSets_78 (by decide) (fun cd_2 => ?_) (fun cd_2 => ?_)
    · replace hf := ite_t cd_2 hf
      obtain ⟨v3_2, ev3_2, hf⟩ := lt_some hf
      have hv3_2 : inR v3_2 := inR_of ev3_2 (inR_wrap _)
      refine lv_iinc (v := i2 v3_2) (lv' := [(3, .int (i2 v3_2)), (0, .ref (ad 35)), (1, .int (i2 v1)), (2, .int (i2 v2))]) hx hb dX8_readSets_93 hl (k := 3) rfl (by rw [ev3_2]; exact i2_add _ _) (by decide) rfl (fun ls hl => ?_)
      refine lv_goto (tgt := 58) hx hb dX8_readSets_96 (by decide) ?_
      exact HC v3_2 M _ _ _ (Option.some.inj hf).symm hv3_2 (lv_sub hl [1, 2, 3, 0] rfl) w
    · replace hf := ite_f cd_2 hf
      refine lv_aload_n hx hb dX8_readSets_81 rfl (lv_at hl 0 rfl) ?_
      refine g_getr X w fg_X8_21 KD_35 FR_35_6 dX8_readSets_82 ?_
      refine lv_iload_n hx hb dX8_readSets_85 rfl (lv_at hl 1 rfl) ?_
      refine lv_dup2_11 hx hb dX8_readSets_86 rfl rfl ?_
      obtain ⟨hg, hf⟩ := gd_some hf
      refine g_iald X w KD_39 hv1 hg dX8_readSets_87 ?_
      refine g_iconst X dX8_readSets_88 ?_
      refine lv_iload_n hx hb dX8_readSets_89 rfl (lv_at hl 3 rfl) ?_
      refine g_ishl X dX8_readSets_90 ?_
      refine g_ior X dX8_readSets_91 ?_
      obtain ⟨hg_2, hf⟩ := gd_some hf
      obtain ⟨M_2, eM_2, hf⟩ := lt_some hf
      refine g_iast X w KD_39 hv1 hg_2 (inR_toInt _) dX8_readSets_92 (fun H locs w_M_2 => ?_)
      rw [← eM_2] at w_M_2
      obtain ⟨v3_3, ev3_3, hf⟩ := lt_some hf
      have hv3_3 : inR v3_3 := inR_of ev3_3 (inR_wrap _)
      refine lv_iinc (v := i2 v3_3) (lv' := [(3, .int (i2 v3_3)), (0, .ref (ad 35)), (1, .int (i2 v1)), (2, .int (i2 v2))]) hx hb dX8_readSets_93 hl (k := 3) rfl (by rw [ev3_3]; exact i2_add _ _) (by decide) rfl (fun ls hl => ?_)
      refine lv_goto (tgt := 58) hx hb dX8_readSets_96 (by decide) ?_
      exact HC v3_3 M_2 _ _ _ (Option.some.inj hf).symm hv3_3 (lv_sub hl [1, 2, 3, 0] rfl) w_M_2
set_option maxRecDepth 100000 in
set_option maxHeartbeats 4000000 in
theorem l_X8_readSets_58 (X : CX p s m args c cX8_readSets 4 RX8 D aC ad sg A H0) (v1 : Int) (hv1 : inR v1) (v2 : Int) (hv2 : inR v2) {out : Int × Mem} (HE : ∀ (y3 : Int) (M1 : Mem) (H : Heap) (locs : List Loc) (ls : Array Slot), out = (y3, M1) → inR y3 → lv_has ls 4 [(0, .ref (ad 35)), (1, .int (i2 v1)), (2, .int (i2 v2)), (3, .int (i2 y3))] → WS D aC ad A H0 M1 H locs → W p l e rm_X8_readSets s m args below meth c H locs 0 0 Q (F0 m 99 ls [])) : ∀ (n : Nat) (v3 : Int) (M : Mem), whl (fun s => f_X8_readSets_s58 v1 v2 s.1 s.2) n (v3, M) = some out → inR v3 → ∀ {H : Heap} {locs : List Loc} {ls : Array Slot}, lv_has ls 4 [(0, .ref (ad 35)), (1, .int (i2 v1)), (2, .int (i2 v2)), (3, .int (i2 v3))] → WS D aC ad A H0 M H locs → W p l e rm_X8_readSets s m args below meth c H locs 0 0 Q (F0 m 58 ls []) := by
  intro n
  induction n with
  | zero => intro v3 M hf; exact (whl_zero hf).elim
  | succ n ih =>
    intro v3 M hf hv3 H locs ls hl w
    obtain ⟨o, hf, hk1, hk2⟩ := whl_step hf
    exact b_X8_readSets_s58 X v1 hv1 v2 hv2 (fun y3 M1 H locs ls eo hy3 hl w => ih y3 M1 (hk1 _ eo) hy3 hl w) (fun y3 M1 H locs ls eo hy3 hl w => HE y3 M1 H locs ls (hk2 _ eo).symm hy3 hl w) v3 hv3 M hf hl w
set_option maxRecDepth 100000 in
set_option maxHeartbeats 4000000 in
theorem b_X8_readSets_s138 (X : CX p s m args c cX8_readSets 4 RX8 D aC ad sg A H0) (v1 : Int) (hv1 : inR v1) (v2 : Int) (hv2 : inR v2) {o : (Int × Mem) ⊕ (Int × Mem)} (HC : ∀ (y3 : Int) (M1 : Mem) (H : Heap) (locs : List Loc) (ls : Array Slot), o = .inl (y3, M1) → inR y3 → lv_has ls 4 [(0, .ref (ad 35)), (1, .int (i2 v1)), (2, .int (i2 v2)), (3, .int (i2 y3))] → WS D aC ad A H0 M1 H locs → W p l e rm_X8_readSets s m args below meth c H locs 0 0 Q (F0 m 138 ls [])) (HE : ∀ (y3 : Int) (M1 : Mem) (H : Heap) (locs : List Loc) (ls : Array Slot), o = .inr (y3, M1) → inR y3 → lv_has ls 4 [(0, .ref (ad 35)), (1, .int (i2 v1)), (2, .int (i2 v2)), (3, .int (i2 y3))] → WS D aC ad A H0 M1 H locs → W p l e rm_X8_readSets s m args below meth c H locs 0 0 Q (F0 m 176 ls [])) (v3 : Int) (hv3 : inR v3) (M : Mem) (hf : f_X8_readSets_s138 v1 v2 v3 M = some o) {H : Heap} {locs : List Loc} {ls : Array Slot} (hl : lv_has ls 4 [(0, .ref (ad 35)), (1, .int (i2 v1)), (2, .int (i2 v2)), (3, .int (i2 v3))]) (w : WS D aC ad A H0 M H locs) : W p l e rm_X8_readSets s m args below meth c H locs 0 0 Q (F0 m 138 ls []) := by
  have hx := X.1.1
  have hb := X.1.2.1
  unfold f_X8_readSets_s138 at hf
  refine lv_iload_n hx hb dX8_readSets_138 rfl (lv_at hl 3 rfl) ?_
  refine lv_aload_n hx hb dX8_readSets_139 rfl (lv_at hl 0 rfl) ?_
  refine g_getr X w fg_X8_54 KD_35 FR_35_1 dX8_readSets_140 ?_
  obtain ⟨hru, hf⟩ := gd_some hf
  refine g_getd X w fg_X8_112 KD_30 FR_30_2 hru dX8_readSets_143 ?_
  refine g_geti X w fg_X8_116 (KD_ru hru) (FR_ru_0 hru) dX8_readSets_146 ?_
  refine g_icmp_ge (tgt := 176) X hv3 (w.2.2 _ _) dX8_readSets_149 (by decide) (fun cd => ?_) (fun cd => ?_)
  · replace hf := ite_t cd hf
    exact HE v3 M _ _ _ (Option.some.inj hf).symm hv3 hl w
  · replace hf := ite_f cd hf
    refine lv_aload_n hx hb dX8_readSets_152 rfl (lv_at hl 0 rfl) ?_
    refine g_getr X w fg_X8_24 KD_35 FR_35_7 dX8_readSets_153 ?_
    refine lv_iload_n hx hb dX8_readSets_156 rfl (lv_at hl 1 rfl) ?_
    refine lv_dup2_11 hx hb dX8_readSets_157 rfl rfl ?_
    obtain ⟨hg, hf⟩ := gd_some hf
    refine g_iald X w KD_40 hv1 hg dX8_readSets_158 ?_
    refine lv_aload_n hx hb dX8_readSets_159 rfl (lv_at hl 0 rfl) ?_
    refine g_getr X w fg_X8_54 KD_35 FR_35_1 dX8_readSets_160 ?_
    refine lv_iload_n hx hb dX8_readSets_163 rfl (lv_at hl 3 rfl) ?_
    refine lv_iload_n hx hb dX8_readSets_164 rfl (lv_at hl 2 rfl) ?_
    obtain ⟨r, hc, hf⟩ := obn_some hf
    refine g_cvi (As := [.int (i2 v3), .int (i2 v2)]) (rest := [.int (i2 (M 40 v1.toNat)), .int (i2 v1), .ref (ad 40)]) X w (k_X4_addedHarm X.2.2.1 v3 hv3 v2 hv2 w.2.2 hc) lk_X8_119 cl_4 KD_30 ⟨rfl, rfl⟩ ⟨nle rfl, nle rfl⟩ ⟨nle rfl, nle rfl⟩ hl.1 rfl (nle rfl) dX8_readSets_165 (fun hr H locs w => ?_)
    refine g_iadd X dX8_readSets_168 ?_
    obtain ⟨hg_2, hf⟩ := gd_some hf
    obtain ⟨M_2, eM_2, hf⟩ := lt_some hf
    refine g_iast X w KD_40 hv1 hg_2 (inR_wrap _) dX8_readSets_169 (fun H locs w_M_2 => ?_)
    rw [← eM_2] at w_M_2
    obtain ⟨v3_2, ev3_2, hf⟩ := lt_some hf
    have hv3_2 : inR v3_2 := inR_of ev3_2 (inR_wrap _)
    refine lv_iinc (v := i2 v3_2) (lv' := [(3, .int (i2 v3_2)), (0, .ref (ad 35)), (1, .int (i2 v1)), (2, .int (i2 v2))]) hx hb dX8_readSets_170 hl (k := 3) rfl (by rw [ev3_2]; exact i2_add _ _) (by decide) rfl (fun ls hl => ?_)
    refine lv_goto (tgt := 138) hx hb dX8_readSets_173 (by decide) ?_
    exact HC v3_2 M_2 _ _ _ (Option.some.inj hf).symm hv3_2 (lv_sub hl [1, 2, 3, 0] rfl) w_M_2
set_option maxRecDepth 100000 in
set_option maxHeartbeats 4000000 in
theorem l_X8_readSets_138 (X : CX p s m args c cX8_readSets 4 RX8 D aC ad sg A H0) (v1 : Int) (hv1 : inR v1) (v2 : Int) (hv2 : inR v2) {out : Int × Mem} (HE : ∀ (y3 : Int) (M1 : Mem) (H : Heap) (locs : List Loc) (ls : Array Slot), out = (y3, M1) → inR y3 → lv_has ls 4 [(0, .ref (ad 35)), (1, .int (i2 v1)), (2, .int (i2 v2)), (3, .int (i2 y3))] → WS D aC ad A H0 M1 H locs → W p l e rm_X8_readSets s m args below meth c H locs 0 0 Q (F0 m 176 ls [])) : ∀ (n : Nat) (v3 : Int) (M : Mem), whl (fun s => f_X8_readSets_s138 v1 v2 s.1 s.2) n (v3, M) = some out → inR v3 → ∀ {H : Heap} {locs : List Loc} {ls : Array Slot}, lv_has ls 4 [(0, .ref (ad 35)), (1, .int (i2 v1)), (2, .int (i2 v2)), (3, .int (i2 v3))] → WS D aC ad A H0 M H locs → W p l e rm_X8_readSets s m args below meth c H locs 0 0 Q (F0 m 138 ls []) := by
  intro n
  induction n with
  | zero => intro v3 M hf; exact (whl_zero hf).elim
  | succ n ih =>
    intro v3 M hf hv3 H locs ls hl w
    obtain ⟨o, hf, hk1, hk2⟩ := whl_step hf
    exact b_X8_readSets_s138 X v1 hv1 v2 hv2 (fun y3 M1 H locs ls eo hy3 hl w => ih y3 M1 (hk1 _ eo) hy3 hl w) (fun y3 M1 H locs ls eo hy3 hl w => HE y3 M1 H locs ls (hk2 _ eo).symm hy3 hl w) v3 hv3 M hf hl w
set_option maxRecDepth 100000 in
set_option maxHeartbeats 4000000 in
theorem b_X8_readSets_j176k2 (X : CX p s m args c cX8_readSets 4 RX8 D aC ad sg A H0) {o : (Int × Mem) ⊕ (Int × Mem)} (HC : ∀ (y1 : Int) (M1 : Mem) (H : Heap) (locs : List Loc) (ls : Array Slot), o = .inl (y1, M1) → inR y1 → lv_has ls 4 [(0, .ref (ad 35)), (1, .int (i2 y1))] → WS D aC ad A H0 M1 H locs → W p l e rm_X8_readSets s m args below meth c H locs 0 0 Q (F0 m 2 ls [])) (HE : ∀ (y1 : Int) (M1 : Mem) (H : Heap) (locs : List Loc) (ls : Array Slot), o = .inr (y1, M1) → inR y1 → lv_has ls 4 [(0, .ref (ad 35)), (1, .int (i2 y1))] → WS D aC ad A H0 M1 H locs → W p l e rm_X8_readSets s m args below meth c H locs 0 0 Q (F0 m 182 ls [])) (v1 : Int) (hv1 : inR v1) (M : Mem) (hf : f_X8_readSets_j176k2 v1 M = some o) {H : Heap} {locs : List Loc} {ls : Array Slot} (hl : lv_has ls 4 [(0, .ref (ad 35)), (1, .int (i2 v1))]) (w : WS D aC ad A H0 M H locs) : W p l e rm_X8_readSets s m args below meth c H locs 0 0 Q (F0 m 176 ls []) := by
  have hx := X.1.1
  have hb := X.1.2.1
  unfold f_X8_readSets_j176k2 at hf
  obtain ⟨v1_2, ev1_2, hf⟩ := lt_some hf
  have hv1_2 : inR v1_2 := inR_of ev1_2 (inR_wrap _)
  refine lv_iinc (v := i2 v1_2) (lv' := [(1, .int (i2 v1_2)), (0, .ref (ad 35))]) hx hb dX8_readSets_176 hl (k := 1) rfl (by rw [ev1_2]; exact i2_add _ _) (by decide) rfl (fun ls hl => ?_)
  refine lv_goto (tgt := 2) hx hb dX8_readSets_179 (by decide) ?_
  exact HC v1_2 M _ _ _ (Option.some.inj hf).symm hv1_2 (lv_sub hl [1, 0] rfl) w
set_option maxRecDepth 100000 in
set_option maxHeartbeats 4000000 in
theorem b_X8_readSets_j99k2 (X : CX p s m args c cX8_readSets 4 RX8 D aC ad sg A H0) {o : (Int × Mem) ⊕ (Int × Mem)} (HC : ∀ (y1 : Int) (M1 : Mem) (H : Heap) (locs : List Loc) (ls : Array Slot), o = .inl (y1, M1) → inR y1 → lv_has ls 4 [(0, .ref (ad 35)), (1, .int (i2 y1))] → WS D aC ad A H0 M1 H locs → W p l e rm_X8_readSets s m args below meth c H locs 0 0 Q (F0 m 2 ls [])) (HE : ∀ (y1 : Int) (M1 : Mem) (H : Heap) (locs : List Loc) (ls : Array Slot), o = .inr (y1, M1) → inR y1 → lv_has ls 4 [(0, .ref (ad 35)), (1, .int (i2 y1))] → WS D aC ad A H0 M1 H locs → W p l e rm_X8_readSets s m args below meth c H locs 0 0 Q (F0 m 182 ls [])) (v1 : Int) (hv1 : inR v1) (v2 : Int) (hv2 : inR v2) (M : Mem) (hf : f_X8_readSets_j99k2 v1 v2 M = some o) {H : Heap} {locs : List Loc} {ls : Array Slot} (hl : lv_has ls 4 [(0, .ref (ad 35)), (1, .int (i2 v1)), (2, .int (i2 v2))]) (w : WS D aC ad A H0 M H locs) : W p l e rm_X8_readSets s m args below meth c H locs 0 0 Q (F0 m 99 ls []) := by
  have hx := X.1.1
  have hb := X.1.2.1
  unfold f_X8_readSets_j99k2 at hf
  refine lv_aload_n hx hb dX8_readSets_99 rfl (lv_at hl 0 rfl) ?_
  refine g_getr X w fg_X8_24 KD_35 FR_35_7 dX8_readSets_100 ?_
  refine lv_iload_n hx hb dX8_readSets_103 rfl (lv_at hl 1 rfl) ?_
  refine g_iconst X dX8_readSets_104 ?_
  obtain ⟨hg, hf⟩ := gd_some hf
  obtain ⟨M_2, eM_2, hf⟩ := lt_some hf
  refine g_iast X w KD_40 hv1 hg (inL rfl) dX8_readSets_105 (fun H locs w_M_2 => ?_)
  rw [← eM_2] at w_M_2
  refine lv_aload_n hx hb dX8_readSets_106 rfl (lv_at hl 0 rfl) ?_
  refine g_getr X w_M_2 fg_X8_27 KD_35 FR_35_8 dX8_readSets_107 ?_
  refine lv_iload_n hx hb dX8_readSets_110 rfl (lv_at hl 1 rfl) ?_
  refine g_iconst X dX8_readSets_111 ?_
  obtain ⟨hg_2, hf⟩ := gd_some hf
  obtain ⟨M_3, eM_3, hf⟩ := lt_some hf
  refine g_iast X w_M_2 KD_41 hv1 hg_2 (inL rfl) dX8_readSets_112 (fun H locs w_M_3 => ?_)
  rw [← eM_3] at w_M_3
  refine lv_aload_n hx hb dX8_readSets_113 rfl (lv_at hl 0 rfl) ?_
  refine g_getr X w_M_3 fg_X8_21 KD_35 FR_35_6 dX8_readSets_114 ?_
  refine lv_iload_n hx hb dX8_readSets_117 rfl (lv_at hl 1 rfl) ?_
  obtain ⟨hg_3, hf⟩ := gd_some hf
  refine g_iald X w_M_3 KD_39 hv1 hg_3 dX8_readSets_118 ?_
  refine g_if_eq (tgt := 176) X (w_M_3.2.2 _ _) dX8_readSets_119 (by decide) (fun cd => ?_) (fun cd => ?_)
  · replace hf := ite_t cd hf
    obtain ⟨v1_2, ev1_2, hf⟩ := lt_some hf
    have hv1_2 : inR v1_2 := inR_of ev1_2 (inR_wrap _)
    refine lv_iinc (v := i2 v1_2) (lv' := [(1, .int (i2 v1_2)), (0, .ref (ad 35)), (2, .int (i2 v2))]) hx hb dX8_readSets_176 hl (k := 1) rfl (by rw [ev1_2]; exact i2_add _ _) (by decide) rfl (fun ls hl => ?_)
    refine lv_goto (tgt := 2) hx hb dX8_readSets_179 (by decide) ?_
    exact HC v1_2 M_3 _ _ _ (Option.some.inj hf).symm hv1_2 (lv_sub hl [1, 0] rfl) w_M_3
  · replace hf := ite_f cd hf
    refine lv_aload_n hx hb dX8_readSets_122 rfl (lv_at hl 0 rfl) ?_
    refine g_getr X w_M_3 fg_X8_27 KD_35 FR_35_8 dX8_readSets_123 ?_
    refine lv_iload_n hx hb dX8_readSets_126 rfl (lv_at hl 1 rfl) ?_
    refine lv_aload_n hx hb dX8_readSets_127 rfl (lv_at hl 0 rfl) ?_
    refine g_getr X w_M_3 fg_X8_54 KD_35 FR_35_1 dX8_readSets_128 ?_
    refine lv_iload_n hx hb dX8_readSets_131 rfl (lv_at hl 2 rfl) ?_
    obtain ⟨r, hc, hf⟩ := obn_some hf
    refine g_cvi (As := [.int (i2 v2)]) (rest := [.int (i2 v1), .ref (ad 41)]) X w_M_3 (k_X4_lackIn X.2.2.1 v2 hv2 w_M_3.2.2 hc) lk_X8_109 cl_4 KD_30 ⟨rfl, rfl⟩ ⟨nle rfl, nle rfl⟩ ⟨nle rfl, nle rfl⟩ hl.1 rfl (nle rfl) dX8_readSets_132 (fun hr H locs w_M_3 => ?_)
    obtain ⟨hg_4, hf⟩ := gd_some hf
    obtain ⟨M_4, eM_4, hf⟩ := lt_some hf
    refine g_iast X w_M_3 KD_41 hv1 hg_4 hr dX8_readSets_135 (fun H locs w_M_4 => ?_)
    rw [← eM_4] at w_M_4
    refine g_iconst X dX8_readSets_136 ?_
    refine g_istn (v := 0) (lv' := [(3, .int (i2 0)), (0, .ref (ad 35)), (1, .int (i2 v1)), (2, .int (i2 v2))]) X rfl dX8_readSets_137 rfl hl (by decide) rfl (fun ls hl => ?_)
    obtain ⟨q, hq, h1⟩ := obn_some hf
    exact l_X8_readSets_138 X v1 hv1 v2 hv2 (out := q) (fun y3 M1 H locs ls eq hy3 hl w => b_X8_readSets_j176k2 X  HC HE v1 hv1 M1 (by subst eq; exact h1) (lv_sub hl [0, 1] rfl) w)  FU 0 M_4 hq (inL rfl) (lv_sub hl [1, 2, 3, 0] rfl) w_M_4
set_option maxRecDepth 100000 in
set_option maxHeartbeats 4000000 in
theorem b_X8_readSets_j49k2 (X : CX p s m args c cX8_readSets 4 RX8 D aC ad sg A H0) {o : (Int × Mem) ⊕ (Int × Mem)} (HC : ∀ (y1 : Int) (M1 : Mem) (H : Heap) (locs : List Loc) (ls : Array Slot), o = .inl (y1, M1) → inR y1 → lv_has ls 4 [(0, .ref (ad 35)), (1, .int (i2 y1))] → WS D aC ad A H0 M1 H locs → W p l e rm_X8_readSets s m args below meth c H locs 0 0 Q (F0 m 2 ls [])) (HE : ∀ (y1 : Int) (M1 : Mem) (H : Heap) (locs : List Loc) (ls : Array Slot), o = .inr (y1, M1) → inR y1 → lv_has ls 4 [(0, .ref (ad 35)), (1, .int (i2 y1))] → WS D aC ad A H0 M1 H locs → W p l e rm_X8_readSets s m args below meth c H locs 0 0 Q (F0 m 182 ls [])) (v1 : Int) (hv1 : inR v1) (v2 : Int) (hv2 : inR v2) (M : Mem) (hf : f_X8_readSets_j49k2 v1 v2 M = some o) {H : Heap} {locs : List Loc} {ls : Array Slot} (hl : lv_has ls 4 [(0, .ref (ad 35)), (1, .int (i2 v1)), (2, .int (i2 v2))]) (w : WS D aC ad A H0 M H locs) : W p l e rm_X8_readSets s m args below meth c H locs 0 0 Q (F0 m 49 ls []) := by
  have hx := X.1.1
  have hb := X.1.2.1
  unfold f_X8_readSets_j49k2 at hf
  refine lv_aload_n hx hb dX8_readSets_49 rfl (lv_at hl 0 rfl) ?_
  refine g_getr X w fg_X8_21 KD_35 FR_35_6 dX8_readSets_50 ?_
  refine lv_iload_n hx hb dX8_readSets_53 rfl (lv_at hl 1 rfl) ?_
  refine g_iconst X dX8_readSets_54 ?_
  obtain ⟨hg, hf⟩ := gd_some hf
  obtain ⟨M_2, eM_2, hf⟩ := lt_some hf
  refine g_iast X w KD_39 hv1 hg (inL rfl) dX8_readSets_55 (fun H locs w_M_2 => ?_)
  rw [← eM_2] at w_M_2
  refine g_iconst X dX8_readSets_56 ?_
  refine g_istn (v := 0) (lv' := [(3, .int (i2 0)), (0, .ref (ad 35)), (1, .int (i2 v1)), (2, .int (i2 v2))]) X rfl dX8_readSets_57 rfl hl (by decide) rfl (fun ls hl => ?_)
  obtain ⟨q, hq, h1⟩ := obn_some hf
  exact l_X8_readSets_58 X v1 hv1 v2 hv2 (out := q) (fun y3 M1 H locs ls eq hy3 hl w => b_X8_readSets_j99k2 X  HC HE v1 hv1 v2 hv2 M1 (by subst eq; exact h1) (lv_sub hl [0, 1, 2] rfl) w)  FU 0 M_2 hq (inL rfl) (lv_sub hl [1, 2, 3, 0] rfl) w_M_2
set_option maxRecDepth 100000 in
set_option maxHeartbeats 4000000 in
theorem b_X8_readSets_s2 (X : CX p s m args c cX8_readSets 4 RX8 D aC ad sg A H0) {o : (Int × Mem) ⊕ (Int × Mem)} (HC : ∀ (y1 : Int) (M1 : Mem) (H : Heap) (locs : List Loc) (ls : Array Slot), o = .inl (y1, M1) → inR y1 → lv_has ls 4 [(0, .ref (ad 35)), (1, .int (i2 y1))] → WS D aC ad A H0 M1 H locs → W p l e rm_X8_readSets s m args below meth c H locs 0 0 Q (F0 m 2 ls [])) (HE : ∀ (y1 : Int) (M1 : Mem) (H : Heap) (locs : List Loc) (ls : Array Slot), o = .inr (y1, M1) → inR y1 → lv_has ls 4 [(0, .ref (ad 35)), (1, .int (i2 y1))] → WS D aC ad A H0 M1 H locs → W p l e rm_X8_readSets s m args below meth c H locs 0 0 Q (F0 m 182 ls [])) (v1 : Int) (hv1 : inR v1) (M : Mem) (hf : f_X8_readSets_s2 v1 M = some o) {H : Heap} {locs : List Loc} {ls : Array Slot} (hl : lv_has ls 4 [(0, .ref (ad 35)), (1, .int (i2 v1))]) (w : WS D aC ad A H0 M H locs) : W p l e rm_X8_readSets s m args below meth c H locs 0 0 Q (F0 m 2 ls []) := by
  have hx := X.1.1
  have hb := X.1.2.1
  unfold f_X8_readSets_s2 at hf
  refine lv_iload_n hx hb dX8_readSets_2 rfl (lv_at hl 1 rfl) ?_
  refine g_iconst X dX8_readSets_3 ?_
  refine lv_aload_n hx hb dX8_readSets_4 rfl (lv_at hl 0 rfl) ?_
  refine g_geti X w fg_X8_58 KD_35 FR_35_2 dX8_readSets_5 ?_
  refine g_ishl X dX8_readSets_8 ?_
  refine g_icmp_ge (tgt := 182) X hv1 (inR_toInt _) dX8_readSets_9 (by decide) (fun cd => ?_) (fun cd => ?_)
  · replace hf := ite_t cd hf
    exact HE v1 M _ _ _ (Option.some.inj hf).symm hv1 hl w
  · replace hf := ite_f cd hf
    refine g_iconst X dX8_readSets_12 ?_
    refine g_istn (v := 0) (lv' := [(2, .int (i2 0)), (0, .ref (ad 35)), (1, .int (i2 v1))]) X rfl dX8_readSets_13 rfl hl (by decide) rfl (fun ls hl => ?_)
    refine g_iconst X dX8_readSets_14 ?_
    refine g_istn (v := 0) (lv' := [(3, .int (i2 0)), (2, .int (i2 0)), (0, .ref (ad 35)), (1, .int (i2 v1))]) X rfl dX8_readSets_15 rfl hl (by decide) rfl (fun ls hl => ?_)
    obtain ⟨q, hq, h1⟩ := obn_some hf
    exact l_X8_readSets_16 X v1 hv1 (out := q) (fun y2 y3 H locs ls eq hy2 hy3 hl w => b_X8_readSets_j49k2 X  HC HE v1 hv1 y2 hy2 M (by subst eq; exact h1) (lv_sub hl [0, 1, 2] rfl) w)  FU 0 0 hq (inL rfl) (inL rfl) (lv_sub hl [2, 3, 1, 0] rfl) w
set_option maxRecDepth 100000 in
set_option maxHeartbeats 4000000 in
theorem l_X8_readSets_2 (X : CX p s m args c cX8_readSets 4 RX8 D aC ad sg A H0) {out : Int × Mem} (HE : ∀ (y1 : Int) (M1 : Mem) (H : Heap) (locs : List Loc) (ls : Array Slot), out = (y1, M1) → inR y1 → lv_has ls 4 [(0, .ref (ad 35)), (1, .int (i2 y1))] → WS D aC ad A H0 M1 H locs → W p l e rm_X8_readSets s m args below meth c H locs 0 0 Q (F0 m 182 ls [])) : ∀ (n : Nat) (v1 : Int) (M : Mem), whl (fun s => f_X8_readSets_s2 s.1 s.2) n (v1, M) = some out → inR v1 → ∀ {H : Heap} {locs : List Loc} {ls : Array Slot}, lv_has ls 4 [(0, .ref (ad 35)), (1, .int (i2 v1))] → WS D aC ad A H0 M H locs → W p l e rm_X8_readSets s m args below meth c H locs 0 0 Q (F0 m 2 ls []) := by
  intro n
  induction n with
  | zero => intro v1 M hf; exact (whl_zero hf).elim
  | succ n ih =>
    intro v1 M hf hv1 H locs ls hl w
    obtain ⟨o, hf, hk1, hk2⟩ := whl_step hf
    exact b_X8_readSets_s2 X  (fun y1 M1 H locs ls eo hy1 hl w => ih y1 M1 (hk1 _ eo) hy1 hl w) (fun y1 M1 H locs ls eo hy1 hl w => HE y1 M1 H locs ls (hk2 _ eo).symm hy1 hl w) v1 hv1 M hf hl w
set_option maxRecDepth 100000 in
set_option maxHeartbeats 4000000 in
theorem b_X8_readSets_j182 (X : CX p s m args c cX8_readSets 4 RX8 D aC ad sg A H0) {o : Mem} (HR : ∀ (M1 : Mem) (H : Heap) (locs : List Loc) (pc : Nat) (ls : Array Slot), o = M1 → WS D aC ad A H0 M1 H locs → decode cX8_readSets pc = .ok (.return_, 1) → W p l e rm_X8_readSets s m args below meth c H locs 0 0 Q (F0 m pc ls [])) (M : Mem) (hf : f_X8_readSets_j182 M = some o) {H : Heap} {locs : List Loc} {ls : Array Slot} (hl : lv_has ls 4 []) (w : WS D aC ad A H0 M H locs) : W p l e rm_X8_readSets s m args below meth c H locs 0 0 Q (F0 m 182 ls []) := by
  have hx := X.1.1
  have hb := X.1.2.1
  unfold f_X8_readSets_j182 at hf
  exact HR M _ _ _ _ (Option.some.inj hf).symm w dX8_readSets_182
set_option maxRecDepth 100000 in
set_option maxHeartbeats 4000000 in
theorem b_X8_readSets_0 (X : CX p s m args c cX8_readSets 4 RX8 D aC ad sg A H0) {o : Mem} (HR : ∀ (M1 : Mem) (H : Heap) (locs : List Loc) (pc : Nat) (ls : Array Slot), o = M1 → WS D aC ad A H0 M1 H locs → decode cX8_readSets pc = .ok (.return_, 1) → W p l e rm_X8_readSets s m args below meth c H locs 0 0 Q (F0 m pc ls [])) (M : Mem) (hf : f_X8_readSets M = some o) {H : Heap} {locs : List Loc} {ls : Array Slot} (hl : lv_has ls 4 [(0, .ref (ad 35))]) (w : WS D aC ad A H0 M H locs) : W p l e rm_X8_readSets s m args below meth c H locs 0 0 Q (F0 m 0 ls []) := by
  have hx := X.1.1
  have hb := X.1.2.1
  unfold f_X8_readSets at hf
  refine g_iconst X dX8_readSets_0 ?_
  refine g_istn (v := 0) (lv' := [(1, .int (i2 0)), (0, .ref (ad 35))]) X rfl dX8_readSets_1 rfl hl (by decide) rfl (fun ls hl => ?_)
  obtain ⟨q, hq, h1⟩ := obn_some hf
  exact l_X8_readSets_2 X  (out := q) (fun y1 M1 H locs ls eq hy1 hl w => b_X8_readSets_j182 X  HR M1 (by subst eq; exact h1) (lv_sub hl [] rfl) w)  FU 0 M hq (inL rfl) (lv_sub hl [1, 0] rfl) w
set_option maxRecDepth 100000 in
set_option maxHeartbeats 4000000 in
theorem k_X8_readSets {l : Launch} {D : va_G} {aC : Nat → ClassId} {ad : Nat → Nat} {sg : SG} (hi : Inj ad)  {M : Mem} (hM : inM M) {M' : Mem} (hf : f_X8_readSets M = some M') : MetV l D aC ad sg yX8_readSets cX8_readSets 4 rm_X8_readSets 0 0 [.ref (ad 35)] M M' := by
  refine MetV.of (by decide +kernel) (nle rfl) hi hM (fun p e s m args below meth c Q H0 ls X hl w hret => ?_)
  exact b_X8_readSets_0 X  (fun M1 H locs pc ls eo w dg => by cases eo; exact hret H locs pc ls w dg) M hf hl w
set_option maxRecDepth 100000 in
set_option maxHeartbeats 4000000 in
theorem b_X8_readTwins_s19 (X : CX p s m args c cX8_readTwins 3 RX8 D aC ad sg A H0) (v1 : Int) (hv1 : inR v1) {o : (Int × Mem) ⊕ (Int × Mem)} (HC : ∀ (y2 : Int) (M1 : Mem) (H : Heap) (locs : List Loc) (ls : Array Slot), o = .inl (y2, M1) → inR y2 → lv_has ls 3 [(0, .ref (ad 35)), (1, .int (i2 v1)), (2, .int (i2 y2))] → WS D aC ad A H0 M1 H locs → W p l e rm_X8_readTwins s m args below meth c H locs 0 0 Q (F0 m 19 ls [])) (HE : ∀ (y2 : Int) (M1 : Mem) (H : Heap) (locs : List Loc) (ls : Array Slot), o = .inr (y2, M1) → inR y2 → lv_has ls 3 [(0, .ref (ad 35)), (1, .int (i2 v1)), (2, .int (i2 y2))] → WS D aC ad A H0 M1 H locs → W p l e rm_X8_readTwins s m args below meth c H locs 0 0 Q (F0 m 64 ls [])) (v2 : Int) (hv2 : inR v2) (M : Mem) (hf : f_X8_readTwins_s19 v1 v2 M = some o) {H : Heap} {locs : List Loc} {ls : Array Slot} (hl : lv_has ls 3 [(0, .ref (ad 35)), (1, .int (i2 v1)), (2, .int (i2 v2))]) (w : WS D aC ad A H0 M H locs) : W p l e rm_X8_readTwins s m args below meth c H locs 0 0 Q (F0 m 19 ls []) := by
  have hx := X.1.1
  have hb := X.1.2.1
  unfold f_X8_readTwins_s19 at hf
  refine lv_iload_n hx hb dX8_readTwins_19 rfl (lv_at hl 2 rfl) ?_
  refine lv_iload_n hx hb dX8_readTwins_20 rfl (lv_at hl 1 rfl) ?_
  refine g_icmp_ge (tgt := 64) X hv2 hv1 dX8_readTwins_21 (by decide) (fun cd => ?_) (fun cd => ?_)
  · replace hf := ite_t cd hf
    exact HE v2 M _ _ _ (Option.some.inj hf).symm hv2 hl w
  · replace hf := ite_f cd hf
    refine lv_aload_n hx hb dX8_readTwins_24 rfl (lv_at hl 0 rfl) ?_
    refine g_getr X w fg_X8_54 KD_35 FR_35_1 dX8_readTwins_25 ?_
    refine lv_aload_n hx hb dX8_readTwins_28 rfl (lv_at hl 0 rfl) ?_
    refine g_getr X w fg_X8_11 KD_35 FR_35_3 dX8_readTwins_29 ?_
    refine lv_iload_n hx hb dX8_readTwins_32 rfl (lv_at hl 1 rfl) ?_
    obtain ⟨hg, hf⟩ := gd_some hf
    refine g_iald X w KD_36 hv1 hg dX8_readTwins_33 ?_
    refine lv_aload_n hx hb dX8_readTwins_34 rfl (lv_at hl 0 rfl) ?_
    refine g_getr X w fg_X8_11 KD_35 FR_35_3 dX8_readTwins_35 ?_
    refine lv_iload_n hx hb dX8_readTwins_38 rfl (lv_at hl 2 rfl) ?_
    obtain ⟨hg_2, hf⟩ := gd_some hf
    refine g_iald X w KD_36 hv2 hg_2 dX8_readTwins_39 ?_
    obtain ⟨r, hc, hf⟩ := obn_some hf
    refine g_cvi (As := [.int (i2 (M 36 v1.toNat)), .int (i2 (M 36 v2.toNat))]) (rest := []) X w (k_X4_joins X.2.2.1 (M 36 v1.toNat) (w.2.2 _ _) (M 36 v2.toNat) (w.2.2 _ _) w.2.2 hc) lk_X8_123 cl_4 KD_30 ⟨rfl, rfl⟩ ⟨nle rfl, nle rfl⟩ ⟨nle rfl, nle rfl⟩ hl.1 rfl (nle rfl) dX8_readTwins_40 (fun hr H locs w => ?_)
    refine g_if_eq (tgt := 58) X hr dX8_readTwins_43 (by decide) (fun cd_2 => ?_) (fun cd_2 => ?_)
    · replace hf := ite_t cd_2 hf
      obtain ⟨v2_2, ev2_2, hf⟩ := lt_some hf
      have hv2_2 : inR v2_2 := inR_of ev2_2 (inR_wrap _)
      refine lv_iinc (v := i2 v2_2) (lv' := [(2, .int (i2 v2_2)), (0, .ref (ad 35)), (1, .int (i2 v1))]) hx hb dX8_readTwins_58 hl (k := 2) rfl (by rw [ev2_2]; exact i2_add _ _) (by decide) rfl (fun ls hl => ?_)
      refine lv_goto (tgt := 19) hx hb dX8_readTwins_61 (by decide) ?_
      exact HC v2_2 M _ _ _ (Option.some.inj hf).symm hv2_2 (lv_sub hl [1, 2, 0] rfl) w
    · replace hf := ite_f cd_2 hf
      refine lv_aload_n hx hb dX8_readTwins_46 rfl (lv_at hl 0 rfl) ?_
      refine g_getr X w fg_X8_18 KD_35 FR_35_5 dX8_readTwins_47 ?_
      refine lv_iload_n hx hb dX8_readTwins_50 rfl (lv_at hl 1 rfl) ?_
      refine lv_dup2_11 hx hb dX8_readTwins_51 rfl rfl ?_
      obtain ⟨hg_3, hf⟩ := gd_some hf
      refine g_iald X w KD_38 hv1 hg_3 dX8_readTwins_52 ?_
      refine g_iconst X dX8_readTwins_53 ?_
      refine lv_iload_n hx hb dX8_readTwins_54 rfl (lv_at hl 2 rfl) ?_
      refine g_ishl X dX8_readTwins_55 ?_
      refine g_ior X dX8_readTwins_56 ?_
      obtain ⟨hg_4, hf⟩ := gd_some hf
      obtain ⟨M_2, eM_2, hf⟩ := lt_some hf
      refine g_iast X w KD_38 hv1 hg_4 (inR_toInt _) dX8_readTwins_57 (fun H locs w_M_2 => ?_)
      rw [← eM_2] at w_M_2
      obtain ⟨v2_3, ev2_3, hf⟩ := lt_some hf
      have hv2_3 : inR v2_3 := inR_of ev2_3 (inR_wrap _)
      refine lv_iinc (v := i2 v2_3) (lv' := [(2, .int (i2 v2_3)), (0, .ref (ad 35)), (1, .int (i2 v1))]) hx hb dX8_readTwins_58 hl (k := 2) rfl (by rw [ev2_3]; exact i2_add _ _) (by decide) rfl (fun ls hl => ?_)
      refine lv_goto (tgt := 19) hx hb dX8_readTwins_61 (by decide) ?_
      exact HC v2_3 M_2 _ _ _ (Option.some.inj hf).symm hv2_3 (lv_sub hl [1, 2, 0] rfl) w_M_2
set_option maxRecDepth 100000 in
set_option maxHeartbeats 4000000 in
theorem l_X8_readTwins_19 (X : CX p s m args c cX8_readTwins 3 RX8 D aC ad sg A H0) (v1 : Int) (hv1 : inR v1) {out : Int × Mem} (HE : ∀ (y2 : Int) (M1 : Mem) (H : Heap) (locs : List Loc) (ls : Array Slot), out = (y2, M1) → inR y2 → lv_has ls 3 [(0, .ref (ad 35)), (1, .int (i2 v1)), (2, .int (i2 y2))] → WS D aC ad A H0 M1 H locs → W p l e rm_X8_readTwins s m args below meth c H locs 0 0 Q (F0 m 64 ls [])) : ∀ (n : Nat) (v2 : Int) (M : Mem), whl (fun s => f_X8_readTwins_s19 v1 s.1 s.2) n (v2, M) = some out → inR v2 → ∀ {H : Heap} {locs : List Loc} {ls : Array Slot}, lv_has ls 3 [(0, .ref (ad 35)), (1, .int (i2 v1)), (2, .int (i2 v2))] → WS D aC ad A H0 M H locs → W p l e rm_X8_readTwins s m args below meth c H locs 0 0 Q (F0 m 19 ls []) := by
  intro n
  induction n with
  | zero => intro v2 M hf; exact (whl_zero hf).elim
  | succ n ih =>
    intro v2 M hf hv2 H locs ls hl w
    obtain ⟨o, hf, hk1, hk2⟩ := whl_step hf
    exact b_X8_readTwins_s19 X v1 hv1 (fun y2 M1 H locs ls eo hy2 hl w => ih y2 M1 (hk1 _ eo) hy2 hl w) (fun y2 M1 H locs ls eo hy2 hl w => HE y2 M1 H locs ls (hk2 _ eo).symm hy2 hl w) v2 hv2 M hf hl w
set_option maxRecDepth 100000 in
set_option maxHeartbeats 4000000 in
theorem b_X8_readTwins_j64k2 (X : CX p s m args c cX8_readTwins 3 RX8 D aC ad sg A H0) {o : (Int × Mem) ⊕ (Int × Mem)} (HC : ∀ (y1 : Int) (M1 : Mem) (H : Heap) (locs : List Loc) (ls : Array Slot), o = .inl (y1, M1) → inR y1 → lv_has ls 3 [(0, .ref (ad 35)), (1, .int (i2 y1))] → WS D aC ad A H0 M1 H locs → W p l e rm_X8_readTwins s m args below meth c H locs 0 0 Q (F0 m 2 ls [])) (HE : ∀ (y1 : Int) (M1 : Mem) (H : Heap) (locs : List Loc) (ls : Array Slot), o = .inr (y1, M1) → inR y1 → lv_has ls 3 [(0, .ref (ad 35)), (1, .int (i2 y1))] → WS D aC ad A H0 M1 H locs → W p l e rm_X8_readTwins s m args below meth c H locs 0 0 Q (F0 m 70 ls [])) (v1 : Int) (hv1 : inR v1) (M : Mem) (hf : f_X8_readTwins_j64k2 v1 M = some o) {H : Heap} {locs : List Loc} {ls : Array Slot} (hl : lv_has ls 3 [(0, .ref (ad 35)), (1, .int (i2 v1))]) (w : WS D aC ad A H0 M H locs) : W p l e rm_X8_readTwins s m args below meth c H locs 0 0 Q (F0 m 64 ls []) := by
  have hx := X.1.1
  have hb := X.1.2.1
  unfold f_X8_readTwins_j64k2 at hf
  obtain ⟨v1_2, ev1_2, hf⟩ := lt_some hf
  have hv1_2 : inR v1_2 := inR_of ev1_2 (inR_wrap _)
  refine lv_iinc (v := i2 v1_2) (lv' := [(1, .int (i2 v1_2)), (0, .ref (ad 35))]) hx hb dX8_readTwins_64 hl (k := 1) rfl (by rw [ev1_2]; exact i2_add _ _) (by decide) rfl (fun ls hl => ?_)
  refine lv_goto (tgt := 2) hx hb dX8_readTwins_67 (by decide) ?_
  exact HC v1_2 M _ _ _ (Option.some.inj hf).symm hv1_2 (lv_sub hl [1, 0] rfl) w
set_option maxRecDepth 100000 in
set_option maxHeartbeats 4000000 in
theorem b_X8_readTwins_s2 (X : CX p s m args c cX8_readTwins 3 RX8 D aC ad sg A H0) {o : (Int × Mem) ⊕ (Int × Mem)} (HC : ∀ (y1 : Int) (M1 : Mem) (H : Heap) (locs : List Loc) (ls : Array Slot), o = .inl (y1, M1) → inR y1 → lv_has ls 3 [(0, .ref (ad 35)), (1, .int (i2 y1))] → WS D aC ad A H0 M1 H locs → W p l e rm_X8_readTwins s m args below meth c H locs 0 0 Q (F0 m 2 ls [])) (HE : ∀ (y1 : Int) (M1 : Mem) (H : Heap) (locs : List Loc) (ls : Array Slot), o = .inr (y1, M1) → inR y1 → lv_has ls 3 [(0, .ref (ad 35)), (1, .int (i2 y1))] → WS D aC ad A H0 M1 H locs → W p l e rm_X8_readTwins s m args below meth c H locs 0 0 Q (F0 m 70 ls [])) (v1 : Int) (hv1 : inR v1) (M : Mem) (hf : f_X8_readTwins_s2 v1 M = some o) {H : Heap} {locs : List Loc} {ls : Array Slot} (hl : lv_has ls 3 [(0, .ref (ad 35)), (1, .int (i2 v1))]) (w : WS D aC ad A H0 M H locs) : W p l e rm_X8_readTwins s m args below meth c H locs 0 0 Q (F0 m 2 ls []) := by
  have hx := X.1.1
  have hb := X.1.2.1
  unfold f_X8_readTwins_s2 at hf
  refine lv_iload_n hx hb dX8_readTwins_2 rfl (lv_at hl 1 rfl) ?_
  refine lv_aload_n hx hb dX8_readTwins_3 rfl (lv_at hl 0 rfl) ?_
  refine g_geti X w fg_X8_58 KD_35 FR_35_2 dX8_readTwins_4 ?_
  refine g_icmp_ge (tgt := 70) X hv1 (w.2.2 _ _) dX8_readTwins_7 (by decide) (fun cd => ?_) (fun cd => ?_)
  · replace hf := ite_t cd hf
    exact HE v1 M _ _ _ (Option.some.inj hf).symm hv1 hl w
  · replace hf := ite_f cd hf
    refine lv_aload_n hx hb dX8_readTwins_10 rfl (lv_at hl 0 rfl) ?_
    refine g_getr X w fg_X8_18 KD_35 FR_35_5 dX8_readTwins_11 ?_
    refine lv_iload_n hx hb dX8_readTwins_14 rfl (lv_at hl 1 rfl) ?_
    refine g_iconst X dX8_readTwins_15 ?_
    obtain ⟨hg, hf⟩ := gd_some hf
    obtain ⟨M_2, eM_2, hf⟩ := lt_some hf
    refine g_iast X w KD_38 hv1 hg (inL rfl) dX8_readTwins_16 (fun H locs w_M_2 => ?_)
    rw [← eM_2] at w_M_2
    refine g_iconst X dX8_readTwins_17 ?_
    refine g_istn (v := 0) (lv' := [(2, .int (i2 0)), (0, .ref (ad 35)), (1, .int (i2 v1))]) X rfl dX8_readTwins_18 rfl hl (by decide) rfl (fun ls hl => ?_)
    obtain ⟨q, hq, h1⟩ := obn_some hf
    exact l_X8_readTwins_19 X v1 hv1 (out := q) (fun y2 M1 H locs ls eq hy2 hl w => b_X8_readTwins_j64k2 X  HC HE v1 hv1 M1 (by subst eq; exact h1) (lv_sub hl [0, 1] rfl) w)  FU 0 M_2 hq (inL rfl) (lv_sub hl [1, 2, 0] rfl) w_M_2
set_option maxRecDepth 100000 in
set_option maxHeartbeats 4000000 in
theorem l_X8_readTwins_2 (X : CX p s m args c cX8_readTwins 3 RX8 D aC ad sg A H0) {out : Int × Mem} (HE : ∀ (y1 : Int) (M1 : Mem) (H : Heap) (locs : List Loc) (ls : Array Slot), out = (y1, M1) → inR y1 → lv_has ls 3 [(0, .ref (ad 35)), (1, .int (i2 y1))] → WS D aC ad A H0 M1 H locs → W p l e rm_X8_readTwins s m args below meth c H locs 0 0 Q (F0 m 70 ls [])) : ∀ (n : Nat) (v1 : Int) (M : Mem), whl (fun s => f_X8_readTwins_s2 s.1 s.2) n (v1, M) = some out → inR v1 → ∀ {H : Heap} {locs : List Loc} {ls : Array Slot}, lv_has ls 3 [(0, .ref (ad 35)), (1, .int (i2 v1))] → WS D aC ad A H0 M H locs → W p l e rm_X8_readTwins s m args below meth c H locs 0 0 Q (F0 m 2 ls []) := by
  intro n
  induction n with
  | zero => intro v1 M hf; exact (whl_zero hf).elim
  | succ n ih =>
    intro v1 M hf hv1 H locs ls hl w
    obtain ⟨o, hf, hk1, hk2⟩ := whl_step hf
    exact b_X8_readTwins_s2 X  (fun y1 M1 H locs ls eo hy1 hl w => ih y1 M1 (hk1 _ eo) hy1 hl w) (fun y1 M1 H locs ls eo hy1 hl w => HE y1 M1 H locs ls (hk2 _ eo).symm hy1 hl w) v1 hv1 M hf hl w
set_option maxRecDepth 100000 in
set_option maxHeartbeats 4000000 in
theorem b_X8_readTwins_j70 (X : CX p s m args c cX8_readTwins 3 RX8 D aC ad sg A H0) {o : Mem} (HR : ∀ (M1 : Mem) (H : Heap) (locs : List Loc) (pc : Nat) (ls : Array Slot), o = M1 → WS D aC ad A H0 M1 H locs → decode cX8_readTwins pc = .ok (.return_, 1) → W p l e rm_X8_readTwins s m args below meth c H locs 0 0 Q (F0 m pc ls [])) (M : Mem) (hf : f_X8_readTwins_j70 M = some o) {H : Heap} {locs : List Loc} {ls : Array Slot} (hl : lv_has ls 3 []) (w : WS D aC ad A H0 M H locs) : W p l e rm_X8_readTwins s m args below meth c H locs 0 0 Q (F0 m 70 ls []) := by
  have hx := X.1.1
  have hb := X.1.2.1
  unfold f_X8_readTwins_j70 at hf
  exact HR M _ _ _ _ (Option.some.inj hf).symm w dX8_readTwins_70
set_option maxRecDepth 100000 in
set_option maxHeartbeats 4000000 in
theorem b_X8_readTwins_0 (X : CX p s m args c cX8_readTwins 3 RX8 D aC ad sg A H0) {o : Mem} (HR : ∀ (M1 : Mem) (H : Heap) (locs : List Loc) (pc : Nat) (ls : Array Slot), o = M1 → WS D aC ad A H0 M1 H locs → decode cX8_readTwins pc = .ok (.return_, 1) → W p l e rm_X8_readTwins s m args below meth c H locs 0 0 Q (F0 m pc ls [])) (M : Mem) (hf : f_X8_readTwins M = some o) {H : Heap} {locs : List Loc} {ls : Array Slot} (hl : lv_has ls 3 [(0, .ref (ad 35))]) (w : WS D aC ad A H0 M H locs) : W p l e rm_X8_readTwins s m args below meth c H locs 0 0 Q (F0 m 0 ls []) := by
  have hx := X.1.1
  have hb := X.1.2.1
  unfold f_X8_readTwins at hf
  refine g_iconst X dX8_readTwins_0 ?_
  refine g_istn (v := 0) (lv' := [(1, .int (i2 0)), (0, .ref (ad 35))]) X rfl dX8_readTwins_1 rfl hl (by decide) rfl (fun ls hl => ?_)
  obtain ⟨q, hq, h1⟩ := obn_some hf
  exact l_X8_readTwins_2 X  (out := q) (fun y1 M1 H locs ls eq hy1 hl w => b_X8_readTwins_j70 X  HR M1 (by subst eq; exact h1) (lv_sub hl [] rfl) w)  FU 0 M hq (inL rfl) (lv_sub hl [1, 0] rfl) w
set_option maxRecDepth 100000 in
set_option maxHeartbeats 4000000 in
theorem k_X8_readTwins {l : Launch} {D : va_G} {aC : Nat → ClassId} {ad : Nat → Nat} {sg : SG} (hi : Inj ad)  {M : Mem} (hM : inM M) {M' : Mem} (hf : f_X8_readTwins M = some M') : MetV l D aC ad sg yX8_readTwins cX8_readTwins 3 rm_X8_readTwins 0 0 [.ref (ad 35)] M M' := by
  refine MetV.of (by decide +kernel) (nle rfl) hi hM (fun p e s m args below meth c Q H0 ls X hl w hret => ?_)
  exact b_X8_readTwins_0 X  (fun M1 H locs pc ls eo w dg => by cases eo; exact hret H locs pc ls w dg) M hf hl w
set_option maxRecDepth 100000 in
set_option maxHeartbeats 4000000 in
theorem b_X8_readSpreads_s63 (X : CX p s m args c cX8_readSpreads 3 RX8 D aC ad sg A H0) (v1 : Int) (hv1 : inR v1) {o : (Int × Mem) ⊕ (Int × Mem)} (HC : ∀ (y2 : Int) (M1 : Mem) (H : Heap) (locs : List Loc) (ls : Array Slot), o = .inl (y2, M1) → inR y2 → lv_has ls 3 [(0, .ref (ad 35)), (1, .int (i2 v1)), (2, .int (i2 y2))] → WS D aC ad A H0 M1 H locs → W p l e rm_X8_readSpreads s m args below meth c H locs 0 0 Q (F0 m 63 ls [])) (HE : ∀ (y2 : Int) (M1 : Mem) (H : Heap) (locs : List Loc) (ls : Array Slot), o = .inr (y2, M1) → inR y2 → lv_has ls 3 [(0, .ref (ad 35)), (1, .int (i2 v1)), (2, .int (i2 y2))] → WS D aC ad A H0 M1 H locs → W p l e rm_X8_readSpreads s m args below meth c H locs 0 0 Q (F0 m 105 ls [])) (v2 : Int) (hv2 : inR v2) (M : Mem) (hf : f_X8_readSpreads_s63 v1 v2 M = some o) {H : Heap} {locs : List Loc} {ls : Array Slot} (hl : lv_has ls 3 [(0, .ref (ad 35)), (1, .int (i2 v1)), (2, .int (i2 v2))]) (w : WS D aC ad A H0 M H locs) : W p l e rm_X8_readSpreads s m args below meth c H locs 0 0 Q (F0 m 63 ls []) := by
  have hx := X.1.1
  have hb := X.1.2.1
  unfold f_X8_readSpreads_s63 at hf
  refine lv_iload_n hx hb dX8_readSpreads_63 rfl (lv_at hl 2 rfl) ?_
  refine lv_aload_n hx hb dX8_readSpreads_64 rfl (lv_at hl 0 rfl) ?_
  refine g_geti X w fg_X8_58 KD_35 FR_35_2 dX8_readSpreads_65 ?_
  refine g_icmp_ge (tgt := 105) X hv2 (w.2.2 _ _) dX8_readSpreads_68 (by decide) (fun cd => ?_) (fun cd => ?_)
  · replace hf := ite_t cd hf
    exact HE v2 M _ _ _ (Option.some.inj hf).symm hv2 hl w
  · replace hf := ite_f cd hf
    refine lv_aload_n hx hb dX8_readSpreads_71 rfl (lv_at hl 0 rfl) ?_
    refine g_getr X w fg_X8_35 KD_35 FR_35_11 dX8_readSpreads_72 ?_
    refine lv_aload_n hx hb dX8_readSpreads_75 rfl (lv_at hl 0 rfl) ?_
    refine g_geti X w fg_X8_126 KD_35 FR_35_9 dX8_readSpreads_76 ?_
    refine g_bipush X dX8_readSpreads_79 (by decide) ?_
    refine g_imul X dX8_readSpreads_81 ?_
    refine lv_iload_n hx hb dX8_readSpreads_82 rfl (lv_at hl 2 rfl) ?_
    refine g_iadd X dX8_readSpreads_83 ?_
    refine lv_aload_n hx hb dX8_readSpreads_84 rfl (lv_at hl 0 rfl) ?_
    refine g_getr X w fg_X8_54 KD_35 FR_35_1 dX8_readSpreads_85 ?_
    refine lv_iload_n hx hb dX8_readSpreads_88 rfl (lv_at hl 1 rfl) ?_
    refine lv_aload_n hx hb dX8_readSpreads_89 rfl (lv_at hl 0 rfl) ?_
    refine g_getr X w fg_X8_11 KD_35 FR_35_3 dX8_readSpreads_90 ?_
    refine lv_iload_n hx hb dX8_readSpreads_93 rfl (lv_at hl 2 rfl) ?_
    obtain ⟨hg, hf⟩ := gd_some hf
    refine g_iald X w KD_36 hv2 hg dX8_readSpreads_94 ?_
    obtain ⟨r, hc, hf⟩ := obn_some hf
    refine g_cvi (As := [.int (i2 v1), .int (i2 (M 36 v2.toNat))]) (rest := [.int (i2 (wrap ((wrap ((M 35 9) * 9)) + v2))), .ref (ad 43)]) X w (k_X4_weightOf X.2.2.1 v1 hv1 (M 36 v2.toNat) (w.2.2 _ _) w.2.2 hc) lk_X8_136 cl_4 KD_30 ⟨rfl, rfl⟩ ⟨nle rfl, nle rfl⟩ ⟨nle rfl, nle rfl⟩ hl.1 rfl (nle rfl) dX8_readSpreads_95 (fun hr H locs w => ?_)
    obtain ⟨hg_2, hf⟩ := gd_some hf
    obtain ⟨M_2, eM_2, hf⟩ := lt_some hf
    refine g_iast X w KD_43 (inR_wrap _) hg_2 hr dX8_readSpreads_98 (fun H locs w_M_2 => ?_)
    rw [← eM_2] at w_M_2
    obtain ⟨v2_2, ev2_2, hf⟩ := lt_some hf
    have hv2_2 : inR v2_2 := inR_of ev2_2 (inR_wrap _)
    refine lv_iinc (v := i2 v2_2) (lv' := [(2, .int (i2 v2_2)), (0, .ref (ad 35)), (1, .int (i2 v1))]) hx hb dX8_readSpreads_99 hl (k := 2) rfl (by rw [ev2_2]; exact i2_add _ _) (by decide) rfl (fun ls hl => ?_)
    refine lv_goto (tgt := 63) hx hb dX8_readSpreads_102 (by decide) ?_
    exact HC v2_2 M_2 _ _ _ (Option.some.inj hf).symm hv2_2 (lv_sub hl [1, 2, 0] rfl) w_M_2
set_option maxRecDepth 100000 in
set_option maxHeartbeats 4000000 in
theorem l_X8_readSpreads_63 (X : CX p s m args c cX8_readSpreads 3 RX8 D aC ad sg A H0) (v1 : Int) (hv1 : inR v1) {out : Int × Mem} (HE : ∀ (y2 : Int) (M1 : Mem) (H : Heap) (locs : List Loc) (ls : Array Slot), out = (y2, M1) → inR y2 → lv_has ls 3 [(0, .ref (ad 35)), (1, .int (i2 v1)), (2, .int (i2 y2))] → WS D aC ad A H0 M1 H locs → W p l e rm_X8_readSpreads s m args below meth c H locs 0 0 Q (F0 m 105 ls [])) : ∀ (n : Nat) (v2 : Int) (M : Mem), whl (fun s => f_X8_readSpreads_s63 v1 s.1 s.2) n (v2, M) = some out → inR v2 → ∀ {H : Heap} {locs : List Loc} {ls : Array Slot}, lv_has ls 3 [(0, .ref (ad 35)), (1, .int (i2 v1)), (2, .int (i2 v2))] → WS D aC ad A H0 M H locs → W p l e rm_X8_readSpreads s m args below meth c H locs 0 0 Q (F0 m 63 ls []) := by
  intro n
  induction n with
  | zero => intro v2 M hf; exact (whl_zero hf).elim
  | succ n ih =>
    intro v2 M hf hv2 H locs ls hl w
    obtain ⟨o, hf, hk1, hk2⟩ := whl_step hf
    exact b_X8_readSpreads_s63 X v1 hv1 (fun y2 M1 H locs ls eo hy2 hl w => ih y2 M1 (hk1 _ eo) hy2 hl w) (fun y2 M1 H locs ls eo hy2 hl w => HE y2 M1 H locs ls (hk2 _ eo).symm hy2 hl w) v2 hv2 M hf hl w
set_option maxRecDepth 100000 in
set_option maxHeartbeats 4000000 in
theorem b_X8_readSpreads_j105k15 (X : CX p s m args c cX8_readSpreads 3 RX8 D aC ad sg A H0) {o : (Int × Mem) ⊕ (Int × Mem)} (HC : ∀ (y1 : Int) (M1 : Mem) (H : Heap) (locs : List Loc) (ls : Array Slot), o = .inl (y1, M1) → inR y1 → lv_has ls 3 [(0, .ref (ad 35)), (1, .int (i2 y1))] → WS D aC ad A H0 M1 H locs → W p l e rm_X8_readSpreads s m args below meth c H locs 0 0 Q (F0 m 15 ls [])) (HE : ∀ (y1 : Int) (M1 : Mem) (H : Heap) (locs : List Loc) (ls : Array Slot), o = .inr (y1, M1) → inR y1 → lv_has ls 3 [(0, .ref (ad 35)), (1, .int (i2 y1))] → WS D aC ad A H0 M1 H locs → W p l e rm_X8_readSpreads s m args below meth c H locs 0 0 Q (F0 m 121 ls [])) (v1 : Int) (hv1 : inR v1) (M : Mem) (hf : f_X8_readSpreads_j105k15 v1 M = some o) {H : Heap} {locs : List Loc} {ls : Array Slot} (hl : lv_has ls 3 [(0, .ref (ad 35)), (1, .int (i2 v1))]) (w : WS D aC ad A H0 M H locs) : W p l e rm_X8_readSpreads s m args below meth c H locs 0 0 Q (F0 m 105 ls []) := by
  have hx := X.1.1
  have hb := X.1.2.1
  unfold f_X8_readSpreads_j105k15 at hf
  refine lv_aload_n hx hb dX8_readSpreads_105 rfl (lv_at hl 0 rfl) ?_
  refine lv_dup hx hb dX8_readSpreads_106 rfl ?_
  refine g_geti X w fg_X8_126 KD_35 FR_35_9 dX8_readSpreads_107 ?_
  refine g_iconst X dX8_readSpreads_110 ?_
  refine g_iadd X dX8_readSpreads_111 ?_
  obtain ⟨M_2, eM_2, hf⟩ := lt_some hf
  refine g_puti X w fp_X8_126 KD_35 FR_35_9 (inR_wrap _) dX8_readSpreads_112 (fun H locs w_M_2 => ?_)
  rw [← eM_2] at w_M_2
  obtain ⟨v1_2, ev1_2, hf⟩ := lt_some hf
  have hv1_2 : inR v1_2 := inR_of ev1_2 (inR_wrap _)
  refine lv_iinc (v := i2 v1_2) (lv' := [(1, .int (i2 v1_2)), (0, .ref (ad 35))]) hx hb dX8_readSpreads_115 hl (k := 1) rfl (by rw [ev1_2]; exact i2_add _ _) (by decide) rfl (fun ls hl => ?_)
  refine lv_goto (tgt := 15) hx hb dX8_readSpreads_118 (by decide) ?_
  exact HC v1_2 M_2 _ _ _ (Option.some.inj hf).symm hv1_2 (lv_sub hl [1, 0] rfl) w_M_2
set_option maxRecDepth 100000 in
set_option maxHeartbeats 4000000 in
theorem b_X8_readSpreads_s15 (X : CX p s m args c cX8_readSpreads 3 RX8 D aC ad sg A H0) {o : (Int × Mem) ⊕ (Int × Mem)} (HC : ∀ (y1 : Int) (M1 : Mem) (H : Heap) (locs : List Loc) (ls : Array Slot), o = .inl (y1, M1) → inR y1 → lv_has ls 3 [(0, .ref (ad 35)), (1, .int (i2 y1))] → WS D aC ad A H0 M1 H locs → W p l e rm_X8_readSpreads s m args below meth c H locs 0 0 Q (F0 m 15 ls [])) (HE : ∀ (y1 : Int) (M1 : Mem) (H : Heap) (locs : List Loc) (ls : Array Slot), o = .inr (y1, M1) → inR y1 → lv_has ls 3 [(0, .ref (ad 35)), (1, .int (i2 y1))] → WS D aC ad A H0 M1 H locs → W p l e rm_X8_readSpreads s m args below meth c H locs 0 0 Q (F0 m 121 ls [])) (v1 : Int) (hv1 : inR v1) (M : Mem) (hf : f_X8_readSpreads_s15 v1 M = some o) {H : Heap} {locs : List Loc} {ls : Array Slot} (hl : lv_has ls 3 [(0, .ref (ad 35)), (1, .int (i2 v1))]) (w : WS D aC ad A H0 M H locs) : W p l e rm_X8_readSpreads s m args below meth c H locs 0 0 Q (F0 m 15 ls []) := by
  have hx := X.1.1
  have hb := X.1.2.1
  unfold f_X8_readSpreads_s15 at hf
  refine lv_iload_n hx hb dX8_readSpreads_15 rfl (lv_at hl 1 rfl) ?_
  refine lv_aload_n hx hb dX8_readSpreads_16 rfl (lv_at hl 0 rfl) ?_
  refine g_getr X w fg_X8_54 KD_35 FR_35_1 dX8_readSpreads_17 ?_
  obtain ⟨hru, hf⟩ := gd_some hf
  refine g_getd X w fg_X8_112 KD_30 FR_30_2 hru dX8_readSpreads_20 ?_
  refine g_geti X w fg_X8_116 (KD_ru hru) (FR_ru_0 hru) dX8_readSpreads_23 ?_
  refine g_icmp_ge (tgt := 121) X hv1 (w.2.2 _ _) dX8_readSpreads_26 (by decide) (fun cd => ?_) (fun cd => ?_)
  · replace hf := ite_t cd hf
    exact HE v1 M _ _ _ (Option.some.inj hf).symm hv1 hl w
  · replace hf := ite_f cd hf
    refine lv_aload_n hx hb dX8_readSpreads_29 rfl (lv_at hl 0 rfl) ?_
    refine g_getr X w fg_X8_54 KD_35 FR_35_1 dX8_readSpreads_30 ?_
    refine lv_iload_n hx hb dX8_readSpreads_33 rfl (lv_at hl 1 rfl) ?_
    obtain ⟨r, hc, hf⟩ := obn_some hf
    refine g_cvi (As := [.int (i2 v1)]) (rest := []) X w (k_X4_isSpread X.2.2.1 v1 hv1 w.2.2 hc) lk_X8_129 cl_4 KD_30 ⟨rfl, rfl⟩ ⟨nle rfl, nle rfl⟩ ⟨nle rfl, nle rfl⟩ hl.1 rfl (nle rfl) dX8_readSpreads_34 (fun hr H locs w => ?_)
    refine g_if_eq (tgt := 115) X hr dX8_readSpreads_37 (by decide) (fun cd_2 => ?_) (fun cd_2 => ?_)
    · replace hf := ite_t cd_2 hf
      obtain ⟨v1_2, ev1_2, hf⟩ := lt_some hf
      have hv1_2 : inR v1_2 := inR_of ev1_2 (inR_wrap _)
      refine lv_iinc (v := i2 v1_2) (lv' := [(1, .int (i2 v1_2)), (0, .ref (ad 35))]) hx hb dX8_readSpreads_115 hl (k := 1) rfl (by rw [ev1_2]; exact i2_add _ _) (by decide) rfl (fun ls hl => ?_)
      refine lv_goto (tgt := 15) hx hb dX8_readSpreads_118 (by decide) ?_
      exact HC v1_2 M _ _ _ (Option.some.inj hf).symm hv1_2 (lv_sub hl [1, 0] rfl) w
    · replace hf := ite_f cd_2 hf
      refine lv_aload_n hx hb dX8_readSpreads_40 rfl (lv_at hl 0 rfl) ?_
      refine g_getr X w fg_X8_32 KD_35 FR_35_10 dX8_readSpreads_41 ?_
      refine lv_aload_n hx hb dX8_readSpreads_44 rfl (lv_at hl 0 rfl) ?_
      refine g_geti X w fg_X8_126 KD_35 FR_35_9 dX8_readSpreads_45 ?_
      refine lv_aload_n hx hb dX8_readSpreads_48 rfl (lv_at hl 0 rfl) ?_
      refine g_getr X w fg_X8_54 KD_35 FR_35_1 dX8_readSpreads_49 ?_
      obtain ⟨hru_2, hf⟩ := gd_some hf
      refine g_getd X w fg_X8_112 KD_30 FR_30_2 hru_2 dX8_readSpreads_52 ?_
      refine g_getr X w fg_X8_133 (KD_ru hru_2) (FR_ru_2 hru_2) dX8_readSpreads_55 ?_
      refine lv_iload_n hx hb dX8_readSpreads_58 rfl (lv_at hl 1 rfl) ?_
      obtain ⟨hg, hf⟩ := gd_some hf
      refine g_iald X w (KD_ru_2 hru_2) hv1 hg dX8_readSpreads_59 ?_
      obtain ⟨hg_2, hf⟩ := gd_some hf
      obtain ⟨M_2, eM_2, hf⟩ := lt_some hf
      refine g_iast X w KD_42 (w.2.2 _ _) hg_2 (w.2.2 _ _) dX8_readSpreads_60 (fun H locs w_M_2 => ?_)
      rw [← eM_2] at w_M_2
      refine g_iconst X dX8_readSpreads_61 ?_
      refine g_istn (v := 0) (lv' := [(2, .int (i2 0)), (0, .ref (ad 35)), (1, .int (i2 v1))]) X rfl dX8_readSpreads_62 rfl hl (by decide) rfl (fun ls hl => ?_)
      obtain ⟨q, hq, h1⟩ := obn_some hf
      exact l_X8_readSpreads_63 X v1 hv1 (out := q) (fun y2 M1 H locs ls eq hy2 hl w => b_X8_readSpreads_j105k15 X  HC HE v1 hv1 M1 (by subst eq; exact h1) (lv_sub hl [0, 1] rfl) w)  FU 0 M_2 hq (inL rfl) (lv_sub hl [1, 2, 0] rfl) w_M_2
set_option maxRecDepth 100000 in
set_option maxHeartbeats 4000000 in
theorem l_X8_readSpreads_15 (X : CX p s m args c cX8_readSpreads 3 RX8 D aC ad sg A H0) {out : Int × Mem} (HE : ∀ (y1 : Int) (M1 : Mem) (H : Heap) (locs : List Loc) (ls : Array Slot), out = (y1, M1) → inR y1 → lv_has ls 3 [(0, .ref (ad 35)), (1, .int (i2 y1))] → WS D aC ad A H0 M1 H locs → W p l e rm_X8_readSpreads s m args below meth c H locs 0 0 Q (F0 m 121 ls [])) : ∀ (n : Nat) (v1 : Int) (M : Mem), whl (fun s => f_X8_readSpreads_s15 s.1 s.2) n (v1, M) = some out → inR v1 → ∀ {H : Heap} {locs : List Loc} {ls : Array Slot}, lv_has ls 3 [(0, .ref (ad 35)), (1, .int (i2 v1))] → WS D aC ad A H0 M H locs → W p l e rm_X8_readSpreads s m args below meth c H locs 0 0 Q (F0 m 15 ls []) := by
  intro n
  induction n with
  | zero => intro v1 M hf; exact (whl_zero hf).elim
  | succ n ih =>
    intro v1 M hf hv1 H locs ls hl w
    obtain ⟨o, hf, hk1, hk2⟩ := whl_step hf
    exact b_X8_readSpreads_s15 X  (fun y1 M1 H locs ls eo hy1 hl w => ih y1 M1 (hk1 _ eo) hy1 hl w) (fun y1 M1 H locs ls eo hy1 hl w => HE y1 M1 H locs ls (hk2 _ eo).symm hy1 hl w) v1 hv1 M hf hl w
set_option maxRecDepth 100000 in
set_option maxHeartbeats 4000000 in
theorem b_X8_readSpreads_j121 (X : CX p s m args c cX8_readSpreads 3 RX8 D aC ad sg A H0) {o : Mem} (HR : ∀ (M1 : Mem) (H : Heap) (locs : List Loc) (pc : Nat) (ls : Array Slot), o = M1 → WS D aC ad A H0 M1 H locs → decode cX8_readSpreads pc = .ok (.return_, 1) → W p l e rm_X8_readSpreads s m args below meth c H locs 0 0 Q (F0 m pc ls [])) (M : Mem) (hf : f_X8_readSpreads_j121 M = some o) {H : Heap} {locs : List Loc} {ls : Array Slot} (hl : lv_has ls 3 []) (w : WS D aC ad A H0 M H locs) : W p l e rm_X8_readSpreads s m args below meth c H locs 0 0 Q (F0 m 121 ls []) := by
  have hx := X.1.1
  have hb := X.1.2.1
  unfold f_X8_readSpreads_j121 at hf
  exact HR M _ _ _ _ (Option.some.inj hf).symm w dX8_readSpreads_121
set_option maxRecDepth 100000 in
set_option maxHeartbeats 4000000 in
theorem b_X8_readSpreads_0 (X : CX p s m args c cX8_readSpreads 3 RX8 D aC ad sg A H0) {o : Mem} (HR : ∀ (M1 : Mem) (H : Heap) (locs : List Loc) (pc : Nat) (ls : Array Slot), o = M1 → WS D aC ad A H0 M1 H locs → decode cX8_readSpreads pc = .ok (.return_, 1) → W p l e rm_X8_readSpreads s m args below meth c H locs 0 0 Q (F0 m pc ls [])) (M : Mem) (hf : f_X8_readSpreads M = some o) {H : Heap} {locs : List Loc} {ls : Array Slot} (hl : lv_has ls 3 [(0, .ref (ad 35))]) (w : WS D aC ad A H0 M H locs) : W p l e rm_X8_readSpreads s m args below meth c H locs 0 0 Q (F0 m 0 ls []) := by
  have hx := X.1.1
  have hb := X.1.2.1
  unfold f_X8_readSpreads at hf
  refine lv_aload_n hx hb dX8_readSpreads_0 rfl (lv_at hl 0 rfl) ?_
  refine g_iconst X dX8_readSpreads_1 ?_
  obtain ⟨M_2, eM_2, hf⟩ := lt_some hf
  refine g_puti X w fp_X8_126 KD_35 FR_35_9 (inL rfl) dX8_readSpreads_2 (fun H locs w_M_2 => ?_)
  rw [← eM_2] at w_M_2
  refine lv_aload_n hx hb dX8_readSpreads_5 rfl (lv_at hl 0 rfl) ?_
  refine g_getr X w_M_2 fg_X8_38 KD_35 FR_35_12 dX8_readSpreads_6 ?_
  refine g_iconst X dX8_readSpreads_9 ?_
  obtain ⟨M_3, hc, hf⟩ := obn_some hf
  refine g_csv (As := [.ref (ad 44), .int (i2 0)]) (rest := []) X w_M_2 (k_J7_fill_53178 X.2.2.1 44 KA_44 0 (inL rfl) w_M_2.2.2 hc) lk_X8_75 ⟨rfl, rfl⟩ ⟨nle rfl, nle rfl⟩ ⟨nle rfl, nle rfl⟩ hl.1 rfl (nle rfl) dX8_readSpreads_10 (fun H locs w_M_3 => ?_)
  refine g_iconst X dX8_readSpreads_13 ?_
  refine g_istn (v := 0) (lv' := [(1, .int (i2 0)), (0, .ref (ad 35))]) X rfl dX8_readSpreads_14 rfl hl (by decide) rfl (fun ls hl => ?_)
  obtain ⟨q, hq, h1⟩ := obn_some hf
  exact l_X8_readSpreads_15 X  (out := q) (fun y1 M1 H locs ls eq hy1 hl w => b_X8_readSpreads_j121 X  HR M1 (by subst eq; exact h1) (lv_sub hl [] rfl) w)  FU 0 M_3 hq (inL rfl) (lv_sub hl [1, 0] rfl) w_M_3
set_option maxRecDepth 100000 in
set_option maxHeartbeats 4000000 in
theorem k_X8_readSpreads {l : Launch} {D : va_G} {aC : Nat → ClassId} {ad : Nat → Nat} {sg : SG} (hi : Inj ad)  {M : Mem} (hM : inM M) {M' : Mem} (hf : f_X8_readSpreads M = some M') : MetV l D aC ad sg yX8_readSpreads cX8_readSpreads 3 rm_X8_readSpreads 0 0 [.ref (ad 35)] M M' := by
  refine MetV.of (by decide +kernel) (nle rfl) hi hM (fun p e s m args below meth c Q H0 ls X hl w hret => ?_)
  exact b_X8_readSpreads_0 X  (fun M1 H locs pc ls eo w dg => by cases eo; exact hret H locs pc ls w dg) M hf hl w
set_option maxRecDepth 100000 in
set_option maxHeartbeats 4000000 in
theorem b_X8_spreadOf_s12 (X : CX p s m args c cX8_spreadOf 5 RX8 D aC ad sg A H0) (v1 : Int) (hv1 : inR v1) {M : Mem} {o : (Int × Int × Int) ⊕ (Int × Int × Int)} (HC : ∀ (y2 : Int) (y3 : Int) (y4 : Int) (H : Heap) (locs : List Loc) (ls : Array Slot), o = .inl (y2, y3, y4) → inR y2 → inR y3 → inR y4 → lv_has ls 5 [(0, .ref (ad 35)), (1, .int (i2 v1)), (2, .int (i2 y2)), (3, .int (i2 y3)), (4, .int (i2 y4))] → WS D aC ad A H0 M H locs → W p l e rm_X8_spreadOf s m args below meth c H locs 0 0 Q (F0 m 12 ls [])) (HE : ∀ (y2 : Int) (y3 : Int) (y4 : Int) (H : Heap) (locs : List Loc) (ls : Array Slot), o = .inr (y2, y3, y4) → inR y2 → inR y3 → inR y4 → lv_has ls 5 [(0, .ref (ad 35)), (1, .int (i2 v1)), (2, .int (i2 y2)), (3, .int (i2 y3)), (4, .int (i2 y4))] → WS D aC ad A H0 M H locs → W p l e rm_X8_spreadOf s m args below meth c H locs 0 0 Q (F0 m 58 ls [])) (v2 : Int) (hv2 : inR v2) (v3 : Int) (hv3 : inR v3) (v4 : Int) (hv4 : inR v4) (hf : f_X8_spreadOf_s12 v1 M v2 v3 v4 = some o) {H : Heap} {locs : List Loc} {ls : Array Slot} (hl : lv_has ls 5 [(0, .ref (ad 35)), (1, .int (i2 v1)), (2, .int (i2 v2)), (3, .int (i2 v3)), (4, .int (i2 v4))]) (w : WS D aC ad A H0 M H locs) : W p l e rm_X8_spreadOf s m args below meth c H locs 0 0 Q (F0 m 12 ls []) := by
  have hx := X.1.1
  have hb := X.1.2.1
  unfold f_X8_spreadOf_s12 at hf
  refine lv_iload hx hb dX8_spreadOf_12 (lv_at hl 4 rfl) ?_
  refine lv_aload_n hx hb dX8_spreadOf_14 rfl (lv_at hl 0 rfl) ?_
  refine g_getr X w fg_X8_50 KD_35 FR_35_0 dX8_spreadOf_15 ?_
  refine g_geti X w fg_X8_98 KD_3 FR_3_13 dX8_spreadOf_18 ?_
  refine g_icmp_ge (tgt := 58) X hv4 (w.2.2 _ _) dX8_spreadOf_21 (by decide) (fun cd => ?_) (fun cd => ?_)
  · replace hf := ite_t cd hf
    exact HE v2 v3 v4 _ _ _ (Option.some.inj hf).symm hv2 hv3 hv4 hl w
  · replace hf := ite_f cd hf
    refine lv_iload_n hx hb dX8_spreadOf_24 rfl (lv_at hl 2 rfl) ?_
    refine lv_aload_n hx hb dX8_spreadOf_25 rfl (lv_at hl 0 rfl) ?_
    refine g_getr X w fg_X8_38 KD_35 FR_35_12 dX8_spreadOf_26 ?_
    refine lv_iload_n hx hb dX8_spreadOf_29 rfl (lv_at hl 1 rfl) ?_
    refine lv_iload hx hb dX8_spreadOf_30 (lv_at hl 4 rfl) ?_
    refine g_iadd X dX8_spreadOf_32 ?_
    obtain ⟨hg, hf⟩ := gd_some hf
    refine g_iald X w KD_44 (inR_wrap _) hg dX8_spreadOf_33 ?_
    refine g_min X hv2 (w.2.2 _ _) hl.1 mw_X8_174 ⟨nle rfl, nle rfl⟩ (nle rfl) (nle rfl) (nle rfl) dX8_spreadOf_34 ?_
    obtain ⟨v2_2, ev2_2, hf⟩ := lt_some hf
    have hv2_2 : inR v2_2 := inR_of ev2_2 (inR_ite (w.2.2 _ _) hv2)
    refine g_istn (v := v2_2) (lv' := [(2, .int (i2 v2_2)), (0, .ref (ad 35)), (1, .int (i2 v1)), (3, .int (i2 v3)), (4, .int (i2 v4))]) X ev2_2 dX8_spreadOf_37 rfl hl (by decide) rfl (fun ls hl => ?_)
    refine lv_iload_n hx hb dX8_spreadOf_38 rfl (lv_at hl 3 rfl) ?_
    refine lv_aload_n hx hb dX8_spreadOf_39 rfl (lv_at hl 1 rfl) ?_
    refine g_getr X w fg_X8_38 KD_35 FR_35_12 dX8_spreadOf_40 ?_
    refine lv_iload_n hx hb dX8_spreadOf_43 rfl (lv_at hl 2 rfl) ?_
    refine lv_iload hx hb dX8_spreadOf_44 (lv_at hl 4 rfl) ?_
    refine g_iadd X dX8_spreadOf_46 ?_
    obtain ⟨hg_2, hf⟩ := gd_some hf
    refine g_iald X w KD_44 (inR_wrap _) hg_2 dX8_spreadOf_47 ?_
    refine g_max X hv3 (w.2.2 _ _) hl.1 mw_X8_179 ⟨nle rfl, nle rfl⟩ (nle rfl) (nle rfl) (nle rfl) dX8_spreadOf_48 ?_
    obtain ⟨v3_2, ev3_2, hf⟩ := lt_some hf
    have hv3_2 : inR v3_2 := inR_of ev3_2 (inR_ite (w.2.2 _ _) hv3)
    refine g_istn (v := v3_2) (lv' := [(3, .int (i2 v3_2)), (2, .int (i2 v2_2)), (0, .ref (ad 35)), (1, .int (i2 v1)), (4, .int (i2 v4))]) X ev3_2 dX8_spreadOf_51 rfl hl (by decide) rfl (fun ls hl => ?_)
    obtain ⟨v4_2, ev4_2, hf⟩ := lt_some hf
    have hv4_2 : inR v4_2 := inR_of ev4_2 (inR_wrap _)
    refine lv_iinc (v := i2 v4_2) (lv' := [(4, .int (i2 v4_2)), (3, .int (i2 v3_2)), (2, .int (i2 v2_2)), (0, .ref (ad 35)), (1, .int (i2 v1))]) hx hb dX8_spreadOf_52 hl (k := 4) rfl (by rw [ev4_2]; exact i2_add _ _) (by decide) rfl (fun ls hl => ?_)
    refine lv_goto (tgt := 12) hx hb dX8_spreadOf_55 (by decide) ?_
    exact HC v2_2 v3_2 v4_2 _ _ _ (Option.some.inj hf).symm hv2_2 hv3_2 hv4_2 (lv_sub hl [3, 4, 2, 1, 0] rfl) w
set_option maxRecDepth 100000 in
set_option maxHeartbeats 4000000 in
theorem l_X8_spreadOf_12 (X : CX p s m args c cX8_spreadOf 5 RX8 D aC ad sg A H0) (v1 : Int) (hv1 : inR v1) {M : Mem} {out : Int × Int × Int} (HE : ∀ (y2 : Int) (y3 : Int) (y4 : Int) (H : Heap) (locs : List Loc) (ls : Array Slot), out = (y2, y3, y4) → inR y2 → inR y3 → inR y4 → lv_has ls 5 [(0, .ref (ad 35)), (1, .int (i2 v1)), (2, .int (i2 y2)), (3, .int (i2 y3)), (4, .int (i2 y4))] → WS D aC ad A H0 M H locs → W p l e rm_X8_spreadOf s m args below meth c H locs 0 0 Q (F0 m 58 ls [])) : ∀ (n : Nat) (v2 : Int) (v3 : Int) (v4 : Int), whl (fun s => f_X8_spreadOf_s12 v1 M s.1 s.2.1 s.2.2) n (v2, v3, v4) = some out → inR v2 → inR v3 → inR v4 → ∀ {H : Heap} {locs : List Loc} {ls : Array Slot}, lv_has ls 5 [(0, .ref (ad 35)), (1, .int (i2 v1)), (2, .int (i2 v2)), (3, .int (i2 v3)), (4, .int (i2 v4))] → WS D aC ad A H0 M H locs → W p l e rm_X8_spreadOf s m args below meth c H locs 0 0 Q (F0 m 12 ls []) := by
  intro n
  induction n with
  | zero => intro v2 v3 v4 hf; exact (whl_zero hf).elim
  | succ n ih =>
    intro v2 v3 v4 hf hv2 hv3 hv4 H locs ls hl w
    obtain ⟨o, hf, hk1, hk2⟩ := whl_step hf
    exact b_X8_spreadOf_s12 X v1 hv1 (fun y2 y3 y4 H locs ls eo hy2 hy3 hy4 hl w => ih y2 y3 y4 (hk1 _ eo) hy2 hy3 hy4 hl w) (fun y2 y3 y4 H locs ls eo hy2 hy3 hy4 hl w => HE y2 y3 y4 H locs ls (hk2 _ eo).symm hy2 hy3 hy4 hl w) v2 hv2 v3 hv3 v4 hv4 hf hl w
set_option maxRecDepth 100000 in
set_option maxHeartbeats 4000000 in
theorem b_X8_spreadOf_j58 (X : CX p s m args c cX8_spreadOf 5 RX8 D aC ad sg A H0) {M : Mem} {o : Int} (HR : ∀ (r : Int) (H : Heap) (locs : List Loc) (pc : Nat) (ls : Array Slot), o = r → inR r → WS D aC ad A H0 M H locs → decode cX8_spreadOf pc = .ok (.ireturn, 1) → W p l e rm_X8_spreadOf s m args below meth c H locs 0 0 Q (F0 m pc ls [.int (i2 r)])) (v2 : Int) (hv2 : inR v2) (v3 : Int) (hv3 : inR v3) (hf : f_X8_spreadOf_j58 v2 v3 M = some o) {H : Heap} {locs : List Loc} {ls : Array Slot} (hl : lv_has ls 5 [(2, .int (i2 v2)), (3, .int (i2 v3))]) (w : WS D aC ad A H0 M H locs) : W p l e rm_X8_spreadOf s m args below meth c H locs 0 0 Q (F0 m 58 ls []) := by
  have hx := X.1.1
  have hb := X.1.2.1
  unfold f_X8_spreadOf_j58 at hf
  refine lv_iload_n hx hb dX8_spreadOf_58 rfl (lv_at hl 1 rfl) ?_
  refine lv_iload_n hx hb dX8_spreadOf_59 rfl (lv_at hl 0 rfl) ?_
  refine g_isub X dX8_spreadOf_60 ?_
  exact HR (wrap (v3 - v2)) _ _ _ _ (Option.some.inj hf).symm (inR_wrap _) w dX8_spreadOf_61
set_option maxRecDepth 100000 in
set_option maxHeartbeats 4000000 in
theorem b_X8_spreadOf_0 (X : CX p s m args c cX8_spreadOf 5 RX8 D aC ad sg A H0) {M : Mem} {o : Int} (HR : ∀ (r : Int) (H : Heap) (locs : List Loc) (pc : Nat) (ls : Array Slot), o = r → inR r → WS D aC ad A H0 M H locs → decode cX8_spreadOf pc = .ok (.ireturn, 1) → W p l e rm_X8_spreadOf s m args below meth c H locs 0 0 Q (F0 m pc ls [.int (i2 r)])) (p1 : Int) (hp1 : inR p1) (hf : f_X8_spreadOf p1 M = some o) {H : Heap} {locs : List Loc} {ls : Array Slot} (hl : lv_has ls 5 [(0, .ref (ad 35)), (1, .int (i2 p1))]) (w : WS D aC ad A H0 M H locs) : W p l e rm_X8_spreadOf s m args below meth c H locs 0 0 Q (F0 m 0 ls []) := by
  have hx := X.1.1
  have hb := X.1.2.1
  unfold f_X8_spreadOf at hf
  refine lv_aload_n hx hb dX8_spreadOf_0 rfl (lv_at hl 0 rfl) ?_
  refine g_getr X w fg_X8_38 KD_35 FR_35_12 dX8_spreadOf_1 ?_
  refine lv_iload_n hx hb dX8_spreadOf_4 rfl (lv_at hl 1 rfl) ?_
  obtain ⟨hg, hf⟩ := gd_some hf
  refine g_iald X w KD_44 hp1 hg dX8_spreadOf_5 ?_
  obtain ⟨v2, ev2, hf⟩ := lt_some hf
  have hv2 : inR v2 := inR_of ev2 (w.2.2 _ _)
  refine g_istn (v := v2) (lv' := [(2, .int (i2 v2)), (0, .ref (ad 35)), (1, .int (i2 p1))]) X ev2 dX8_spreadOf_6 rfl hl (by decide) rfl (fun ls hl => ?_)
  refine lv_iload_n hx hb dX8_spreadOf_7 rfl (lv_at hl 0 rfl) ?_
  refine g_istn (v := v2) (lv' := [(3, .int (i2 v2)), (2, .int (i2 v2)), (0, .ref (ad 35)), (1, .int (i2 p1))]) X rfl dX8_spreadOf_8 rfl hl (by decide) rfl (fun ls hl => ?_)
  refine g_iconst X dX8_spreadOf_9 ?_
  refine g_ist (v := 1) (lv' := [(4, .int (i2 1)), (3, .int (i2 v2)), (2, .int (i2 v2)), (0, .ref (ad 35)), (1, .int (i2 p1))]) X rfl dX8_spreadOf_10 hl (by decide) rfl (fun ls hl => ?_)
  obtain ⟨q, hq, h1⟩ := obn_some hf
  exact l_X8_spreadOf_12 X p1 hp1 (out := q) (fun y2 y3 y4 H locs ls eq hy2 hy3 hy4 hl w => b_X8_spreadOf_j58 X  HR y2 hy2 y3 hy3 (by subst eq; exact h1) (lv_sub hl [2, 3] rfl) w)  FU v2 v2 1 hq hv2 hv2 (inL rfl) (lv_sub hl [3, 4, 2, 1, 0] rfl) w
set_option maxRecDepth 100000 in
set_option maxHeartbeats 4000000 in
theorem k_X8_spreadOf {l : Launch} {D : va_G} {aC : Nat → ClassId} {ad : Nat → Nat} {sg : SG} (hi : Inj ad) (p1 : Int) (hp1 : inR p1) {M : Mem} (hM : inM M) {r : Int} (hf : f_X8_spreadOf p1 M = some r) : MetI l D aC ad sg yX8_spreadOf cX8_spreadOf 5 (some .int) rm_X8_spreadOf 0 0 [.ref (ad 35), .int (i2 p1)] M r M := by
  refine MetI.ofI (by decide +kernel) (nle rfl) hi hM (fun p e s m args below meth c Q H0 ls X hl w hret => ?_)
  exact b_X8_spreadOf_0 X  (fun r1 H locs pc ls eo hP w dg => by cases eo; exact hret H locs pc ls hP w dg) p1 hp1 hf hl w
set_option maxRecDepth 100000 in
set_option maxHeartbeats 4000000 in
theorem b_X8_weigh_s6 (X : CX p s m args c cX8_weigh 5 RX8 D aC ad sg A H0) {M : Mem} {o : (Int × Int × Int) ⊕ (Int × Int × Int)} (HC : ∀ (y1 : Int) (y2 : Int) (y3 : Int) (H : Heap) (locs : List Loc) (ls : Array Slot), o = .inl (y1, y2, y3) → inR y1 → inR y2 → inR y3 → lv_has ls 5 [(0, .ref (ad 35)), (1, .int (i2 y1)), (2, .int (i2 y2)), (3, .int (i2 y3))] → WS D aC ad A H0 M H locs → W p l e rm_X8_weigh s m args below meth c H locs 0 0 Q (F0 m 6 ls [])) (HE : ∀ (y1 : Int) (y2 : Int) (y3 : Int) (H : Heap) (locs : List Loc) (ls : Array Slot), o = .inr (y1, y2, y3) → inR y1 → inR y2 → inR y3 → lv_has ls 5 [(0, .ref (ad 35)), (1, .int (i2 y1)), (2, .int (i2 y2)), (3, .int (i2 y3))] → WS D aC ad A H0 M H locs → W p l e rm_X8_weigh s m args below meth c H locs 0 0 Q (F0 m 51 ls [])) (v1 : Int) (hv1 : inR v1) (v2 : Int) (hv2 : inR v2) (v3 : Int) (hv3 : inR v3) (hf : f_X8_weigh_s6 M v1 v2 v3 = some o) {H : Heap} {locs : List Loc} {ls : Array Slot} (hl : lv_has ls 5 [(0, .ref (ad 35)), (1, .int (i2 v1)), (2, .int (i2 v2)), (3, .int (i2 v3))]) (w : WS D aC ad A H0 M H locs) : W p l e rm_X8_weigh s m args below meth c H locs 0 0 Q (F0 m 6 ls []) := by
  have hx := X.1.1
  have hb := X.1.2.1
  unfold f_X8_weigh_s6 at hf
  refine lv_iload_n hx hb dX8_weigh_6 rfl (lv_at hl 3 rfl) ?_
  refine lv_aload_n hx hb dX8_weigh_7 rfl (lv_at hl 0 rfl) ?_
  refine g_getr X w fg_X8_50 KD_35 FR_35_0 dX8_weigh_8 ?_
  refine g_geti X w fg_X8_98 KD_3 FR_3_13 dX8_weigh_11 ?_
  refine g_icmp_ge (tgt := 51) X hv3 (w.2.2 _ _) dX8_weigh_14 (by decide) (fun cd => ?_) (fun cd => ?_)
  · replace hf := ite_t cd hf
    exact HE v1 v2 v3 _ _ _ (Option.some.inj hf).symm hv1 hv2 hv3 hl w
  · replace hf := ite_f cd hf
    refine lv_iload_n hx hb dX8_weigh_17 rfl (lv_at hl 1 rfl) ?_
    refine lv_aload_n hx hb dX8_weigh_18 rfl (lv_at hl 0 rfl) ?_
    refine g_getr X w fg_X8_24 KD_35 FR_35_7 dX8_weigh_19 ?_
    refine lv_aload_n hx hb dX8_weigh_22 rfl (lv_at hl 0 rfl) ?_
    refine g_getr X w fg_X8_41 KD_35 FR_35_13 dX8_weigh_23 ?_
    refine lv_iload_n hx hb dX8_weigh_26 rfl (lv_at hl 3 rfl) ?_
    obtain ⟨hg, hf⟩ := gd_some hf
    refine g_iald X w KD_45 hv3 hg dX8_weigh_27 ?_
    obtain ⟨hg_2, hf⟩ := gd_some hf
    refine g_iald X w KD_40 (w.2.2 _ _) hg_2 dX8_weigh_28 ?_
    refine g_iadd X dX8_weigh_29 ?_
    obtain ⟨v1_2, ev1_2, hf⟩ := lt_some hf
    have hv1_2 : inR v1_2 := inR_of ev1_2 (inR_wrap _)
    refine g_istn (v := v1_2) (lv' := [(1, .int (i2 v1_2)), (0, .ref (ad 35)), (2, .int (i2 v2)), (3, .int (i2 v3))]) X ev1_2 dX8_weigh_30 rfl hl (by decide) rfl (fun ls hl => ?_)
    refine lv_iload_n hx hb dX8_weigh_31 rfl (lv_at hl 2 rfl) ?_
    refine lv_aload_n hx hb dX8_weigh_32 rfl (lv_at hl 1 rfl) ?_
    refine g_getr X w fg_X8_27 KD_35 FR_35_8 dX8_weigh_33 ?_
    refine lv_aload_n hx hb dX8_weigh_36 rfl (lv_at hl 1 rfl) ?_
    refine g_getr X w fg_X8_41 KD_35 FR_35_13 dX8_weigh_37 ?_
    refine lv_iload_n hx hb dX8_weigh_40 rfl (lv_at hl 3 rfl) ?_
    obtain ⟨hg_3, hf⟩ := gd_some hf
    refine g_iald X w KD_45 hv3 hg_3 dX8_weigh_41 ?_
    obtain ⟨hg_4, hf⟩ := gd_some hf
    refine g_iald X w KD_41 (w.2.2 _ _) hg_4 dX8_weigh_42 ?_
    refine g_iadd X dX8_weigh_43 ?_
    obtain ⟨v2_2, ev2_2, hf⟩ := lt_some hf
    have hv2_2 : inR v2_2 := inR_of ev2_2 (inR_wrap _)
    refine g_istn (v := v2_2) (lv' := [(2, .int (i2 v2_2)), (1, .int (i2 v1_2)), (0, .ref (ad 35)), (3, .int (i2 v3))]) X ev2_2 dX8_weigh_44 rfl hl (by decide) rfl (fun ls hl => ?_)
    obtain ⟨v3_2, ev3_2, hf⟩ := lt_some hf
    have hv3_2 : inR v3_2 := inR_of ev3_2 (inR_wrap _)
    refine lv_iinc (v := i2 v3_2) (lv' := [(3, .int (i2 v3_2)), (2, .int (i2 v2_2)), (1, .int (i2 v1_2)), (0, .ref (ad 35))]) hx hb dX8_weigh_45 hl (k := 3) rfl (by rw [ev3_2]; exact i2_add _ _) (by decide) rfl (fun ls hl => ?_)
    refine lv_goto (tgt := 6) hx hb dX8_weigh_48 (by decide) ?_
    exact HC v1_2 v2_2 v3_2 _ _ _ (Option.some.inj hf).symm hv1_2 hv2_2 hv3_2 (lv_sub hl [3, 2, 1, 0] rfl) w
set_option maxRecDepth 100000 in
set_option maxHeartbeats 4000000 in
theorem l_X8_weigh_6 (X : CX p s m args c cX8_weigh 5 RX8 D aC ad sg A H0) {M : Mem} {out : Int × Int × Int} (HE : ∀ (y1 : Int) (y2 : Int) (y3 : Int) (H : Heap) (locs : List Loc) (ls : Array Slot), out = (y1, y2, y3) → inR y1 → inR y2 → inR y3 → lv_has ls 5 [(0, .ref (ad 35)), (1, .int (i2 y1)), (2, .int (i2 y2)), (3, .int (i2 y3))] → WS D aC ad A H0 M H locs → W p l e rm_X8_weigh s m args below meth c H locs 0 0 Q (F0 m 51 ls [])) : ∀ (n : Nat) (v1 : Int) (v2 : Int) (v3 : Int), whl (fun s => f_X8_weigh_s6 M s.1 s.2.1 s.2.2) n (v1, v2, v3) = some out → inR v1 → inR v2 → inR v3 → ∀ {H : Heap} {locs : List Loc} {ls : Array Slot}, lv_has ls 5 [(0, .ref (ad 35)), (1, .int (i2 v1)), (2, .int (i2 v2)), (3, .int (i2 v3))] → WS D aC ad A H0 M H locs → W p l e rm_X8_weigh s m args below meth c H locs 0 0 Q (F0 m 6 ls []) := by
  intro n
  induction n with
  | zero => intro v1 v2 v3 hf; exact (whl_zero hf).elim
  | succ n ih =>
    intro v1 v2 v3 hf hv1 hv2 hv3 H locs ls hl w
    obtain ⟨o, hf, hk1, hk2⟩ := whl_step hf
    exact b_X8_weigh_s6 X  (fun y1 y2 y3 H locs ls eo hy1 hy2 hy3 hl w => ih y1 y2 y3 (hk1 _ eo) hy1 hy2 hy3 hl w) (fun y1 y2 y3 H locs ls eo hy1 hy2 hy3 hl w => HE y1 y2 y3 H locs ls (hk2 _ eo).symm hy1 hy2 hy3 hl w) v1 hv1 v2 hv2 v3 hv3 hf hl w
set_option maxRecDepth 100000 in
set_option maxHeartbeats 4000000 in
theorem b_X8_weigh_s78 (X : CX p s m args c cX8_weigh 5 RX8 D aC ad sg A H0) (v2 : Int) (hv2 : inR v2) (v3 : Int) (hv3 : inR v3) {M : Mem} {o : (Int × Int) ⊕ (Int × Int)} (HC : ∀ (y1 : Int) (y4 : Int) (H : Heap) (locs : List Loc) (ls : Array Slot), o = .inl (y1, y4) → inR y1 → inR y4 → lv_has ls 5 [(0, .ref (ad 35)), (1, .int (i2 y1)), (2, .int (i2 v2)), (3, .int (i2 v3)), (4, .int (i2 y4))] → WS D aC ad A H0 M H locs → W p l e rm_X8_weigh s m args below meth c H locs 0 0 Q (F0 m 78 ls [])) (HE : ∀ (y1 : Int) (y4 : Int) (H : Heap) (locs : List Loc) (ls : Array Slot), o = .inr (y1, y4) → inR y1 → inR y4 → lv_has ls 5 [(0, .ref (ad 35)), (1, .int (i2 y1)), (2, .int (i2 v2)), (3, .int (i2 v3)), (4, .int (i2 y4))] → WS D aC ad A H0 M H locs → W p l e rm_X8_weigh s m args below meth c H locs 0 0 Q (F0 m 128 ls [])) (v1 : Int) (hv1 : inR v1) (v4 : Int) (hv4 : inR v4) (hf : f_X8_weigh_s78 v2 v3 M v1 v4 = some o) {H : Heap} {locs : List Loc} {ls : Array Slot} (hl : lv_has ls 5 [(0, .ref (ad 35)), (1, .int (i2 v1)), (2, .int (i2 v2)), (3, .int (i2 v3)), (4, .int (i2 v4))]) (w : WS D aC ad A H0 M H locs) : W p l e rm_X8_weigh s m args below meth c H locs 0 0 Q (F0 m 78 ls []) := by
  have hx := X.1.1
  have hb := X.1.2.1
  unfold f_X8_weigh_s78 at hf
  refine lv_iload hx hb dX8_weigh_78 (lv_at hl 4 rfl) ?_
  refine lv_aload_n hx hb dX8_weigh_80 rfl (lv_at hl 0 rfl) ?_
  refine g_geti X w fg_X8_126 KD_35 FR_35_9 dX8_weigh_81 ?_
  refine g_icmp_ge (tgt := 128) X hv4 (w.2.2 _ _) dX8_weigh_84 (by decide) (fun cd => ?_) (fun cd => ?_)
  · replace hf := ite_t cd hf
    exact HE v1 v4 _ _ _ (Option.some.inj hf).symm hv1 hv4 hl w
  · replace hf := ite_f cd hf
    refine lv_iload_n hx hb dX8_weigh_87 rfl (lv_at hl 2 rfl) ?_
    refine g_if_ne (tgt := 128) X hv2 dX8_weigh_88 (by decide) (fun cd_2 => ?_) (fun cd_2 => ?_)
    · replace hf := ite_f cd_2 hf
      exact HE v1 v4 _ _ _ (Option.some.inj hf).symm hv1 hv4 hl w
    · replace hf := ite_t cd_2 hf
      refine lv_iload_n hx hb dX8_weigh_91 rfl (lv_at hl 3 rfl) ?_
      refine g_if_ne (tgt := 103) X hv3 dX8_weigh_92 (by decide) (fun cd_3 => ?_) (fun cd_3 => ?_)
      · replace hf := ite_f cd_3 hf
        refine lv_iload_n hx hb dX8_weigh_103 rfl (lv_at hl 1 rfl) ?_
        refine lv_aload_n hx hb dX8_weigh_104 rfl (lv_at hl 0 rfl) ?_
        refine g_getr X w fg_X8_32 KD_35 FR_35_10 dX8_weigh_105 ?_
        refine lv_iload hx hb dX8_weigh_108 (lv_at hl 4 rfl) ?_
        obtain ⟨hg, hf⟩ := gd_some hf
        refine g_iald X w KD_42 hv4 hg dX8_weigh_110 ?_
        refine lv_aload_n hx hb dX8_weigh_111 rfl (lv_at hl 0 rfl) ?_
        refine lv_iload hx hb dX8_weigh_112 (lv_at hl 4 rfl) ?_
        refine g_iconst X dX8_weigh_114 ?_
        refine g_imul X dX8_weigh_115 ?_
        obtain ⟨r, hc, hf⟩ := obn_some hf
        refine g_cvi (As := [.int (i2 (wrap (v4 * 3)))]) (rest := [.int (i2 (M 42 v4.toNat)), .int (i2 v1)]) X w (k_X8_spreadOf X.2.2.1 (wrap (v4 * 3)) (inR_wrap _) w.2.2 hc) lk_X8_165 cl_8 KD_35 ⟨rfl, rfl⟩ ⟨nle rfl, nle rfl⟩ ⟨nle rfl, nle rfl⟩ hl.1 rfl (nle rfl) dX8_weigh_116 (fun hr H locs w => ?_)
        refine g_imul X dX8_weigh_119 ?_
        refine g_iadd X dX8_weigh_120 ?_
        obtain ⟨v1_2, ev1_2, hf⟩ := lt_some hf
        have hv1_2 : inR v1_2 := inR_of ev1_2 (inR_wrap _)
        refine g_istn (v := v1_2) (lv' := [(1, .int (i2 v1_2)), (0, .ref (ad 35)), (2, .int (i2 v2)), (3, .int (i2 v3)), (4, .int (i2 v4))]) X ev1_2 dX8_weigh_121 rfl hl (by decide) rfl (fun ls hl => ?_)
        obtain ⟨v4_2, ev4_2, hf⟩ := lt_some hf
        have hv4_2 : inR v4_2 := inR_of ev4_2 (inR_wrap _)
        refine lv_iinc (v := i2 v4_2) (lv' := [(4, .int (i2 v4_2)), (1, .int (i2 v1_2)), (0, .ref (ad 35)), (2, .int (i2 v2)), (3, .int (i2 v3))]) hx hb dX8_weigh_122 hl (k := 4) rfl (by rw [ev4_2]; exact i2_add _ _) (by decide) rfl (fun ls hl => ?_)
        refine lv_goto (tgt := 78) hx hb dX8_weigh_125 (by decide) ?_
        exact HC v1_2 v4_2 _ _ _ (Option.some.inj hf).symm hv1_2 hv4_2 (lv_sub hl [2, 1, 3, 4, 0] rfl) w
      · replace hf := ite_t cd_3 hf
        refine lv_iload_n hx hb dX8_weigh_95 rfl (lv_at hl 1 rfl) ?_
        refine lv_aload_n hx hb dX8_weigh_96 rfl (lv_at hl 0 rfl) ?_
        refine g_geti X w fg_X8_87 KD_35 FR_35_19 dX8_weigh_97 ?_
        refine g_icmp_ge (tgt := 128) X hv1 (w.2.2 _ _) dX8_weigh_100 (by decide) (fun cd_4 => ?_) (fun cd_4 => ?_)
        · replace hf := ite_t cd_4 hf
          exact HE v1 v4 _ _ _ (Option.some.inj hf).symm hv1 hv4 hl w
        · replace hf := ite_f cd_4 hf
          refine lv_iload_n hx hb dX8_weigh_103 rfl (lv_at hl 1 rfl) ?_
          refine lv_aload_n hx hb dX8_weigh_104 rfl (lv_at hl 0 rfl) ?_
          refine g_getr X w fg_X8_32 KD_35 FR_35_10 dX8_weigh_105 ?_
          refine lv_iload hx hb dX8_weigh_108 (lv_at hl 4 rfl) ?_
          obtain ⟨hg_2, hf⟩ := gd_some hf
          refine g_iald X w KD_42 hv4 hg_2 dX8_weigh_110 ?_
          refine lv_aload_n hx hb dX8_weigh_111 rfl (lv_at hl 0 rfl) ?_
          refine lv_iload hx hb dX8_weigh_112 (lv_at hl 4 rfl) ?_
          refine g_iconst X dX8_weigh_114 ?_
          refine g_imul X dX8_weigh_115 ?_
          obtain ⟨r_2, hc, hf⟩ := obn_some hf
          refine g_cvi (As := [.int (i2 (wrap (v4 * 3)))]) (rest := [.int (i2 (M 42 v4.toNat)), .int (i2 v1)]) X w (k_X8_spreadOf X.2.2.1 (wrap (v4 * 3)) (inR_wrap _) w.2.2 hc) lk_X8_165 cl_8 KD_35 ⟨rfl, rfl⟩ ⟨nle rfl, nle rfl⟩ ⟨nle rfl, nle rfl⟩ hl.1 rfl (nle rfl) dX8_weigh_116 (fun hr_2 H locs w => ?_)
          refine g_imul X dX8_weigh_119 ?_
          refine g_iadd X dX8_weigh_120 ?_
          obtain ⟨v1_3, ev1_3, hf⟩ := lt_some hf
          have hv1_3 : inR v1_3 := inR_of ev1_3 (inR_wrap _)
          refine g_istn (v := v1_3) (lv' := [(1, .int (i2 v1_3)), (0, .ref (ad 35)), (2, .int (i2 v2)), (3, .int (i2 v3)), (4, .int (i2 v4))]) X ev1_3 dX8_weigh_121 rfl hl (by decide) rfl (fun ls hl => ?_)
          obtain ⟨v4_3, ev4_3, hf⟩ := lt_some hf
          have hv4_3 : inR v4_3 := inR_of ev4_3 (inR_wrap _)
          refine lv_iinc (v := i2 v4_3) (lv' := [(4, .int (i2 v4_3)), (1, .int (i2 v1_3)), (0, .ref (ad 35)), (2, .int (i2 v2)), (3, .int (i2 v3))]) hx hb dX8_weigh_122 hl (k := 4) rfl (by rw [ev4_3]; exact i2_add _ _) (by decide) rfl (fun ls hl => ?_)
          refine lv_goto (tgt := 78) hx hb dX8_weigh_125 (by decide) ?_
          exact HC v1_3 v4_3 _ _ _ (Option.some.inj hf).symm hv1_3 hv4_3 (lv_sub hl [2, 1, 3, 4, 0] rfl) w
set_option maxRecDepth 100000 in
set_option maxHeartbeats 4000000 in
theorem l_X8_weigh_78 (X : CX p s m args c cX8_weigh 5 RX8 D aC ad sg A H0) (v2 : Int) (hv2 : inR v2) (v3 : Int) (hv3 : inR v3) {M : Mem} {out : Int × Int} (HE : ∀ (y1 : Int) (y4 : Int) (H : Heap) (locs : List Loc) (ls : Array Slot), out = (y1, y4) → inR y1 → inR y4 → lv_has ls 5 [(0, .ref (ad 35)), (1, .int (i2 y1)), (2, .int (i2 v2)), (3, .int (i2 v3)), (4, .int (i2 y4))] → WS D aC ad A H0 M H locs → W p l e rm_X8_weigh s m args below meth c H locs 0 0 Q (F0 m 128 ls [])) : ∀ (n : Nat) (v1 : Int) (v4 : Int), whl (fun s => f_X8_weigh_s78 v2 v3 M s.1 s.2) n (v1, v4) = some out → inR v1 → inR v4 → ∀ {H : Heap} {locs : List Loc} {ls : Array Slot}, lv_has ls 5 [(0, .ref (ad 35)), (1, .int (i2 v1)), (2, .int (i2 v2)), (3, .int (i2 v3)), (4, .int (i2 v4))] → WS D aC ad A H0 M H locs → W p l e rm_X8_weigh s m args below meth c H locs 0 0 Q (F0 m 78 ls []) := by
  intro n
  induction n with
  | zero => intro v1 v4 hf; exact (whl_zero hf).elim
  | succ n ih =>
    intro v1 v4 hf hv1 hv4 H locs ls hl w
    obtain ⟨o, hf, hk1, hk2⟩ := whl_step hf
    exact b_X8_weigh_s78 X v2 hv2 v3 hv3 (fun y1 y4 H locs ls eo hy1 hy4 hl w => ih y1 y4 (hk1 _ eo) hy1 hy4 hl w) (fun y1 y4 H locs ls eo hy1 hy4 hl w => HE y1 y4 H locs ls (hk2 _ eo).symm hy1 hy4 hl w) v1 hv1 v4 hv4 hf hl w
set_option maxRecDepth 100000 in
set_option maxHeartbeats 4000000 in
theorem b_X8_weigh_j128 (X : CX p s m args c cX8_weigh 5 RX8 D aC ad sg A H0) {o : Mem} (HR : ∀ (M1 : Mem) (H : Heap) (locs : List Loc) (pc : Nat) (ls : Array Slot), o = M1 → WS D aC ad A H0 M1 H locs → decode cX8_weigh pc = .ok (.return_, 1) → W p l e rm_X8_weigh s m args below meth c H locs 0 0 Q (F0 m pc ls [])) (v1 : Int) (hv1 : inR v1) (v2 : Int) (hv2 : inR v2) (v3 : Int) (hv3 : inR v3) (M : Mem) (hf : f_X8_weigh_j128 v1 v2 v3 M = some o) {H : Heap} {locs : List Loc} {ls : Array Slot} (hl : lv_has ls 5 [(0, .ref (ad 35)), (1, .int (i2 v1)), (2, .int (i2 v2)), (3, .int (i2 v3))]) (w : WS D aC ad A H0 M H locs) : W p l e rm_X8_weigh s m args below meth c H locs 0 0 Q (F0 m 128 ls []) := by
  have hx := X.1.1
  have hb := X.1.2.1
  unfold f_X8_weigh_j128 at hf
  refine lv_iload_n hx hb dX8_weigh_128 rfl (lv_at hl 2 rfl) ?_
  refine g_if_ne (tgt := 179) X hv2 dX8_weigh_129 (by decide) (fun cd => ?_) (fun cd => ?_)
  · replace hf := ite_f cd hf
    exact HR M _ _ _ _ (Option.some.inj hf).symm w dX8_weigh_179
  · replace hf := ite_t cd hf
    refine lv_iload_n hx hb dX8_weigh_132 rfl (lv_at hl 3 rfl) ?_
    refine g_if_ne (tgt := 144) X hv3 dX8_weigh_133 (by decide) (fun cd_2 => ?_) (fun cd_2 => ?_)
    · replace hf := ite_f cd_2 hf
      refine lv_aload_n hx hb dX8_weigh_144 rfl (lv_at hl 0 rfl) ?_
      refine g_iconst X dX8_weigh_145 ?_
      obtain ⟨M_2, eM_2, hf⟩ := lt_some hf
      refine g_putz X w fp_X8_62 KD_35 FR_35_17 (Or.inr rfl) dX8_weigh_146 (fun H locs w_M_2 => ?_)
      rw [← eM_2] at w_M_2
      refine lv_aload_n hx hb dX8_weigh_149 rfl (lv_at hl 0 rfl) ?_
      refine lv_aload_n hx hb dX8_weigh_150 rfl (lv_at hl 0 rfl) ?_
      refine g_geti X w_M_2 fg_X8_81 KD_35 FR_35_16 dX8_weigh_151 ?_
      obtain ⟨M_3, eM_3, hf⟩ := lt_some hf
      refine g_puti X w_M_2 fp_X8_84 KD_35 FR_35_18 (w_M_2.2.2 _ _) dX8_weigh_154 (fun H locs w_M_3 => ?_)
      rw [← eM_3] at w_M_3
      refine lv_aload_n hx hb dX8_weigh_157 rfl (lv_at hl 0 rfl) ?_
      refine lv_iload_n hx hb dX8_weigh_158 rfl (lv_at hl 1 rfl) ?_
      obtain ⟨M_4, eM_4, hf⟩ := lt_some hf
      refine g_puti X w_M_3 fp_X8_87 KD_35 FR_35_19 hv1 dX8_weigh_159 (fun H locs w_M_4 => ?_)
      rw [← eM_4] at w_M_4
      refine lv_aload_n hx hb dX8_weigh_162 rfl (lv_at hl 0 rfl) ?_
      refine g_getr X w_M_4 fg_X8_44 KD_35 FR_35_14 dX8_weigh_163 ?_
      refine g_iconst X dX8_weigh_166 ?_
      refine lv_aload_n hx hb dX8_weigh_167 rfl (lv_at hl 0 rfl) ?_
      refine g_getr X w_M_4 fg_X8_47 KD_35 FR_35_15 dX8_weigh_168 ?_
      refine g_iconst X dX8_weigh_171 ?_
      refine lv_aload_n hx hb dX8_weigh_172 rfl (lv_at hl 0 rfl) ?_
      refine g_geti X w_M_4 fg_X8_58 KD_35 FR_35_2 dX8_weigh_173 ?_
      obtain ⟨hg, hf⟩ := gd_some hf
      obtain ⟨M_5, eM_5, hf⟩ := lt_some hf
      refine g_copy X w_M_4 KD_46 KD_47 (inL rfl) (inL rfl) (w_M_4.2.2 _ _) hg hl.1 aw_X8_168 ⟨nle rfl, nle rfl⟩ (nle rfl) dX8_weigh_176 (fun H locs w_M_5 => ?_)
      rw [← eM_5] at w_M_5
      exact HR M_5 _ _ _ _ (Option.some.inj hf).symm w_M_5 dX8_weigh_179
    · replace hf := ite_t cd_2 hf
      refine lv_iload_n hx hb dX8_weigh_136 rfl (lv_at hl 1 rfl) ?_
      refine lv_aload_n hx hb dX8_weigh_137 rfl (lv_at hl 0 rfl) ?_
      refine g_geti X w fg_X8_87 KD_35 FR_35_19 dX8_weigh_138 ?_
      refine g_icmp_ge (tgt := 179) X hv1 (w.2.2 _ _) dX8_weigh_141 (by decide) (fun cd_3 => ?_) (fun cd_3 => ?_)
      · replace hf := ite_t cd_3 hf
        exact HR M _ _ _ _ (Option.some.inj hf).symm w dX8_weigh_179
      · replace hf := ite_f cd_3 hf
        refine lv_aload_n hx hb dX8_weigh_144 rfl (lv_at hl 0 rfl) ?_
        refine g_iconst X dX8_weigh_145 ?_
        obtain ⟨M_6, eM_6, hf⟩ := lt_some hf
        refine g_putz X w fp_X8_62 KD_35 FR_35_17 (Or.inr rfl) dX8_weigh_146 (fun H locs w_M_6 => ?_)
        rw [← eM_6] at w_M_6
        refine lv_aload_n hx hb dX8_weigh_149 rfl (lv_at hl 0 rfl) ?_
        refine lv_aload_n hx hb dX8_weigh_150 rfl (lv_at hl 0 rfl) ?_
        refine g_geti X w_M_6 fg_X8_81 KD_35 FR_35_16 dX8_weigh_151 ?_
        obtain ⟨M_7, eM_7, hf⟩ := lt_some hf
        refine g_puti X w_M_6 fp_X8_84 KD_35 FR_35_18 (w_M_6.2.2 _ _) dX8_weigh_154 (fun H locs w_M_7 => ?_)
        rw [← eM_7] at w_M_7
        refine lv_aload_n hx hb dX8_weigh_157 rfl (lv_at hl 0 rfl) ?_
        refine lv_iload_n hx hb dX8_weigh_158 rfl (lv_at hl 1 rfl) ?_
        obtain ⟨M_8, eM_8, hf⟩ := lt_some hf
        refine g_puti X w_M_7 fp_X8_87 KD_35 FR_35_19 hv1 dX8_weigh_159 (fun H locs w_M_8 => ?_)
        rw [← eM_8] at w_M_8
        refine lv_aload_n hx hb dX8_weigh_162 rfl (lv_at hl 0 rfl) ?_
        refine g_getr X w_M_8 fg_X8_44 KD_35 FR_35_14 dX8_weigh_163 ?_
        refine g_iconst X dX8_weigh_166 ?_
        refine lv_aload_n hx hb dX8_weigh_167 rfl (lv_at hl 0 rfl) ?_
        refine g_getr X w_M_8 fg_X8_47 KD_35 FR_35_15 dX8_weigh_168 ?_
        refine g_iconst X dX8_weigh_171 ?_
        refine lv_aload_n hx hb dX8_weigh_172 rfl (lv_at hl 0 rfl) ?_
        refine g_geti X w_M_8 fg_X8_58 KD_35 FR_35_2 dX8_weigh_173 ?_
        obtain ⟨hg_2, hf⟩ := gd_some hf
        obtain ⟨M_9, eM_9, hf⟩ := lt_some hf
        refine g_copy X w_M_8 KD_46 KD_47 (inL rfl) (inL rfl) (w_M_8.2.2 _ _) hg_2 hl.1 aw_X8_168 ⟨nle rfl, nle rfl⟩ (nle rfl) dX8_weigh_176 (fun H locs w_M_9 => ?_)
        rw [← eM_9] at w_M_9
        exact HR M_9 _ _ _ _ (Option.some.inj hf).symm w_M_9 dX8_weigh_179
set_option maxRecDepth 100000 in
set_option maxHeartbeats 4000000 in
theorem b_X8_weigh_j74 (X : CX p s m args c cX8_weigh 5 RX8 D aC ad sg A H0) {o : Mem} (HR : ∀ (M1 : Mem) (H : Heap) (locs : List Loc) (pc : Nat) (ls : Array Slot), o = M1 → WS D aC ad A H0 M1 H locs → decode cX8_weigh pc = .ok (.return_, 1) → W p l e rm_X8_weigh s m args below meth c H locs 0 0 Q (F0 m pc ls [])) (v1 : Int) (hv1 : inR v1) (v2 : Int) (hv2 : inR v2) (s0 : Int) (hs0 : inR s0) (M : Mem) (hf : f_X8_weigh_j74 v1 v2 s0 M = some o) {H : Heap} {locs : List Loc} {ls : Array Slot} (hl : lv_has ls 5 [(0, .ref (ad 35)), (1, .int (i2 v1)), (2, .int (i2 v2))]) (w : WS D aC ad A H0 M H locs) : W p l e rm_X8_weigh s m args below meth c H locs 0 0 Q (F0 m 74 ls [.int (i2 s0)]) := by
  have hx := X.1.1
  have hb := X.1.2.1
  unfold f_X8_weigh_j74 at hf
  refine g_istn (v := s0) (lv' := [(3, .int (i2 s0)), (0, .ref (ad 35)), (1, .int (i2 v1)), (2, .int (i2 v2))]) X rfl dX8_weigh_74 rfl hl (by decide) rfl (fun ls hl => ?_)
  refine g_iconst X dX8_weigh_75 ?_
  refine g_ist (v := 0) (lv' := [(4, .int (i2 0)), (3, .int (i2 s0)), (0, .ref (ad 35)), (1, .int (i2 v1)), (2, .int (i2 v2))]) X rfl dX8_weigh_76 hl (by decide) rfl (fun ls hl => ?_)
  obtain ⟨q, hq, h1⟩ := obn_some hf
  exact l_X8_weigh_78 X v2 hv2 s0 hs0 (out := q) (fun y1 y4 H locs ls eq hy1 hy4 hl w => b_X8_weigh_j128 X  HR y1 hy1 v2 hv2 s0 hs0 M (by subst eq; exact h1) (lv_sub hl [0, 1, 2, 3] rfl) w)  FU v1 0 hq hv1 (inL rfl) (lv_sub hl [2, 3, 4, 1, 0] rfl) w
set_option maxRecDepth 100000 in
set_option maxHeartbeats 4000000 in
theorem b_X8_weigh_j51 (X : CX p s m args c cX8_weigh 5 RX8 D aC ad sg A H0) {o : Mem} (HR : ∀ (M1 : Mem) (H : Heap) (locs : List Loc) (pc : Nat) (ls : Array Slot), o = M1 → WS D aC ad A H0 M1 H locs → decode cX8_weigh pc = .ok (.return_, 1) → W p l e rm_X8_weigh s m args below meth c H locs 0 0 Q (F0 m pc ls [])) (v1 : Int) (hv1 : inR v1) (v2 : Int) (hv2 : inR v2) (M : Mem) (hf : f_X8_weigh_j51 v1 v2 M = some o) {H : Heap} {locs : List Loc} {ls : Array Slot} (hl : lv_has ls 5 [(0, .ref (ad 35)), (1, .int (i2 v1)), (2, .int (i2 v2))]) (w : WS D aC ad A H0 M H locs) : W p l e rm_X8_weigh s m args below meth c H locs 0 0 Q (F0 m 51 ls []) := by
  have hx := X.1.1
  have hb := X.1.2.1
  unfold f_X8_weigh_j51 at hf
  refine lv_aload_n hx hb dX8_weigh_51 rfl (lv_at hl 0 rfl) ?_
  refine g_geti X w fg_X8_62 KD_35 FR_35_17 dX8_weigh_52 ?_
  refine g_if_eq (tgt := 69) X (w.2.2 _ _) dX8_weigh_55 (by decide) (fun cd => ?_) (fun cd => ?_)
  · replace hf := ite_t cd hf
    refine g_iconst X dX8_weigh_69 ?_
    refine lv_goto (tgt := 74) hx hb dX8_weigh_70 (by decide) ?_
    exact b_X8_weigh_j74 X  HR v1 hv1 v2 hv2 1 (inL rfl) M hf hl w
  · replace hf := ite_f cd hf
    refine lv_aload_n hx hb dX8_weigh_58 rfl (lv_at hl 0 rfl) ?_
    refine g_geti X w fg_X8_81 KD_35 FR_35_16 dX8_weigh_59 ?_
    refine lv_aload_n hx hb dX8_weigh_62 rfl (lv_at hl 0 rfl) ?_
    refine g_geti X w fg_X8_84 KD_35 FR_35_18 dX8_weigh_63 ?_
    refine g_icmp_ge (tgt := 73) X (w.2.2 _ _) (w.2.2 _ _) dX8_weigh_66 (by decide) (fun cd_2 => ?_) (fun cd_2 => ?_)
    · replace hf := ite_t cd_2 hf
      refine g_iconst X dX8_weigh_73 ?_
      exact b_X8_weigh_j74 X  HR v1 hv1 v2 hv2 0 (inL rfl) M hf hl w
    · replace hf := ite_f cd_2 hf
      refine g_iconst X dX8_weigh_69 ?_
      refine lv_goto (tgt := 74) hx hb dX8_weigh_70 (by decide) ?_
      exact b_X8_weigh_j74 X  HR v1 hv1 v2 hv2 1 (inL rfl) M hf hl w
set_option maxRecDepth 100000 in
set_option maxHeartbeats 4000000 in
theorem b_X8_weigh_0 (X : CX p s m args c cX8_weigh 5 RX8 D aC ad sg A H0) {o : Mem} (HR : ∀ (M1 : Mem) (H : Heap) (locs : List Loc) (pc : Nat) (ls : Array Slot), o = M1 → WS D aC ad A H0 M1 H locs → decode cX8_weigh pc = .ok (.return_, 1) → W p l e rm_X8_weigh s m args below meth c H locs 0 0 Q (F0 m pc ls [])) (M : Mem) (hf : f_X8_weigh M = some o) {H : Heap} {locs : List Loc} {ls : Array Slot} (hl : lv_has ls 5 [(0, .ref (ad 35))]) (w : WS D aC ad A H0 M H locs) : W p l e rm_X8_weigh s m args below meth c H locs 0 0 Q (F0 m 0 ls []) := by
  have hx := X.1.1
  have hb := X.1.2.1
  unfold f_X8_weigh at hf
  refine g_iconst X dX8_weigh_0 ?_
  refine g_istn (v := 0) (lv' := [(1, .int (i2 0)), (0, .ref (ad 35))]) X rfl dX8_weigh_1 rfl hl (by decide) rfl (fun ls hl => ?_)
  refine g_iconst X dX8_weigh_2 ?_
  refine g_istn (v := 0) (lv' := [(2, .int (i2 0)), (1, .int (i2 0)), (0, .ref (ad 35))]) X rfl dX8_weigh_3 rfl hl (by decide) rfl (fun ls hl => ?_)
  refine g_iconst X dX8_weigh_4 ?_
  refine g_istn (v := 0) (lv' := [(3, .int (i2 0)), (2, .int (i2 0)), (1, .int (i2 0)), (0, .ref (ad 35))]) X rfl dX8_weigh_5 rfl hl (by decide) rfl (fun ls hl => ?_)
  obtain ⟨q, hq, h1⟩ := obn_some hf
  exact l_X8_weigh_6 X  (out := q) (fun y1 y2 y3 H locs ls eq hy1 hy2 hy3 hl w => b_X8_weigh_j51 X  HR y1 hy1 y2 hy2 M (by subst eq; exact h1) (lv_sub hl [0, 1, 2] rfl) w)  FU 0 0 0 hq (inL rfl) (inL rfl) (inL rfl) (lv_sub hl [3, 2, 1, 0] rfl) w
set_option maxRecDepth 100000 in
set_option maxHeartbeats 4000000 in
theorem k_X8_weigh {l : Launch} {D : va_G} {aC : Nat → ClassId} {ad : Nat → Nat} {sg : SG} (hi : Inj ad)  {M : Mem} (hM : inM M) {M' : Mem} (hf : f_X8_weigh M = some M') : MetV l D aC ad sg yX8_weigh cX8_weigh 5 rm_X8_weigh 0 0 [.ref (ad 35)] M M' := by
  refine MetV.of (by decide +kernel) (nle rfl) hi hM (fun p e s m args below meth c Q H0 ls X hl w hret => ?_)
  exact b_X8_weigh_0 X  (fun M1 H locs pc ls eo w dg => by cases eo; exact hret H locs pc ls w dg) M hf hl w
set_option maxRecDepth 100000 in
set_option maxHeartbeats 4000000 in
theorem b_X8_isPerfect_0 (X : CX p s m args c cX8_isPerfect 1 RX8 D aC ad sg A H0) {M : Mem} {o : Int} (HR : ∀ (r : Int) (H : Heap) (locs : List Loc) (pc : Nat) (ls : Array Slot), o = r → isZ r → WS D aC ad A H0 M H locs → decode cX8_isPerfect pc = .ok (.ireturn, 1) → W p l e rm_X8_isPerfect s m args below meth c H locs 0 0 Q (F0 m pc ls [.int (i2 r)])) (hf : f_X8_isPerfect M = some o) {H : Heap} {locs : List Loc} {ls : Array Slot} (hl : lv_has ls 1 [(0, .ref (ad 35))]) (w : WS D aC ad A H0 M H locs) : W p l e rm_X8_isPerfect s m args below meth c H locs 0 0 Q (F0 m 0 ls []) := by
  have hx := X.1.1
  have hb := X.1.2.1
  unfold f_X8_isPerfect at hf
  refine lv_aload_n hx hb dX8_isPerfect_0 rfl (lv_at hl 0 rfl) ?_
  refine g_geti X w fg_X8_62 KD_35 FR_35_17 dX8_isPerfect_1 ?_
  refine g_if_eq (tgt := 25) X (w.2.2 _ _) dX8_isPerfect_4 (by decide) (fun cd => ?_) (fun cd => ?_)
  · replace hf := ite_t cd hf
    refine g_iconst X dX8_isPerfect_25 ?_
    exact HR 0 _ _ _ _ (Option.some.inj hf).symm (Or.inl rfl) w dX8_isPerfect_26
  · replace hf := ite_f cd hf
    refine lv_aload_n hx hb dX8_isPerfect_7 rfl (lv_at hl 0 rfl) ?_
    refine g_geti X w fg_X8_84 KD_35 FR_35_18 dX8_isPerfect_8 ?_
    refine g_if_ne (tgt := 25) X (w.2.2 _ _) dX8_isPerfect_11 (by decide) (fun cd_2 => ?_) (fun cd_2 => ?_)
    · replace hf := ite_f cd_2 hf
      refine g_iconst X dX8_isPerfect_25 ?_
      exact HR 0 _ _ _ _ (Option.some.inj hf).symm (Or.inl rfl) w dX8_isPerfect_26
    · replace hf := ite_t cd_2 hf
      refine lv_aload_n hx hb dX8_isPerfect_14 rfl (lv_at hl 0 rfl) ?_
      refine g_geti X w fg_X8_87 KD_35 FR_35_19 dX8_isPerfect_15 ?_
      refine g_if_ne (tgt := 25) X (w.2.2 _ _) dX8_isPerfect_18 (by decide) (fun cd_3 => ?_) (fun cd_3 => ?_)
      · replace hf := ite_f cd_3 hf
        refine g_iconst X dX8_isPerfect_25 ?_
        exact HR 0 _ _ _ _ (Option.some.inj hf).symm (Or.inl rfl) w dX8_isPerfect_26
      · replace hf := ite_t cd_3 hf
        refine g_iconst X dX8_isPerfect_21 ?_
        refine lv_goto (tgt := 26) hx hb dX8_isPerfect_22 (by decide) ?_
        exact HR 1 _ _ _ _ (Option.some.inj hf).symm (Or.inr rfl) w dX8_isPerfect_26
set_option maxRecDepth 100000 in
set_option maxHeartbeats 4000000 in
theorem k_X8_isPerfect {l : Launch} {D : va_G} {aC : Nat → ClassId} {ad : Nat → Nat} {sg : SG} (hi : Inj ad)  {M : Mem} (hM : inM M) {r : Int} (hf : f_X8_isPerfect M = some r) : MetI l D aC ad sg yX8_isPerfect cX8_isPerfect 1 (some .boolean) rm_X8_isPerfect 0 0 [.ref (ad 35)] M r M := by
  refine MetI.ofZ (by decide +kernel) (nle rfl) hi hM (fun p e s m args below meth c Q H0 ls X hl w hret => ?_)
  exact b_X8_isPerfect_0 X  (fun r1 H locs pc ls eo hP w dg => by cases eo; exact hret H locs pc ls hP w dg)  hf hl w
set_option maxRecDepth 100000 in
set_option maxHeartbeats 4000000 in
theorem b_X8_isRepeat_s23 (X : CX p s m args c cX8_isRepeat 3 RX8 D aC ad sg A H0) (v1 : Int) (hv1 : inR v1) {M : Mem} {o : (Int) ⊕ ((Int) ⊕ (Int))} (HC : ∀ (y2 : Int) (H : Heap) (locs : List Loc) (ls : Array Slot), o = .inl y2 → inR y2 → lv_has ls 3 [(0, .ref (ad 35)), (1, .int (i2 v1)), (2, .int (i2 y2))] → WS D aC ad A H0 M H locs → W p l e rm_X8_isRepeat s m args below meth c H locs 0 0 Q (F0 m 23 ls [])) (HE : ∀ (y2 : Int) (H : Heap) (locs : List Loc) (ls : Array Slot), o = .inr (.inl y2) → inR y2 → lv_has ls 3 [(0, .ref (ad 35)), (1, .int (i2 v1)), (2, .int (i2 y2))] → WS D aC ad A H0 M H locs → W p l e rm_X8_isRepeat s m args below meth c H locs 0 0 Q (F0 m 87 ls [])) (HR : ∀ (r : Int) (H : Heap) (locs : List Loc) (pc : Nat) (ls : Array Slot), o = .inr (.inr r) → isZ r → WS D aC ad A H0 M H locs → decode cX8_isRepeat pc = .ok (.ireturn, 1) → W p l e rm_X8_isRepeat s m args below meth c H locs 0 0 Q (F0 m pc ls [.int (i2 r)])) (v2 : Int) (hv2 : inR v2) (hf : f_X8_isRepeat_s23 v1 M v2 = some o) {H : Heap} {locs : List Loc} {ls : Array Slot} (hl : lv_has ls 3 [(0, .ref (ad 35)), (1, .int (i2 v1)), (2, .int (i2 v2))]) (w : WS D aC ad A H0 M H locs) : W p l e rm_X8_isRepeat s m args below meth c H locs 0 0 Q (F0 m 23 ls []) := by
  have hx := X.1.1
  have hb := X.1.2.1
  unfold f_X8_isRepeat_s23 at hf
  refine lv_iload_n hx hb dX8_isRepeat_23 rfl (lv_at hl 2 rfl) ?_
  refine lv_iload_n hx hb dX8_isRepeat_24 rfl (lv_at hl 1 rfl) ?_
  refine g_icmp_ge (tgt := 87) X hv2 hv1 dX8_isRepeat_25 (by decide) (fun cd => ?_) (fun cd => ?_)
  · replace hf := ite_t cd hf
    exact HE v2 _ _ _ (Option.some.inj hf).symm hv2 hl w
  · replace hf := ite_f cd hf
    refine lv_aload_n hx hb dX8_isRepeat_28 rfl (lv_at hl 0 rfl) ?_
    refine g_getr X w fg_X8_41 KD_35 FR_35_13 dX8_isRepeat_29 ?_
    refine lv_iload_n hx hb dX8_isRepeat_32 rfl (lv_at hl 2 rfl) ?_
    obtain ⟨hg, hf⟩ := gd_some hf
    refine g_iald X w KD_45 hv2 hg dX8_isRepeat_33 ?_
    refine g_if_ne (tgt := 81) X (w.2.2 _ _) dX8_isRepeat_34 (by decide) (fun cd_2 => ?_) (fun cd_2 => ?_)
    · replace hf := ite_f cd_2 hf
      obtain ⟨v2_2, ev2_2, hf⟩ := lt_some hf
      have hv2_2 : inR v2_2 := inR_of ev2_2 (inR_wrap _)
      refine lv_iinc (v := i2 v2_2) (lv' := [(2, .int (i2 v2_2)), (0, .ref (ad 35)), (1, .int (i2 v1))]) hx hb dX8_isRepeat_81 hl (k := 2) rfl (by rw [ev2_2]; exact i2_add _ _) (by decide) rfl (fun ls hl => ?_)
      refine lv_goto (tgt := 23) hx hb dX8_isRepeat_84 (by decide) ?_
      exact HC v2_2 _ _ _ (Option.some.inj hf).symm hv2_2 (lv_sub hl [1, 2, 0] rfl) w
    · replace hf := ite_t cd_2 hf
      refine lv_aload_n hx hb dX8_isRepeat_37 rfl (lv_at hl 0 rfl) ?_
      refine g_getr X w fg_X8_50 KD_35 FR_35_0 dX8_isRepeat_38 ?_
      refine g_getr X w fg_X8_156 KD_3 FR_3_14 dX8_isRepeat_41 ?_
      refine lv_iload_n hx hb dX8_isRepeat_44 rfl (lv_at hl 2 rfl) ?_
      obtain ⟨hg_2, hf⟩ := gd_some hf
      refine g_iald X w KD_16 hv2 hg_2 dX8_isRepeat_45 ?_
      refine lv_aload_n hx hb dX8_isRepeat_46 rfl (lv_at hl 0 rfl) ?_
      refine g_getr X w fg_X8_50 KD_35 FR_35_0 dX8_isRepeat_47 ?_
      refine g_getr X w fg_X8_156 KD_3 FR_3_14 dX8_isRepeat_50 ?_
      refine lv_iload_n hx hb dX8_isRepeat_53 rfl (lv_at hl 1 rfl) ?_
      obtain ⟨hg_3, hf⟩ := gd_some hf
      refine g_iald X w KD_16 hv1 hg_3 dX8_isRepeat_54 ?_
      refine g_icmp_ne (tgt := 81) X (w.2.2 _ _) (w.2.2 _ _) dX8_isRepeat_55 (by decide) (fun cd_3 => ?_) (fun cd_3 => ?_)
      · replace hf := ite_f cd_3 hf
        obtain ⟨v2_3, ev2_3, hf⟩ := lt_some hf
        have hv2_3 : inR v2_3 := inR_of ev2_3 (inR_wrap _)
        refine lv_iinc (v := i2 v2_3) (lv' := [(2, .int (i2 v2_3)), (0, .ref (ad 35)), (1, .int (i2 v1))]) hx hb dX8_isRepeat_81 hl (k := 2) rfl (by rw [ev2_3]; exact i2_add _ _) (by decide) rfl (fun ls hl => ?_)
        refine lv_goto (tgt := 23) hx hb dX8_isRepeat_84 (by decide) ?_
        exact HC v2_3 _ _ _ (Option.some.inj hf).symm hv2_3 (lv_sub hl [1, 2, 0] rfl) w
      · replace hf := ite_t cd_3 hf
        refine lv_aload_n hx hb dX8_isRepeat_58 rfl (lv_at hl 0 rfl) ?_
        refine g_getr X w fg_X8_50 KD_35 FR_35_0 dX8_isRepeat_59 ?_
        refine g_getr X w fg_X8_159 KD_3 FR_3_9 dX8_isRepeat_62 ?_
        refine lv_iload_n hx hb dX8_isRepeat_65 rfl (lv_at hl 2 rfl) ?_
        obtain ⟨hg_4, hf⟩ := gd_some hf
        refine g_iald X w KD_12 hv2 hg_4 dX8_isRepeat_66 ?_
        refine lv_aload_n hx hb dX8_isRepeat_67 rfl (lv_at hl 0 rfl) ?_
        refine g_getr X w fg_X8_50 KD_35 FR_35_0 dX8_isRepeat_68 ?_
        refine g_getr X w fg_X8_159 KD_3 FR_3_9 dX8_isRepeat_71 ?_
        refine lv_iload_n hx hb dX8_isRepeat_74 rfl (lv_at hl 1 rfl) ?_
        obtain ⟨hg_5, hf⟩ := gd_some hf
        refine g_iald X w KD_12 hv1 hg_5 dX8_isRepeat_75 ?_
        refine g_icmp_ne (tgt := 81) X (w.2.2 _ _) (w.2.2 _ _) dX8_isRepeat_76 (by decide) (fun cd_4 => ?_) (fun cd_4 => ?_)
        · replace hf := ite_f cd_4 hf
          obtain ⟨v2_4, ev2_4, hf⟩ := lt_some hf
          have hv2_4 : inR v2_4 := inR_of ev2_4 (inR_wrap _)
          refine lv_iinc (v := i2 v2_4) (lv' := [(2, .int (i2 v2_4)), (0, .ref (ad 35)), (1, .int (i2 v1))]) hx hb dX8_isRepeat_81 hl (k := 2) rfl (by rw [ev2_4]; exact i2_add _ _) (by decide) rfl (fun ls hl => ?_)
          refine lv_goto (tgt := 23) hx hb dX8_isRepeat_84 (by decide) ?_
          exact HC v2_4 _ _ _ (Option.some.inj hf).symm hv2_4 (lv_sub hl [1, 2, 0] rfl) w
        · replace hf := ite_t cd_4 hf
          refine g_iconst X dX8_isRepeat_79 ?_
          exact HR 1 _ _ _ _ (Option.some.inj hf).symm (Or.inr rfl) w dX8_isRepeat_80
set_option maxRecDepth 100000 in
set_option maxHeartbeats 4000000 in
theorem l_X8_isRepeat_23 (X : CX p s m args c cX8_isRepeat 3 RX8 D aC ad sg A H0) (v1 : Int) (hv1 : inR v1) {M : Mem} {out : (Int) ⊕ (Int)} (HE : ∀ (y2 : Int) (H : Heap) (locs : List Loc) (ls : Array Slot), out = .inl y2 → inR y2 → lv_has ls 3 [(0, .ref (ad 35)), (1, .int (i2 v1)), (2, .int (i2 y2))] → WS D aC ad A H0 M H locs → W p l e rm_X8_isRepeat s m args below meth c H locs 0 0 Q (F0 m 87 ls [])) (HR : ∀ (r : Int) (H : Heap) (locs : List Loc) (pc : Nat) (ls : Array Slot), out = .inr r → isZ r → WS D aC ad A H0 M H locs → decode cX8_isRepeat pc = .ok (.ireturn, 1) → W p l e rm_X8_isRepeat s m args below meth c H locs 0 0 Q (F0 m pc ls [.int (i2 r)])) : ∀ (n : Nat) (v2 : Int), whl (fun s => f_X8_isRepeat_s23 v1 M s) n v2 = some out → inR v2 → ∀ {H : Heap} {locs : List Loc} {ls : Array Slot}, lv_has ls 3 [(0, .ref (ad 35)), (1, .int (i2 v1)), (2, .int (i2 v2))] → WS D aC ad A H0 M H locs → W p l e rm_X8_isRepeat s m args below meth c H locs 0 0 Q (F0 m 23 ls []) := by
  intro n
  induction n with
  | zero => intro v2 hf; exact (whl_zero hf).elim
  | succ n ih =>
    intro v2 hf hv2 H locs ls hl w
    obtain ⟨o, hf, hk1, hk2⟩ := whl_step hf
    exact b_X8_isRepeat_s23 X v1 hv1 (fun y2 H locs ls eo hy2 hl w => ih y2 (hk1 _ eo) hy2 hl w) (fun y2 H locs ls eo hy2 hl w => HE y2 H locs ls (hk2 _ eo).symm hy2 hl w) (fun r H locs pc ls eo hP w dg => HR r H locs pc ls (hk2 _ eo).symm hP w dg) v2 hv2 hf hl w
set_option maxRecDepth 100000 in
set_option maxHeartbeats 4000000 in
theorem b_X8_isRepeat_j87 (X : CX p s m args c cX8_isRepeat 3 RX8 D aC ad sg A H0) {M : Mem} {o : Int} (HR : ∀ (r : Int) (H : Heap) (locs : List Loc) (pc : Nat) (ls : Array Slot), o = r → isZ r → WS D aC ad A H0 M H locs → decode cX8_isRepeat pc = .ok (.ireturn, 1) → W p l e rm_X8_isRepeat s m args below meth c H locs 0 0 Q (F0 m pc ls [.int (i2 r)])) (hf : f_X8_isRepeat_j87 M = some o) {H : Heap} {locs : List Loc} {ls : Array Slot} (hl : lv_has ls 3 []) (w : WS D aC ad A H0 M H locs) : W p l e rm_X8_isRepeat s m args below meth c H locs 0 0 Q (F0 m 87 ls []) := by
  have hx := X.1.1
  have hb := X.1.2.1
  unfold f_X8_isRepeat_j87 at hf
  refine g_iconst X dX8_isRepeat_87 ?_
  exact HR 0 _ _ _ _ (Option.some.inj hf).symm (Or.inl rfl) w dX8_isRepeat_88
set_option maxRecDepth 100000 in
set_option maxHeartbeats 4000000 in
theorem b_X8_isRepeat_0 (X : CX p s m args c cX8_isRepeat 3 RX8 D aC ad sg A H0) {M : Mem} {o : Int} (HR : ∀ (r : Int) (H : Heap) (locs : List Loc) (pc : Nat) (ls : Array Slot), o = r → isZ r → WS D aC ad A H0 M H locs → decode cX8_isRepeat pc = .ok (.ireturn, 1) → W p l e rm_X8_isRepeat s m args below meth c H locs 0 0 Q (F0 m pc ls [.int (i2 r)])) (p1 : Int) (hp1 : inR p1) (hf : f_X8_isRepeat p1 M = some o) {H : Heap} {locs : List Loc} {ls : Array Slot} (hl : lv_has ls 3 [(0, .ref (ad 35)), (1, .int (i2 p1))]) (w : WS D aC ad A H0 M H locs) : W p l e rm_X8_isRepeat s m args below meth c H locs 0 0 Q (F0 m 0 ls []) := by
  have hx := X.1.1
  have hb := X.1.2.1
  unfold f_X8_isRepeat at hf
  refine lv_aload_n hx hb dX8_isRepeat_0 rfl (lv_at hl 0 rfl) ?_
  refine g_getr X w fg_X8_41 KD_35 FR_35_13 dX8_isRepeat_1 ?_
  refine lv_iload_n hx hb dX8_isRepeat_4 rfl (lv_at hl 1 rfl) ?_
  obtain ⟨hg, hf⟩ := gd_some hf
  refine g_iald X w KD_45 hp1 hg dX8_isRepeat_5 ?_
  refine g_if_ne (tgt := 19) X (w.2.2 _ _) dX8_isRepeat_6 (by decide) (fun cd => ?_) (fun cd => ?_)
  · replace hf := ite_f cd hf
    refine g_iconst X dX8_isRepeat_19 ?_
    exact HR 0 _ _ _ _ (Option.some.inj hf).symm (Or.inl rfl) w dX8_isRepeat_20
  · replace hf := ite_t cd hf
    refine lv_aload_n hx hb dX8_isRepeat_9 rfl (lv_at hl 0 rfl) ?_
    refine g_getr X w fg_X8_15 KD_35 FR_35_4 dX8_isRepeat_10 ?_
    refine g_iconst X dX8_isRepeat_13 ?_
    refine g_iald X w KD_37 (inL rfl) (by decide) dX8_isRepeat_14 ?_
    refine g_iconst X dX8_isRepeat_15 ?_
    refine g_icmp_eq (tgt := 21) X (w.2.2 _ _) (inL rfl) dX8_isRepeat_16 (by decide) (fun cd_2 => ?_) (fun cd_2 => ?_)
    · replace hf := ite_t cd_2 hf
      refine g_iconst X dX8_isRepeat_21 ?_
      refine g_istn (v := 0) (lv' := [(2, .int (i2 0)), (0, .ref (ad 35)), (1, .int (i2 p1))]) X rfl dX8_isRepeat_22 rfl hl (by decide) rfl (fun ls hl => ?_)
      obtain ⟨q, hq, h1, h2⟩ := lpr_some hf
      exact l_X8_isRepeat_23 X p1 hp1 (out := q) (fun y2 H locs ls eq hy2 hl w => b_X8_isRepeat_j87 X  HR  (h1 _ eq) (lv_sub hl [] rfl) w) (fun r H locs pc ls eq hP w dg => HR r H locs pc ls (Option.some.inj (h2 _ eq)).symm hP w dg) FU 0 hq (inL rfl) (lv_sub hl [1, 2, 0] rfl) w
    · replace hf := ite_f cd_2 hf
      refine g_iconst X dX8_isRepeat_19 ?_
      exact HR 0 _ _ _ _ (Option.some.inj hf).symm (Or.inl rfl) w dX8_isRepeat_20
set_option maxRecDepth 100000 in
set_option maxHeartbeats 4000000 in
theorem k_X8_isRepeat {l : Launch} {D : va_G} {aC : Nat → ClassId} {ad : Nat → Nat} {sg : SG} (hi : Inj ad) (p1 : Int) (hp1 : inR p1) {M : Mem} (hM : inM M) {r : Int} (hf : f_X8_isRepeat p1 M = some r) : MetI l D aC ad sg yX8_isRepeat cX8_isRepeat 3 (some .boolean) rm_X8_isRepeat 0 0 [.ref (ad 35), .int (i2 p1)] M r M := by
  refine MetI.ofZ (by decide +kernel) (nle rfl) hi hM (fun p e s m args below meth c Q H0 ls X hl w hret => ?_)
  exact b_X8_isRepeat_0 X  (fun r1 H locs pc ls eo hP w dg => by cases eo; exact hret H locs pc ls hP w dg) p1 hp1 hf hl w
set_option maxRecDepth 100000 in
set_option maxHeartbeats 4000000 in
theorem b_X8_movesOf_0 (X : CX p s m args c cX8_movesOf 3 RX8 D aC ad sg A H0) {M : Mem} {o : Int} (HR : ∀ (r : Int) (H : Heap) (locs : List Loc) (pc : Nat) (ls : Array Slot), o = r → inR r → WS D aC ad A H0 M H locs → decode cX8_movesOf pc = .ok (.ireturn, 1) → W p l e rm_X8_movesOf s m args below meth c H locs 0 0 Q (F0 m pc ls [.int (i2 r)])) (p1 : Int) (hp1 : inR p1) (p2 : Int) (hp2 : inR p2) (hf : f_X8_movesOf p1 p2 M = some o) {H : Heap} {locs : List Loc} {ls : Array Slot} (hl : lv_has ls 3 [(0, .ref (ad 35)), (1, .int (i2 p1)), (2, .int (i2 p2))]) (w : WS D aC ad A H0 M H locs) : W p l e rm_X8_movesOf s m args below meth c H locs 0 0 Q (F0 m 0 ls []) := by
  have hx := X.1.1
  have hb := X.1.2.1
  unfold f_X8_movesOf at hf
  refine lv_aload_n hx hb dX8_movesOf_0 rfl (lv_at hl 0 rfl) ?_
  refine g_getr X w fg_X8_15 KD_35 FR_35_4 dX8_movesOf_1 ?_
  refine lv_iload_n hx hb dX8_movesOf_4 rfl (lv_at hl 1 rfl) ?_
  obtain ⟨hg, hf⟩ := gd_some hf
  refine g_iald X w KD_37 hp1 hg dX8_movesOf_5 ?_
  refine g_iconst X dX8_movesOf_6 ?_
  refine g_icmp_eq (tgt := 20) X (w.2.2 _ _) (inL rfl) dX8_movesOf_7 (by decide) (fun cd => ?_) (fun cd => ?_)
  · replace hf := ite_t cd hf
    refine g_iconst X dX8_movesOf_20 ?_
    refine lv_goto (tgt := 25) hx hb dX8_movesOf_21 (by decide) ?_
    exact HR 0 _ _ _ _ (Option.some.inj hf).symm (inL rfl) w dX8_movesOf_25
  · replace hf := ite_f cd hf
    refine lv_aload_n hx hb dX8_movesOf_10 rfl (lv_at hl 0 rfl) ?_
    refine g_getr X w fg_X8_15 KD_35 FR_35_4 dX8_movesOf_11 ?_
    refine lv_iload_n hx hb dX8_movesOf_14 rfl (lv_at hl 1 rfl) ?_
    obtain ⟨hg_2, hf⟩ := gd_some hf
    refine g_iald X w KD_37 hp1 hg_2 dX8_movesOf_15 ?_
    refine lv_iload_n hx hb dX8_movesOf_16 rfl (lv_at hl 2 rfl) ?_
    refine g_icmp_ne (tgt := 24) X (w.2.2 _ _) hp2 dX8_movesOf_17 (by decide) (fun cd_2 => ?_) (fun cd_2 => ?_)
    · replace hf := ite_f cd_2 hf
      refine g_iconst X dX8_movesOf_24 ?_
      exact HR 1 _ _ _ _ (Option.some.inj hf).symm (inL rfl) w dX8_movesOf_25
    · replace hf := ite_t cd_2 hf
      refine g_iconst X dX8_movesOf_20 ?_
      refine lv_goto (tgt := 25) hx hb dX8_movesOf_21 (by decide) ?_
      exact HR 0 _ _ _ _ (Option.some.inj hf).symm (inL rfl) w dX8_movesOf_25
set_option maxRecDepth 100000 in
set_option maxHeartbeats 4000000 in
theorem k_X8_movesOf {l : Launch} {D : va_G} {aC : Nat → ClassId} {ad : Nat → Nat} {sg : SG} (hi : Inj ad) (p1 : Int) (hp1 : inR p1) (p2 : Int) (hp2 : inR p2) {M : Mem} (hM : inM M) {r : Int} (hf : f_X8_movesOf p1 p2 M = some r) : MetI l D aC ad sg yX8_movesOf cX8_movesOf 3 (some .int) rm_X8_movesOf 0 0 [.ref (ad 35), .int (i2 p1), .int (i2 p2)] M r M := by
  refine MetI.ofI (by decide +kernel) (nle rfl) hi hM (fun p e s m args below meth c Q H0 ls X hl w hret => ?_)
  exact b_X8_movesOf_0 X  (fun r1 H locs pc ls eo hP w dg => by cases eo; exact hret H locs pc ls hP w dg) p1 hp1 p2 hp2 hf hl w
set_option maxRecDepth 100000 in
set_option maxHeartbeats 4000000 in
theorem b_X8_mayJoin_0 (X : CX p s m args c cX8_mayJoin 4 RX8 D aC ad sg A H0) {M : Mem} {o : Int} (HR : ∀ (r : Int) (H : Heap) (locs : List Loc) (pc : Nat) (ls : Array Slot), o = r → isZ r → WS D aC ad A H0 M H locs → decode cX8_mayJoin pc = .ok (.ireturn, 1) → W p l e rm_X8_mayJoin s m args below meth c H locs 0 0 Q (F0 m pc ls [.int (i2 r)])) (p1 : Int) (hp1 : inR p1) (p2 : Int) (hp2 : inR p2) (hf : f_X8_mayJoin p1 p2 M = some o) {H : Heap} {locs : List Loc} {ls : Array Slot} (hl : lv_has ls 4 [(0, .ref (ad 35)), (1, .int (i2 p1)), (2, .int (i2 p2))]) (w : WS D aC ad A H0 M H locs) : W p l e rm_X8_mayJoin s m args below meth c H locs 0 0 Q (F0 m 0 ls []) := by
  have hx := X.1.1
  have hb := X.1.2.1
  unfold f_X8_mayJoin at hf
  refine lv_aload_n hx hb dX8_mayJoin_0 rfl (lv_at hl 0 rfl) ?_
  refine g_getr X w fg_X8_41 KD_35 FR_35_13 dX8_mayJoin_1 ?_
  refine lv_iload_n hx hb dX8_mayJoin_4 rfl (lv_at hl 2 rfl) ?_
  obtain ⟨hg, hf⟩ := gd_some hf
  refine g_iald X w KD_45 hp2 hg dX8_mayJoin_5 ?_
  refine g_iconst X dX8_mayJoin_6 ?_
  refine lv_iload_n hx hb dX8_mayJoin_7 rfl (lv_at hl 1 rfl) ?_
  refine g_ishl X dX8_mayJoin_8 ?_
  refine g_ior X dX8_mayJoin_9 ?_
  obtain ⟨v3, ev3, hf⟩ := lt_some hf
  have hv3 : inR v3 := inR_of ev3 (inR_toInt _)
  refine g_istn (v := v3) (lv' := [(3, .int (i2 v3)), (0, .ref (ad 35)), (1, .int (i2 p1)), (2, .int (i2 p2))]) X ev3 dX8_mayJoin_10 rfl hl (by decide) rfl (fun ls hl => ?_)
  refine lv_aload_n hx hb dX8_mayJoin_11 rfl (lv_at hl 1 rfl) ?_
  refine g_getr X w fg_X8_21 KD_35 FR_35_6 dX8_mayJoin_12 ?_
  refine lv_iload_n hx hb dX8_mayJoin_15 rfl (lv_at hl 0 rfl) ?_
  obtain ⟨hg_2, hf⟩ := gd_some hf
  refine g_iald X w KD_39 hv3 hg_2 dX8_mayJoin_16 ?_
  refine lv_iload_n hx hb dX8_mayJoin_17 rfl (lv_at hl 3 rfl) ?_
  refine g_ishr X dX8_mayJoin_18 ?_
  refine g_iconst X dX8_mayJoin_19 ?_
  refine g_iand X dX8_mayJoin_20 ?_
  refine g_if_eq (tgt := 66) X (inR_toInt _) dX8_mayJoin_21 (by decide) (fun cd => ?_) (fun cd => ?_)
  · replace hf := ite_t cd hf
    refine g_iconst X dX8_mayJoin_66 ?_
    exact HR 0 _ _ _ _ (Option.some.inj hf).symm (Or.inl rfl) w dX8_mayJoin_67
  · replace hf := ite_f cd hf
    refine lv_aload_n hx hb dX8_mayJoin_24 rfl (lv_at hl 1 rfl) ?_
    refine g_getr X w fg_X8_18 KD_35 FR_35_5 dX8_mayJoin_25 ?_
    refine lv_iload_n hx hb dX8_mayJoin_28 rfl (lv_at hl 2 rfl) ?_
    obtain ⟨hg_3, hf⟩ := gd_some hf
    refine g_iald X w KD_38 hp1 hg_3 dX8_mayJoin_29 ?_
    refine lv_iload_n hx hb dX8_mayJoin_30 rfl (lv_at hl 0 rfl) ?_
    refine g_iconst X dX8_mayJoin_31 ?_
    refine g_ixor X dX8_mayJoin_32 ?_
    refine g_iand X dX8_mayJoin_33 ?_
    refine g_if_ne (tgt := 66) X (inR_toInt _) dX8_mayJoin_34 (by decide) (fun cd_2 => ?_) (fun cd_2 => ?_)
    · replace hf := ite_f cd_2 hf
      refine g_iconst X dX8_mayJoin_66 ?_
      exact HR 0 _ _ _ _ (Option.some.inj hf).symm (Or.inl rfl) w dX8_mayJoin_67
    · replace hf := ite_t cd_2 hf
      refine lv_aload_n hx hb dX8_mayJoin_37 rfl (lv_at hl 1 rfl) ?_
      refine g_geti X w fg_X8_62 KD_35 FR_35_17 dX8_mayJoin_38 ?_
      refine g_if_eq (tgt := 62) X (w.2.2 _ _) dX8_mayJoin_41 (by decide) (fun cd_3 => ?_) (fun cd_3 => ?_)
      · replace hf := ite_t cd_3 hf
        refine g_iconst X dX8_mayJoin_62 ?_
        refine lv_goto (tgt := 67) hx hb dX8_mayJoin_63 (by decide) ?_
        exact HR 1 _ _ _ _ (Option.some.inj hf).symm (Or.inr rfl) w dX8_mayJoin_67
      · replace hf := ite_f cd_3 hf
        refine lv_aload_n hx hb dX8_mayJoin_44 rfl (lv_at hl 1 rfl) ?_
        refine g_geti X w fg_X8_81 KD_35 FR_35_16 dX8_mayJoin_45 ?_
        refine lv_aload_n hx hb dX8_mayJoin_48 rfl (lv_at hl 1 rfl) ?_
        refine lv_iload_n hx hb dX8_mayJoin_49 rfl (lv_at hl 2 rfl) ?_
        refine lv_iload_n hx hb dX8_mayJoin_50 rfl (lv_at hl 3 rfl) ?_
        obtain ⟨r, hc, hf⟩ := obn_some hf
        refine g_cvi (As := [.int (i2 p1), .int (i2 p2)]) (rest := [.int (i2 (M 35 16))]) X w (k_X8_movesOf X.2.2.1 p1 hp1 p2 hp2 w.2.2 hc) lk_X8_162 cl_8 KD_35 ⟨rfl, rfl⟩ ⟨nle rfl, nle rfl⟩ ⟨nle rfl, nle rfl⟩ hl.1 rfl (nle rfl) dX8_mayJoin_51 (fun hr H locs w => ?_)
        refine g_iadd X dX8_mayJoin_54 ?_
        refine lv_aload_n hx hb dX8_mayJoin_55 rfl (lv_at hl 1 rfl) ?_
        refine g_geti X w fg_X8_84 KD_35 FR_35_18 dX8_mayJoin_56 ?_
        refine g_icmp_gt (tgt := 66) X (inR_wrap _) (w.2.2 _ _) dX8_mayJoin_59 (by decide) (fun cd_4 => ?_) (fun cd_4 => ?_)
        · replace hf := ite_t cd_4 hf
          refine g_iconst X dX8_mayJoin_66 ?_
          exact HR 0 _ _ _ _ (Option.some.inj hf).symm (Or.inl rfl) w dX8_mayJoin_67
        · replace hf := ite_f cd_4 hf
          refine g_iconst X dX8_mayJoin_62 ?_
          refine lv_goto (tgt := 67) hx hb dX8_mayJoin_63 (by decide) ?_
          exact HR 1 _ _ _ _ (Option.some.inj hf).symm (Or.inr rfl) w dX8_mayJoin_67
set_option maxRecDepth 100000 in
set_option maxHeartbeats 4000000 in
theorem k_X8_mayJoin {l : Launch} {D : va_G} {aC : Nat → ClassId} {ad : Nat → Nat} {sg : SG} (hi : Inj ad) (p1 : Int) (hp1 : inR p1) (p2 : Int) (hp2 : inR p2) {M : Mem} (hM : inM M) {r : Int} (hf : f_X8_mayJoin p1 p2 M = some r) : MetI l D aC ad sg yX8_mayJoin cX8_mayJoin 4 (some .boolean) rm_X8_mayJoin 0 0 [.ref (ad 35), .int (i2 p1), .int (i2 p2)] M r M := by
  refine MetI.ofZ (by decide +kernel) (nle rfl) hi hM (fun p e s m args below meth c Q H0 ls X hl w hret => ?_)
  exact b_X8_mayJoin_0 X  (fun r1 H locs pc ls eo hP w dg => by cases eo; exact hret H locs pc ls hP w dg) p1 hp1 p2 hp2 hf hl w
set_option maxRecDepth 100000 in
set_option maxHeartbeats 4000000 in
theorem b_X8_put_s39 (X : CX p s m args c cX8_put 5 RX8 D aC ad sg A H0) (v1 : Int) (hv1 : inR v1) (v2 : Int) (hv2 : inR v2) (v3 : Int) (hv3 : inR v3) {o : (Int × Mem) ⊕ (Int × Mem)} (HC : ∀ (y4 : Int) (M1 : Mem) (H : Heap) (locs : List Loc) (ls : Array Slot), o = .inl (y4, M1) → inR y4 → lv_has ls 5 [(0, .ref (ad 35)), (1, .int (i2 v1)), (2, .int (i2 v2)), (3, .int (i2 v3)), (4, .int (i2 y4))] → WS D aC ad A H0 M1 H locs → W p l e rm_X8_put s m args below meth c H locs 0 0 Q (F0 m 39 ls [])) (HE : ∀ (y4 : Int) (M1 : Mem) (H : Heap) (locs : List Loc) (ls : Array Slot), o = .inr (y4, M1) → inR y4 → lv_has ls 5 [(0, .ref (ad 35)), (1, .int (i2 v1)), (2, .int (i2 v2)), (3, .int (i2 v3)), (4, .int (i2 y4))] → WS D aC ad A H0 M1 H locs → W p l e rm_X8_put s m args below meth c H locs 0 0 Q (F0 m 82 ls [])) (v4 : Int) (hv4 : inR v4) (M : Mem) (hf : f_X8_put_s39 v1 v2 v3 v4 M = some o) {H : Heap} {locs : List Loc} {ls : Array Slot} (hl : lv_has ls 5 [(0, .ref (ad 35)), (1, .int (i2 v1)), (2, .int (i2 v2)), (3, .int (i2 v3)), (4, .int (i2 v4))]) (w : WS D aC ad A H0 M H locs) : W p l e rm_X8_put s m args below meth c H locs 0 0 Q (F0 m 39 ls []) := by
  have hx := X.1.1
  have hb := X.1.2.1
  unfold f_X8_put_s39 at hf
  refine lv_iload hx hb dX8_put_39 (lv_at hl 4 rfl) ?_
  refine lv_aload_n hx hb dX8_put_41 rfl (lv_at hl 0 rfl) ?_
  refine g_geti X w fg_X8_126 KD_35 FR_35_9 dX8_put_42 ?_
  refine g_icmp_ge (tgt := 82) X hv4 (w.2.2 _ _) dX8_put_45 (by decide) (fun cd => ?_) (fun cd => ?_)
  · replace hf := ite_t cd hf
    exact HE v4 M _ _ _ (Option.some.inj hf).symm hv4 hl w
  · replace hf := ite_f cd hf
    refine lv_aload_n hx hb dX8_put_48 rfl (lv_at hl 0 rfl) ?_
    refine g_getr X w fg_X8_38 KD_35 FR_35_12 dX8_put_49 ?_
    refine lv_iload hx hb dX8_put_52 (lv_at hl 4 rfl) ?_
    refine g_iconst X dX8_put_54 ?_
    refine g_imul X dX8_put_55 ?_
    refine lv_iload_n hx hb dX8_put_56 rfl (lv_at hl 2 rfl) ?_
    refine g_iadd X dX8_put_57 ?_
    refine lv_dup2_11 hx hb dX8_put_58 rfl rfl ?_
    obtain ⟨hg, hf⟩ := gd_some hf
    refine g_iald X w KD_44 (inR_wrap _) hg dX8_put_59 ?_
    refine lv_iload_n hx hb dX8_put_60 rfl (lv_at hl 3 rfl) ?_
    refine lv_aload_n hx hb dX8_put_61 rfl (lv_at hl 0 rfl) ?_
    refine g_getr X w fg_X8_35 KD_35 FR_35_11 dX8_put_62 ?_
    refine lv_iload hx hb dX8_put_65 (lv_at hl 4 rfl) ?_
    refine g_bipush X dX8_put_67 (by decide) ?_
    refine g_imul X dX8_put_69 ?_
    refine lv_iload_n hx hb dX8_put_70 rfl (lv_at hl 1 rfl) ?_
    refine g_iadd X dX8_put_71 ?_
    obtain ⟨hg_2, hf⟩ := gd_some hf
    refine g_iald X w KD_43 (inR_wrap _) hg_2 dX8_put_72 ?_
    refine g_imul X dX8_put_73 ?_
    refine g_iadd X dX8_put_74 ?_
    obtain ⟨hg_3, hf⟩ := gd_some hf
    obtain ⟨M_2, eM_2, hf⟩ := lt_some hf
    refine g_iast X w KD_44 (inR_wrap _) hg_3 (inR_wrap _) dX8_put_75 (fun H locs w_M_2 => ?_)
    rw [← eM_2] at w_M_2
    obtain ⟨v4_2, ev4_2, hf⟩ := lt_some hf
    have hv4_2 : inR v4_2 := inR_of ev4_2 (inR_wrap _)
    refine lv_iinc (v := i2 v4_2) (lv' := [(4, .int (i2 v4_2)), (0, .ref (ad 35)), (1, .int (i2 v1)), (2, .int (i2 v2)), (3, .int (i2 v3))]) hx hb dX8_put_76 hl (k := 4) rfl (by rw [ev4_2]; exact i2_add _ _) (by decide) rfl (fun ls hl => ?_)
    refine lv_goto (tgt := 39) hx hb dX8_put_79 (by decide) ?_
    exact HC v4_2 M_2 _ _ _ (Option.some.inj hf).symm hv4_2 (lv_sub hl [1, 2, 3, 4, 0] rfl) w_M_2
set_option maxRecDepth 100000 in
set_option maxHeartbeats 4000000 in
theorem l_X8_put_39 (X : CX p s m args c cX8_put 5 RX8 D aC ad sg A H0) (v1 : Int) (hv1 : inR v1) (v2 : Int) (hv2 : inR v2) (v3 : Int) (hv3 : inR v3) {out : Int × Mem} (HE : ∀ (y4 : Int) (M1 : Mem) (H : Heap) (locs : List Loc) (ls : Array Slot), out = (y4, M1) → inR y4 → lv_has ls 5 [(0, .ref (ad 35)), (1, .int (i2 v1)), (2, .int (i2 v2)), (3, .int (i2 v3)), (4, .int (i2 y4))] → WS D aC ad A H0 M1 H locs → W p l e rm_X8_put s m args below meth c H locs 0 0 Q (F0 m 82 ls [])) : ∀ (n : Nat) (v4 : Int) (M : Mem), whl (fun s => f_X8_put_s39 v1 v2 v3 s.1 s.2) n (v4, M) = some out → inR v4 → ∀ {H : Heap} {locs : List Loc} {ls : Array Slot}, lv_has ls 5 [(0, .ref (ad 35)), (1, .int (i2 v1)), (2, .int (i2 v2)), (3, .int (i2 v3)), (4, .int (i2 v4))] → WS D aC ad A H0 M H locs → W p l e rm_X8_put s m args below meth c H locs 0 0 Q (F0 m 39 ls []) := by
  intro n
  induction n with
  | zero => intro v4 M hf; exact (whl_zero hf).elim
  | succ n ih =>
    intro v4 M hf hv4 H locs ls hl w
    obtain ⟨o, hf, hk1, hk2⟩ := whl_step hf
    exact b_X8_put_s39 X v1 hv1 v2 hv2 v3 hv3 (fun y4 M1 H locs ls eo hy4 hl w => ih y4 M1 (hk1 _ eo) hy4 hl w) (fun y4 M1 H locs ls eo hy4 hl w => HE y4 M1 H locs ls (hk2 _ eo).symm hy4 hl w) v4 hv4 M hf hl w
set_option maxRecDepth 100000 in
set_option maxHeartbeats 4000000 in
theorem b_X8_put_j82 (X : CX p s m args c cX8_put 5 RX8 D aC ad sg A H0) {o : Mem} (HR : ∀ (M1 : Mem) (H : Heap) (locs : List Loc) (pc : Nat) (ls : Array Slot), o = M1 → WS D aC ad A H0 M1 H locs → decode cX8_put pc = .ok (.return_, 1) → W p l e rm_X8_put s m args below meth c H locs 0 0 Q (F0 m pc ls [])) (M : Mem) (hf : f_X8_put_j82 M = some o) {H : Heap} {locs : List Loc} {ls : Array Slot} (hl : lv_has ls 5 []) (w : WS D aC ad A H0 M H locs) : W p l e rm_X8_put s m args below meth c H locs 0 0 Q (F0 m 82 ls []) := by
  have hx := X.1.1
  have hb := X.1.2.1
  unfold f_X8_put_j82 at hf
  exact HR M _ _ _ _ (Option.some.inj hf).symm w dX8_put_82
set_option maxRecDepth 100000 in
set_option maxHeartbeats 4000000 in
theorem b_X8_put_0 (X : CX p s m args c cX8_put 5 RX8 D aC ad sg A H0) {o : Mem} (HR : ∀ (M1 : Mem) (H : Heap) (locs : List Loc) (pc : Nat) (ls : Array Slot), o = M1 → WS D aC ad A H0 M1 H locs → decode cX8_put pc = .ok (.return_, 1) → W p l e rm_X8_put s m args below meth c H locs 0 0 Q (F0 m pc ls [])) (p1 : Int) (hp1 : inR p1) (p2 : Int) (hp2 : inR p2) (p3 : Int) (hp3 : inR p3) (M : Mem) (hf : f_X8_put p1 p2 p3 M = some o) {H : Heap} {locs : List Loc} {ls : Array Slot} (hl : lv_has ls 5 [(0, .ref (ad 35)), (1, .int (i2 p1)), (2, .int (i2 p2)), (3, .int (i2 p3))]) (w : WS D aC ad A H0 M H locs) : W p l e rm_X8_put s m args below meth c H locs 0 0 Q (F0 m 0 ls []) := by
  have hx := X.1.1
  have hb := X.1.2.1
  unfold f_X8_put at hf
  refine lv_aload_n hx hb dX8_put_0 rfl (lv_at hl 0 rfl) ?_
  refine g_getr X w fg_X8_44 KD_35 FR_35_14 dX8_put_1 ?_
  refine lv_iload_n hx hb dX8_put_4 rfl (lv_at hl 1 rfl) ?_
  refine lv_iload_n hx hb dX8_put_5 rfl (lv_at hl 2 rfl) ?_
  obtain ⟨hg, hf⟩ := gd_some hf
  obtain ⟨M_2, eM_2, hf⟩ := lt_some hf
  refine g_iast X w KD_46 hp1 hg hp2 dX8_put_6 (fun H locs w_M_2 => ?_)
  rw [← eM_2] at w_M_2
  refine lv_aload_n hx hb dX8_put_7 rfl (lv_at hl 0 rfl) ?_
  refine g_getr X w_M_2 fg_X8_41 KD_35 FR_35_13 dX8_put_8 ?_
  refine lv_iload_n hx hb dX8_put_11 rfl (lv_at hl 2 rfl) ?_
  refine lv_dup2_11 hx hb dX8_put_12 rfl rfl ?_
  obtain ⟨hg_2, hf⟩ := gd_some hf
  refine g_iald X w_M_2 KD_45 hp2 hg_2 dX8_put_13 ?_
  refine g_iconst X dX8_put_14 ?_
  refine lv_iload_n hx hb dX8_put_15 rfl (lv_at hl 1 rfl) ?_
  refine g_ishl X dX8_put_16 ?_
  refine g_ixor X dX8_put_17 ?_
  obtain ⟨hg_3, hf⟩ := gd_some hf
  obtain ⟨M_3, eM_3, hf⟩ := lt_some hf
  refine g_iast X w_M_2 KD_45 hp2 hg_3 (inR_toInt _) dX8_put_18 (fun H locs w_M_3 => ?_)
  rw [← eM_3] at w_M_3
  refine lv_aload_n hx hb dX8_put_19 rfl (lv_at hl 0 rfl) ?_
  refine lv_dup hx hb dX8_put_20 rfl ?_
  refine g_geti X w_M_3 fg_X8_81 KD_35 FR_35_16 dX8_put_21 ?_
  refine lv_iload_n hx hb dX8_put_24 rfl (lv_at hl 3 rfl) ?_
  refine lv_aload_n hx hb dX8_put_25 rfl (lv_at hl 0 rfl) ?_
  refine lv_iload_n hx hb dX8_put_26 rfl (lv_at hl 1 rfl) ?_
  refine lv_iload_n hx hb dX8_put_27 rfl (lv_at hl 2 rfl) ?_
  obtain ⟨r, hc, hf⟩ := obn_some hf
  refine g_cvi (As := [.int (i2 p1), .int (i2 p2)]) (rest := [.int (i2 p3), .int (i2 (M_3 35 16)), .ref (ad 35)]) X w_M_3 (k_X8_movesOf X.2.2.1 p1 hp1 p2 hp2 w_M_3.2.2 hc) lk_X8_162 cl_8 KD_35 ⟨rfl, rfl⟩ ⟨nle rfl, nle rfl⟩ ⟨nle rfl, nle rfl⟩ hl.1 rfl (nle rfl) dX8_put_28 (fun hr H locs w_M_3 => ?_)
  refine g_imul X dX8_put_31 ?_
  refine g_iadd X dX8_put_32 ?_
  obtain ⟨M_4, eM_4, hf⟩ := lt_some hf
  refine g_puti X w_M_3 fp_X8_81 KD_35 FR_35_16 (inR_wrap _) dX8_put_33 (fun H locs w_M_4 => ?_)
  rw [← eM_4] at w_M_4
  refine g_iconst X dX8_put_36 ?_
  refine g_ist (v := 0) (lv' := [(4, .int (i2 0)), (0, .ref (ad 35)), (1, .int (i2 p1)), (2, .int (i2 p2)), (3, .int (i2 p3))]) X rfl dX8_put_37 hl (by decide) rfl (fun ls hl => ?_)
  obtain ⟨q, hq, h1⟩ := obn_some hf
  exact l_X8_put_39 X p1 hp1 p2 hp2 p3 hp3 (out := q) (fun y4 M1 H locs ls eq hy4 hl w => b_X8_put_j82 X  HR M1 (by subst eq; exact h1) (lv_sub hl [] rfl) w)  FU 0 M_4 hq (inL rfl) (lv_sub hl [1, 2, 3, 4, 0] rfl) w_M_4
set_option maxRecDepth 100000 in
set_option maxHeartbeats 4000000 in
theorem k_X8_put {l : Launch} {D : va_G} {aC : Nat → ClassId} {ad : Nat → Nat} {sg : SG} (hi : Inj ad) (p1 : Int) (hp1 : inR p1) (p2 : Int) (hp2 : inR p2) (p3 : Int) (hp3 : inR p3) {M : Mem} (hM : inM M) {M' : Mem} (hf : f_X8_put p1 p2 p3 M = some M') : MetV l D aC ad sg yX8_put cX8_put 5 rm_X8_put 0 0 [.ref (ad 35), .int (i2 p1), .int (i2 p2), .int (i2 p3)] M M' := by
  refine MetV.of (by decide +kernel) (nle rfl) hi hM (fun p e s m args below meth c Q H0 ls X hl w hret => ?_)
  exact b_X8_put_0 X  (fun M1 H locs pc ls eo w dg => by cases eo; exact hret H locs pc ls w dg) p1 hp1 p2 hp2 p3 hp3 M hf hl w
set_option maxRecDepth 100000 in
set_option maxHeartbeats 4000000 in
theorem b_X8_assign_s15 (X : CX p s m args c cX8_assign 3 RX8 D aC ad sg A H0) (d : Nat) (rec : Int → Mem → Option Mem) (hrec : ∀ (q : Int), inR q → ∀ {M1 M2 : Mem}, inM M1 → rec q M1 = some M2 → MetV l D aC ad sg yX8_assign cX8_assign 3 (rmr_X8_assign d) 0 0 [.ref (ad 35), .int (i2 q)] M1 M2) (v1 : Int) (hv1 : inR v1) {o : (Int × Mem) ⊕ (Int × Mem)} (HC : ∀ (y2 : Int) (M1 : Mem) (H : Heap) (locs : List Loc) (ls : Array Slot), o = .inl (y2, M1) → inR y2 → lv_has ls 3 [(0, .ref (ad 35)), (1, .int (i2 v1)), (2, .int (i2 y2))] → WS D aC ad A H0 M1 H locs → W p l e (rmr_X8_assign (d + 1)) s m args below meth c H locs 0 0 Q (F0 m 15 ls [])) (HE : ∀ (y2 : Int) (M1 : Mem) (H : Heap) (locs : List Loc) (ls : Array Slot), o = .inr (y2, M1) → inR y2 → lv_has ls 3 [(0, .ref (ad 35)), (1, .int (i2 v1)), (2, .int (i2 y2))] → WS D aC ad A H0 M1 H locs → W p l e (rmr_X8_assign (d + 1)) s m args below meth c H locs 0 0 Q (F0 m 77 ls [])) (v2 : Int) (hv2 : inR v2) (M : Mem) (hf : f_X8_assign_s15 d rec v1 v2 M = some o) {H : Heap} {locs : List Loc} {ls : Array Slot} (hl : lv_has ls 3 [(0, .ref (ad 35)), (1, .int (i2 v1)), (2, .int (i2 v2))]) (w : WS D aC ad A H0 M H locs) : W p l e (rmr_X8_assign (d + 1)) s m args below meth c H locs 0 0 Q (F0 m 15 ls []) := by
  have hx := X.1.1
  have hb := X.1.2.1
  unfold f_X8_assign_s15 at hf
  refine lv_iload_n hx hb dX8_assign_15 rfl (lv_at hl 2 rfl) ?_
  refine lv_aload_n hx hb dX8_assign_16 rfl (lv_at hl 0 rfl) ?_
  refine g_getr X w fg_X8_50 KD_35 FR_35_0 dX8_assign_17 ?_
  refine g_geti X w fg_X8_98 KD_3 FR_3_13 dX8_assign_20 ?_
  refine g_icmp_ge (tgt := 77) X hv2 (w.2.2 _ _) dX8_assign_23 (by decide) (fun cd => ?_) (fun cd => ?_)
  · replace hf := ite_t cd hf
    exact HE v2 M _ _ _ (Option.some.inj hf).symm hv2 hl w
  · replace hf := ite_f cd hf
    refine lv_aload_n hx hb dX8_assign_26 rfl (lv_at hl 0 rfl) ?_
    obtain ⟨r, hc, hf⟩ := obn_some hf
    refine g_cvi (As := []) (rest := []) X w (k_X8_isPerfect X.2.2.1  w.2.2 hc) lk_X8_142 cl_8 KD_35 ⟨rfl, rfl⟩ ⟨Nat.le_trans (m := 3) (nle rfl) (Nat.le_add_left 3 (d + 1)), Nat.le_trans (m := 200) (nle rfl) (Nat.le_add_left 200 _)⟩ ⟨nle rfl, nle rfl⟩ hl.1 rfl (nle rfl) dX8_assign_27 (fun hr H locs w => ?_)
    refine g_if_ne (tgt := 77) X hr dX8_assign_30 (by decide) (fun cd_2 => ?_) (fun cd_2 => ?_)
    · replace hf := ite_f cd_2 hf
      exact HE v2 M _ _ _ (Option.some.inj hf).symm hv2 hl w
    · replace hf := ite_t cd_2 hf
      refine lv_aload_n hx hb dX8_assign_33 rfl (lv_at hl 0 rfl) ?_
      refine lv_iload_n hx hb dX8_assign_34 rfl (lv_at hl 2 rfl) ?_
      obtain ⟨r_2, hc, hf⟩ := obn_some hf
      refine g_cvi (As := [.int (i2 v2)]) (rest := []) X w (k_X8_isRepeat X.2.2.1 v2 hv2 w.2.2 hc) lk_X8_146 cl_8 KD_35 ⟨rfl, rfl⟩ ⟨Nat.le_trans (m := 3) (nle rfl) (Nat.le_add_left 3 (d + 1)), Nat.le_trans (m := 200) (nle rfl) (Nat.le_add_left 200 _)⟩ ⟨nle rfl, nle rfl⟩ hl.1 rfl (nle rfl) dX8_assign_35 (fun hr_2 H locs w => ?_)
      refine g_if_ne (tgt := 71) X hr_2 dX8_assign_38 (by decide) (fun cd_3 => ?_) (fun cd_3 => ?_)
      · replace hf := ite_f cd_3 hf
        obtain ⟨v2_2, ev2_2, hf⟩ := lt_some hf
        have hv2_2 : inR v2_2 := inR_of ev2_2 (inR_wrap _)
        refine lv_iinc (v := i2 v2_2) (lv' := [(2, .int (i2 v2_2)), (0, .ref (ad 35)), (1, .int (i2 v1))]) hx hb dX8_assign_71 hl (k := 2) rfl (by rw [ev2_2]; exact i2_add _ _) (by decide) rfl (fun ls hl => ?_)
        refine lv_goto (tgt := 15) hx hb dX8_assign_74 (by decide) ?_
        exact HC v2_2 M _ _ _ (Option.some.inj hf).symm hv2_2 (lv_sub hl [1, 2, 0] rfl) w
      · replace hf := ite_t cd_3 hf
        refine lv_aload_n hx hb dX8_assign_41 rfl (lv_at hl 0 rfl) ?_
        refine lv_iload_n hx hb dX8_assign_42 rfl (lv_at hl 1 rfl) ?_
        refine lv_iload_n hx hb dX8_assign_43 rfl (lv_at hl 2 rfl) ?_
        obtain ⟨r_3, hc, hf⟩ := obn_some hf
        refine g_cvi (As := [.int (i2 v1), .int (i2 v2)]) (rest := []) X w (k_X8_mayJoin X.2.2.1 v1 hv1 v2 hv2 w.2.2 hc) lk_X8_149 cl_8 KD_35 ⟨rfl, rfl⟩ ⟨Nat.le_trans (m := 3) (nle rfl) (Nat.le_add_left 3 (d + 1)), Nat.le_trans (m := 200) (nle rfl) (Nat.le_add_left 200 _)⟩ ⟨nle rfl, nle rfl⟩ hl.1 rfl (nle rfl) dX8_assign_44 (fun hr_3 H locs w => ?_)
        refine g_if_eq (tgt := 71) X hr_3 dX8_assign_47 (by decide) (fun cd_4 => ?_) (fun cd_4 => ?_)
        · replace hf := ite_t cd_4 hf
          obtain ⟨v2_3, ev2_3, hf⟩ := lt_some hf
          have hv2_3 : inR v2_3 := inR_of ev2_3 (inR_wrap _)
          refine lv_iinc (v := i2 v2_3) (lv' := [(2, .int (i2 v2_3)), (0, .ref (ad 35)), (1, .int (i2 v1))]) hx hb dX8_assign_71 hl (k := 2) rfl (by rw [ev2_3]; exact i2_add _ _) (by decide) rfl (fun ls hl => ?_)
          refine lv_goto (tgt := 15) hx hb dX8_assign_74 (by decide) ?_
          exact HC v2_3 M _ _ _ (Option.some.inj hf).symm hv2_3 (lv_sub hl [1, 2, 0] rfl) w
        · replace hf := ite_f cd_4 hf
          refine lv_aload_n hx hb dX8_assign_50 rfl (lv_at hl 0 rfl) ?_
          refine lv_iload_n hx hb dX8_assign_51 rfl (lv_at hl 1 rfl) ?_
          refine lv_iload_n hx hb dX8_assign_52 rfl (lv_at hl 2 rfl) ?_
          refine g_iconst X dX8_assign_53 ?_
          obtain ⟨M_2, hc, hf⟩ := obn_some hf
          refine g_cvv (As := [.int (i2 v1), .int (i2 v2), .int (i2 1)]) (rest := []) X w (k_X8_put X.2.2.1 v1 hv1 v2 hv2 1 (inL rfl) w.2.2 hc) lk_X8_152 cl_8 KD_35 ⟨rfl, rfl⟩ ⟨Nat.le_trans (m := 3) (nle rfl) (Nat.le_add_left 3 (d + 1)), Nat.le_trans (m := 200) (nle rfl) (Nat.le_add_left 200 _)⟩ ⟨nle rfl, nle rfl⟩ hl.1 rfl (nle rfl) dX8_assign_54 (fun H locs w_M_2 => ?_)
          refine lv_aload_n hx hb dX8_assign_57 rfl (lv_at hl 0 rfl) ?_
          refine lv_iload_n hx hb dX8_assign_58 rfl (lv_at hl 1 rfl) ?_
          refine g_iconst X dX8_assign_59 ?_
          refine g_iadd X dX8_assign_60 ?_
          obtain ⟨M_3, hc, hf⟩ := obn_some hf
          refine g_csv (As := [.ref (ad 35), .int (i2 (wrap (v1 + 1)))]) (rest := []) X w_M_2 (hrec (wrap (v1 + 1)) (inR_wrap _) w_M_2.2.2 hc) lk_X8_90 ⟨rfl, rfl⟩ ⟨(by show d + 3 + 1 ≤ (d + 1) + 3; omega), (by show 8 + (3 + 11) + ((d + 1) * 22 + 200) ≤ ((d + 1) + 1) * 22 + 200; omega)⟩ ⟨nle rfl, nle rfl⟩ hl.1 rfl (nle rfl) dX8_assign_61 (fun H locs w_M_3 => ?_)
          refine lv_aload_n hx hb dX8_assign_64 rfl (lv_at hl 0 rfl) ?_
          refine lv_iload_n hx hb dX8_assign_65 rfl (lv_at hl 1 rfl) ?_
          refine lv_iload_n hx hb dX8_assign_66 rfl (lv_at hl 2 rfl) ?_
          refine g_iconst X dX8_assign_67 ?_
          obtain ⟨M_4, hc, hf⟩ := obn_some hf
          refine g_cvv (As := [.int (i2 v1), .int (i2 v2), .int (i2 (-1))]) (rest := []) X w_M_3 (k_X8_put X.2.2.1 v1 hv1 v2 hv2 (-1) (inL rfl) w_M_3.2.2 hc) lk_X8_152 cl_8 KD_35 ⟨rfl, rfl⟩ ⟨Nat.le_trans (m := 3) (nle rfl) (Nat.le_add_left 3 (d + 1)), Nat.le_trans (m := 200) (nle rfl) (Nat.le_add_left 200 _)⟩ ⟨nle rfl, nle rfl⟩ hl.1 rfl (nle rfl) dX8_assign_68 (fun H locs w_M_4 => ?_)
          obtain ⟨v2_4, ev2_4, hf⟩ := lt_some hf
          have hv2_4 : inR v2_4 := inR_of ev2_4 (inR_wrap _)
          refine lv_iinc (v := i2 v2_4) (lv' := [(2, .int (i2 v2_4)), (0, .ref (ad 35)), (1, .int (i2 v1))]) hx hb dX8_assign_71 hl (k := 2) rfl (by rw [ev2_4]; exact i2_add _ _) (by decide) rfl (fun ls hl => ?_)
          refine lv_goto (tgt := 15) hx hb dX8_assign_74 (by decide) ?_
          exact HC v2_4 M_4 _ _ _ (Option.some.inj hf).symm hv2_4 (lv_sub hl [1, 2, 0] rfl) w_M_4
set_option maxRecDepth 100000 in
set_option maxHeartbeats 4000000 in
theorem l_X8_assign_15 (X : CX p s m args c cX8_assign 3 RX8 D aC ad sg A H0) (d : Nat) (rec : Int → Mem → Option Mem) (hrec : ∀ (q : Int), inR q → ∀ {M1 M2 : Mem}, inM M1 → rec q M1 = some M2 → MetV l D aC ad sg yX8_assign cX8_assign 3 (rmr_X8_assign d) 0 0 [.ref (ad 35), .int (i2 q)] M1 M2) (v1 : Int) (hv1 : inR v1) {out : Int × Mem} (HE : ∀ (y2 : Int) (M1 : Mem) (H : Heap) (locs : List Loc) (ls : Array Slot), out = (y2, M1) → inR y2 → lv_has ls 3 [(0, .ref (ad 35)), (1, .int (i2 v1)), (2, .int (i2 y2))] → WS D aC ad A H0 M1 H locs → W p l e (rmr_X8_assign (d + 1)) s m args below meth c H locs 0 0 Q (F0 m 77 ls [])) : ∀ (n : Nat) (v2 : Int) (M : Mem), whl (fun s => f_X8_assign_s15 d rec v1 s.1 s.2) n (v2, M) = some out → inR v2 → ∀ {H : Heap} {locs : List Loc} {ls : Array Slot}, lv_has ls 3 [(0, .ref (ad 35)), (1, .int (i2 v1)), (2, .int (i2 v2))] → WS D aC ad A H0 M H locs → W p l e (rmr_X8_assign (d + 1)) s m args below meth c H locs 0 0 Q (F0 m 15 ls []) := by
  intro n
  induction n with
  | zero => intro v2 M hf; exact (whl_zero hf).elim
  | succ n ih =>
    intro v2 M hf hv2 H locs ls hl w
    obtain ⟨o, hf, hk1, hk2⟩ := whl_step hf
    exact b_X8_assign_s15 X d rec hrec v1 hv1 (fun y2 M1 H locs ls eo hy2 hl w => ih y2 M1 (hk1 _ eo) hy2 hl w) (fun y2 M1 H locs ls eo hy2 hl w => HE y2 M1 H locs ls (hk2 _ eo).symm hy2 hl w) v2 hv2 M hf hl w
set_option maxRecDepth 100000 in
set_option maxHeartbeats 4000000 in
theorem b_X8_assign_j77 (X : CX p s m args c cX8_assign 3 RX8 D aC ad sg A H0) (d : Nat) (rec : Int → Mem → Option Mem) (hrec : ∀ (q : Int), inR q → ∀ {M1 M2 : Mem}, inM M1 → rec q M1 = some M2 → MetV l D aC ad sg yX8_assign cX8_assign 3 (rmr_X8_assign d) 0 0 [.ref (ad 35), .int (i2 q)] M1 M2) {o : Mem} (HR : ∀ (M1 : Mem) (H : Heap) (locs : List Loc) (pc : Nat) (ls : Array Slot), o = M1 → WS D aC ad A H0 M1 H locs → decode cX8_assign pc = .ok (.return_, 1) → W p l e (rmr_X8_assign (d + 1)) s m args below meth c H locs 0 0 Q (F0 m pc ls [])) (M : Mem) (hf : f_X8_assign_j77 d rec M = some o) {H : Heap} {locs : List Loc} {ls : Array Slot} (hl : lv_has ls 3 []) (w : WS D aC ad A H0 M H locs) : W p l e (rmr_X8_assign (d + 1)) s m args below meth c H locs 0 0 Q (F0 m 77 ls []) := by
  have hx := X.1.1
  have hb := X.1.2.1
  unfold f_X8_assign_j77 at hf
  exact HR M _ _ _ _ (Option.some.inj hf).symm w dX8_assign_77
set_option maxRecDepth 100000 in
set_option maxHeartbeats 4000000 in
theorem b_X8_assign_0 (X : CX p s m args c cX8_assign 3 RX8 D aC ad sg A H0) (d : Nat) (rec : Int → Mem → Option Mem) (hrec : ∀ (q : Int), inR q → ∀ {M1 M2 : Mem}, inM M1 → rec q M1 = some M2 → MetV l D aC ad sg yX8_assign cX8_assign 3 (rmr_X8_assign d) 0 0 [.ref (ad 35), .int (i2 q)] M1 M2) {o : Mem} (HR : ∀ (M1 : Mem) (H : Heap) (locs : List Loc) (pc : Nat) (ls : Array Slot), o = M1 → WS D aC ad A H0 M1 H locs → decode cX8_assign pc = .ok (.return_, 1) → W p l e (rmr_X8_assign (d + 1)) s m args below meth c H locs 0 0 Q (F0 m pc ls [])) (p1 : Int) (hp1 : inR p1) (M : Mem) (hf : f_X8_assign_b d rec p1 M = some o) {H : Heap} {locs : List Loc} {ls : Array Slot} (hl : lv_has ls 3 [(0, .ref (ad 35)), (1, .int (i2 p1))]) (w : WS D aC ad A H0 M H locs) : W p l e (rmr_X8_assign (d + 1)) s m args below meth c H locs 0 0 Q (F0 m 0 ls []) := by
  have hx := X.1.1
  have hb := X.1.2.1
  unfold f_X8_assign_b at hf
  refine lv_iload_n hx hb dX8_assign_0 rfl (lv_at hl 1 rfl) ?_
  refine lv_aload_n hx hb dX8_assign_1 rfl (lv_at hl 0 rfl) ?_
  refine g_geti X w fg_X8_58 KD_35 FR_35_2 dX8_assign_2 ?_
  refine g_icmp_lt (tgt := 13) X hp1 (w.2.2 _ _) dX8_assign_5 (by decide) (fun cd => ?_) (fun cd => ?_)
  · replace hf := ite_t cd hf
    refine g_iconst X dX8_assign_13 ?_
    refine g_istn (v := 0) (lv' := [(2, .int (i2 0)), (0, .ref (ad 35)), (1, .int (i2 p1))]) X rfl dX8_assign_14 rfl hl (by decide) rfl (fun ls hl => ?_)
    obtain ⟨q, hq, h1⟩ := obn_some hf
    exact l_X8_assign_15 X d rec hrec p1 hp1 (out := q) (fun y2 M1 H locs ls eq hy2 hl w => b_X8_assign_j77 X d rec hrec HR M1 (by subst eq; exact h1) (lv_sub hl [] rfl) w)  FU 0 M hq (inL rfl) (lv_sub hl [1, 2, 0] rfl) w
  · replace hf := ite_f cd hf
    refine lv_aload_n hx hb dX8_assign_8 rfl (lv_at hl 0 rfl) ?_
    obtain ⟨M_2, hc, hf⟩ := obn_some hf
    refine g_cvv (As := []) (rest := []) X w (k_X8_weigh X.2.2.1  w.2.2 hc) lk_X8_139 cl_8 KD_35 ⟨rfl, rfl⟩ ⟨Nat.le_trans (m := 3) (nle rfl) (Nat.le_add_left 3 (d + 1)), Nat.le_trans (m := 200) (nle rfl) (Nat.le_add_left 200 _)⟩ ⟨nle rfl, nle rfl⟩ hl.1 rfl (nle rfl) dX8_assign_9 (fun H locs w_M_2 => ?_)
    exact HR M_2 _ _ _ _ (Option.some.inj hf).symm w_M_2 dX8_assign_12
set_option maxRecDepth 100000 in
set_option maxHeartbeats 4000000 in
theorem k_X8_asg {l : Launch} {D : va_G} {aC : Nat → ClassId} {ad : Nat → Nat} {sg : SG} (hi : Inj ad) : ∀ (d : Nat) (p1 : Int), inR p1 → ∀ {M M2 : Mem}, inM M → f_X8_asg d p1 M = some M2 → MetV l D aC ad sg yX8_assign cX8_assign 3 (rmr_X8_assign d) 0 0 [.ref (ad 35), .int (i2 p1)] M M2 := by
  intro d
  induction d with
  | zero => intro p1 _ M M2 _ h; cases h
  | succ d ih =>
    intro p1 hp1 M M2 hM hf
    have hf : f_X8_assign_b d (f_X8_asg d) p1 M = some M2 := hf
    refine MetV.of (rm := rmr_X8_assign (d + 1)) (by decide +kernel) (nle rfl) hi hM (fun p e s m args below meth c Q H0 ls X hl w hret => ?_)
    exact b_X8_assign_0 (l := l) X d (f_X8_asg d) (fun q hq M1 M2 h1 h2 => ih q hq h1 h2) (fun M1 H locs pc ls eo w dg => by cases eo; exact hret H locs pc ls w dg) p1 hp1 M hf hl w
theorem k_X8_assign {l : Launch} {D : va_G} {aC : Nat → ClassId} {ad : Nat → Nat} {sg : SG} (hi : Inj ad) (p1 : Int) (hp1 : inR p1) {M : Mem} (hM : inM M) {M2 : Mem} (hf : f_X8_assign p1 M = some M2) : MetV l D aC ad sg yX8_assign cX8_assign 3 rm_X8_assign 0 0 [.ref (ad 35), .int (i2 p1)] M M2 := k_X8_asg hi 11 p1 hp1 hM hf
set_option maxRecDepth 100000 in
set_option maxHeartbeats 4000000 in
theorem b_X8_run_0 (X : CX p s m args c cX8_run 1 RX8 D aC ad sg A H0) {o : Mem} (HR : ∀ (M1 : Mem) (H : Heap) (locs : List Loc) (pc : Nat) (ls : Array Slot), o = M1 → WS D aC ad A H0 M1 H locs → decode cX8_run pc = .ok (.return_, 1) → W p l e rm_X8_run s m args below meth c H locs 0 0 Q (F0 m pc ls [])) (M : Mem) (hf : f_X8_run M = some o) {H : Heap} {locs : List Loc} {ls : Array Slot} (hl : lv_has ls 1 [(0, .ref (ad 35))]) (w : WS D aC ad A H0 M H locs) : W p l e rm_X8_run s m args below meth c H locs 0 0 Q (F0 m 0 ls []) := by
  have hx := X.1.1
  have hb := X.1.2.1
  unfold f_X8_run at hf
  refine lv_aload_n hx hb dX8_run_0 rfl (lv_at hl 0 rfl) ?_
  obtain ⟨M_2, hc, hf⟩ := obn_some hf
  refine g_cvv (As := []) (rest := []) X w (k_X8_readSets X.2.2.1  w.2.2 hc) lk_X8_66 cl_8 KD_35 ⟨rfl, rfl⟩ ⟨nle rfl, nle rfl⟩ ⟨nle rfl, nle rfl⟩ hl.1 rfl (nle rfl) dX8_run_1 (fun H locs w_M_2 => ?_)
  refine lv_aload_n hx hb dX8_run_4 rfl (lv_at hl 0 rfl) ?_
  obtain ⟨M_3, hc, hf⟩ := obn_some hf
  refine g_cvv (As := []) (rest := []) X w_M_2 (k_X8_readTwins X.2.2.1  w_M_2.2.2 hc) lk_X8_69 cl_8 KD_35 ⟨rfl, rfl⟩ ⟨nle rfl, nle rfl⟩ ⟨nle rfl, nle rfl⟩ hl.1 rfl (nle rfl) dX8_run_5 (fun H locs w_M_3 => ?_)
  refine lv_aload_n hx hb dX8_run_8 rfl (lv_at hl 0 rfl) ?_
  obtain ⟨M_4, hc, hf⟩ := obn_some hf
  refine g_cvv (As := []) (rest := []) X w_M_3 (k_X8_readSpreads X.2.2.1  w_M_3.2.2 hc) lk_X8_72 cl_8 KD_35 ⟨rfl, rfl⟩ ⟨nle rfl, nle rfl⟩ ⟨nle rfl, nle rfl⟩ hl.1 rfl (nle rfl) dX8_run_9 (fun H locs w_M_4 => ?_)
  refine lv_aload_n hx hb dX8_run_12 rfl (lv_at hl 0 rfl) ?_
  refine g_getr X w_M_4 fg_X8_41 KD_35 FR_35_13 dX8_run_13 ?_
  refine g_iconst X dX8_run_16 ?_
  obtain ⟨M_5, hc, hf⟩ := obn_some hf
  refine g_csv (As := [.ref (ad 45), .int (i2 0)]) (rest := []) X w_M_4 (k_J7_fill_53178 X.2.2.1 45 KA_45 0 (inL rfl) w_M_4.2.2 hc) lk_X8_75 ⟨rfl, rfl⟩ ⟨nle rfl, nle rfl⟩ ⟨nle rfl, nle rfl⟩ hl.1 rfl (nle rfl) dX8_run_17 (fun H locs w_M_5 => ?_)
  refine lv_aload_n hx hb dX8_run_20 rfl (lv_at hl 0 rfl) ?_
  refine g_iconst X dX8_run_21 ?_
  obtain ⟨M_6, eM_6, hf⟩ := lt_some hf
  refine g_puti X w_M_5 fp_X8_81 KD_35 FR_35_16 (inL rfl) dX8_run_22 (fun H locs w_M_6 => ?_)
  rw [← eM_6] at w_M_6
  refine lv_aload_n hx hb dX8_run_25 rfl (lv_at hl 0 rfl) ?_
  refine g_iconst X dX8_run_26 ?_
  obtain ⟨M_7, eM_7, hf⟩ := lt_some hf
  refine g_puti X w_M_6 fp_X8_84 KD_35 FR_35_18 (inL rfl) dX8_run_27 (fun H locs w_M_7 => ?_)
  rw [← eM_7] at w_M_7
  refine lv_aload_n hx hb dX8_run_30 rfl (lv_at hl 0 rfl) ?_
  refine g_iconst X dX8_run_31 ?_
  obtain ⟨M_8, eM_8, hf⟩ := lt_some hf
  refine g_puti X w_M_7 fp_X8_87 KD_35 FR_35_19 (inL rfl) dX8_run_32 (fun H locs w_M_8 => ?_)
  rw [← eM_8] at w_M_8
  refine lv_aload_n hx hb dX8_run_35 rfl (lv_at hl 0 rfl) ?_
  refine g_iconst X dX8_run_36 ?_
  obtain ⟨M_9, hc, hf⟩ := obn_some hf
  refine g_csv (As := [.ref (ad 35), .int (i2 0)]) (rest := []) X w_M_8 (k_X8_assign X.2.2.1 0 (inL rfl) w_M_8.2.2 hc) lk_X8_90 ⟨rfl, rfl⟩ ⟨nle rfl, nle rfl⟩ ⟨nle rfl, nle rfl⟩ hl.1 rfl (nle rfl) dX8_run_37 (fun H locs w_M_9 => ?_)
  exact HR M_9 _ _ _ _ (Option.some.inj hf).symm w_M_9 dX8_run_40
set_option maxRecDepth 100000 in
set_option maxHeartbeats 4000000 in
theorem k_X8_run {l : Launch} {D : va_G} {aC : Nat → ClassId} {ad : Nat → Nat} {sg : SG} (hi : Inj ad)  {M : Mem} (hM : inM M) {M' : Mem} (hf : f_X8_run M = some M') : MetV l D aC ad sg yX8_run cX8_run 1 rm_X8_run 0 0 [.ref (ad 35)] M M' := by
  refine MetV.of (by decide +kernel) (nle rfl) hi hM (fun p e s m args below meth c Q H0 ls X hl w hret => ?_)
  exact b_X8_run_0 X  (fun M1 H locs pc ls eo w dg => by cases eo; exact hret H locs pc ls w dg) M hf hl w
set_option maxRecDepth 100000 in
set_option maxHeartbeats 4000000 in
theorem b_X8_seatOf_s2 (X : CX p s m args c cX8_seatOf 3 RX8 D aC ad sg A H0) (v1 : Int) (hv1 : inR v1) {M : Mem} {o : (Int) ⊕ ((Int) ⊕ (Int))} (HC : ∀ (y2 : Int) (H : Heap) (locs : List Loc) (ls : Array Slot), o = .inl y2 → inR y2 → lv_has ls 3 [(0, .ref (ad 35)), (1, .int (i2 v1)), (2, .int (i2 y2))] → WS D aC ad A H0 M H locs → W p l e rm_X8_seatOf s m args below meth c H locs 0 0 Q (F0 m 2 ls [])) (HE : ∀ (y2 : Int) (H : Heap) (locs : List Loc) (ls : Array Slot), o = .inr (.inl y2) → inR y2 → lv_has ls 3 [(0, .ref (ad 35)), (1, .int (i2 v1)), (2, .int (i2 y2))] → WS D aC ad A H0 M H locs → W p l e rm_X8_seatOf s m args below meth c H locs 0 0 Q (F0 m 33 ls [])) (HR : ∀ (r : Int) (H : Heap) (locs : List Loc) (pc : Nat) (ls : Array Slot), o = .inr (.inr r) → inR r → WS D aC ad A H0 M H locs → decode cX8_seatOf pc = .ok (.ireturn, 1) → W p l e rm_X8_seatOf s m args below meth c H locs 0 0 Q (F0 m pc ls [.int (i2 r)])) (v2 : Int) (hv2 : inR v2) (hf : f_X8_seatOf_s2 v1 M v2 = some o) {H : Heap} {locs : List Loc} {ls : Array Slot} (hl : lv_has ls 3 [(0, .ref (ad 35)), (1, .int (i2 v1)), (2, .int (i2 v2))]) (w : WS D aC ad A H0 M H locs) : W p l e rm_X8_seatOf s m args below meth c H locs 0 0 Q (F0 m 2 ls []) := by
  have hx := X.1.1
  have hb := X.1.2.1
  unfold f_X8_seatOf_s2 at hf
  refine lv_iload_n hx hb dX8_seatOf_2 rfl (lv_at hl 2 rfl) ?_
  refine lv_aload_n hx hb dX8_seatOf_3 rfl (lv_at hl 0 rfl) ?_
  refine g_geti X w fg_X8_58 KD_35 FR_35_2 dX8_seatOf_4 ?_
  refine g_icmp_ge (tgt := 33) X hv2 (w.2.2 _ _) dX8_seatOf_7 (by decide) (fun cd => ?_) (fun cd => ?_)
  · replace hf := ite_t cd hf
    exact HE v2 _ _ _ (Option.some.inj hf).symm hv2 hl w
  · replace hf := ite_f cd hf
    refine lv_aload_n hx hb dX8_seatOf_10 rfl (lv_at hl 0 rfl) ?_
    refine g_getr X w fg_X8_11 KD_35 FR_35_3 dX8_seatOf_11 ?_
    refine lv_iload_n hx hb dX8_seatOf_14 rfl (lv_at hl 2 rfl) ?_
    obtain ⟨hg, hf⟩ := gd_some hf
    refine g_iald X w KD_36 hv2 hg dX8_seatOf_15 ?_
    refine lv_iload_n hx hb dX8_seatOf_16 rfl (lv_at hl 1 rfl) ?_
    refine g_icmp_ne (tgt := 27) X (w.2.2 _ _) hv1 dX8_seatOf_17 (by decide) (fun cd_2 => ?_) (fun cd_2 => ?_)
    · replace hf := ite_f cd_2 hf
      obtain ⟨v2_2, ev2_2, hf⟩ := lt_some hf
      have hv2_2 : inR v2_2 := inR_of ev2_2 (inR_wrap _)
      refine lv_iinc (v := i2 v2_2) (lv' := [(2, .int (i2 v2_2)), (0, .ref (ad 35)), (1, .int (i2 v1))]) hx hb dX8_seatOf_27 hl (k := 2) rfl (by rw [ev2_2]; exact i2_add _ _) (by decide) rfl (fun ls hl => ?_)
      refine lv_goto (tgt := 2) hx hb dX8_seatOf_30 (by decide) ?_
      exact HC v2_2 _ _ _ (Option.some.inj hf).symm hv2_2 (lv_sub hl [1, 2, 0] rfl) w
    · replace hf := ite_t cd_2 hf
      refine lv_aload_n hx hb dX8_seatOf_20 rfl (lv_at hl 0 rfl) ?_
      refine g_getr X w fg_X8_47 KD_35 FR_35_15 dX8_seatOf_21 ?_
      refine lv_iload_n hx hb dX8_seatOf_24 rfl (lv_at hl 2 rfl) ?_
      obtain ⟨hg_2, hf⟩ := gd_some hf
      refine g_iald X w KD_47 hv2 hg_2 dX8_seatOf_25 ?_
      exact HR (M 47 v2.toNat) _ _ _ _ (Option.some.inj hf).symm (w.2.2 _ _) w dX8_seatOf_26
set_option maxRecDepth 100000 in
set_option maxHeartbeats 4000000 in
theorem l_X8_seatOf_2 (X : CX p s m args c cX8_seatOf 3 RX8 D aC ad sg A H0) (v1 : Int) (hv1 : inR v1) {M : Mem} {out : (Int) ⊕ (Int)} (HE : ∀ (y2 : Int) (H : Heap) (locs : List Loc) (ls : Array Slot), out = .inl y2 → inR y2 → lv_has ls 3 [(0, .ref (ad 35)), (1, .int (i2 v1)), (2, .int (i2 y2))] → WS D aC ad A H0 M H locs → W p l e rm_X8_seatOf s m args below meth c H locs 0 0 Q (F0 m 33 ls [])) (HR : ∀ (r : Int) (H : Heap) (locs : List Loc) (pc : Nat) (ls : Array Slot), out = .inr r → inR r → WS D aC ad A H0 M H locs → decode cX8_seatOf pc = .ok (.ireturn, 1) → W p l e rm_X8_seatOf s m args below meth c H locs 0 0 Q (F0 m pc ls [.int (i2 r)])) : ∀ (n : Nat) (v2 : Int), whl (fun s => f_X8_seatOf_s2 v1 M s) n v2 = some out → inR v2 → ∀ {H : Heap} {locs : List Loc} {ls : Array Slot}, lv_has ls 3 [(0, .ref (ad 35)), (1, .int (i2 v1)), (2, .int (i2 v2))] → WS D aC ad A H0 M H locs → W p l e rm_X8_seatOf s m args below meth c H locs 0 0 Q (F0 m 2 ls []) := by
  intro n
  induction n with
  | zero => intro v2 hf; exact (whl_zero hf).elim
  | succ n ih =>
    intro v2 hf hv2 H locs ls hl w
    obtain ⟨o, hf, hk1, hk2⟩ := whl_step hf
    exact b_X8_seatOf_s2 X v1 hv1 (fun y2 H locs ls eo hy2 hl w => ih y2 (hk1 _ eo) hy2 hl w) (fun y2 H locs ls eo hy2 hl w => HE y2 H locs ls (hk2 _ eo).symm hy2 hl w) (fun r H locs pc ls eo hP w dg => HR r H locs pc ls (hk2 _ eo).symm hP w dg) v2 hv2 hf hl w
set_option maxRecDepth 100000 in
set_option maxHeartbeats 4000000 in
theorem b_X8_seatOf_j33 (X : CX p s m args c cX8_seatOf 3 RX8 D aC ad sg A H0) {M : Mem} {o : Int} (HR : ∀ (r : Int) (H : Heap) (locs : List Loc) (pc : Nat) (ls : Array Slot), o = r → inR r → WS D aC ad A H0 M H locs → decode cX8_seatOf pc = .ok (.ireturn, 1) → W p l e rm_X8_seatOf s m args below meth c H locs 0 0 Q (F0 m pc ls [.int (i2 r)])) (hf : f_X8_seatOf_j33 M = some o) {H : Heap} {locs : List Loc} {ls : Array Slot} (hl : lv_has ls 3 []) (w : WS D aC ad A H0 M H locs) : W p l e rm_X8_seatOf s m args below meth c H locs 0 0 Q (F0 m 33 ls []) := by
  have hx := X.1.1
  have hb := X.1.2.1
  unfold f_X8_seatOf_j33 at hf
  refine g_iconst X dX8_seatOf_33 ?_
  exact HR (-1) _ _ _ _ (Option.some.inj hf).symm (inL rfl) w dX8_seatOf_34
set_option maxRecDepth 100000 in
set_option maxHeartbeats 4000000 in
theorem b_X8_seatOf_0 (X : CX p s m args c cX8_seatOf 3 RX8 D aC ad sg A H0) {M : Mem} {o : Int} (HR : ∀ (r : Int) (H : Heap) (locs : List Loc) (pc : Nat) (ls : Array Slot), o = r → inR r → WS D aC ad A H0 M H locs → decode cX8_seatOf pc = .ok (.ireturn, 1) → W p l e rm_X8_seatOf s m args below meth c H locs 0 0 Q (F0 m pc ls [.int (i2 r)])) (p1 : Int) (hp1 : inR p1) (hf : f_X8_seatOf p1 M = some o) {H : Heap} {locs : List Loc} {ls : Array Slot} (hl : lv_has ls 3 [(0, .ref (ad 35)), (1, .int (i2 p1))]) (w : WS D aC ad A H0 M H locs) : W p l e rm_X8_seatOf s m args below meth c H locs 0 0 Q (F0 m 0 ls []) := by
  have hx := X.1.1
  have hb := X.1.2.1
  unfold f_X8_seatOf at hf
  refine g_iconst X dX8_seatOf_0 ?_
  refine g_istn (v := 0) (lv' := [(2, .int (i2 0)), (0, .ref (ad 35)), (1, .int (i2 p1))]) X rfl dX8_seatOf_1 rfl hl (by decide) rfl (fun ls hl => ?_)
  obtain ⟨q, hq, h1, h2⟩ := lpr_some hf
  exact l_X8_seatOf_2 X p1 hp1 (out := q) (fun y2 H locs ls eq hy2 hl w => b_X8_seatOf_j33 X  HR  (h1 _ eq) (lv_sub hl [] rfl) w) (fun r H locs pc ls eq hP w dg => HR r H locs pc ls (Option.some.inj (h2 _ eq)).symm hP w dg) FU 0 hq (inL rfl) (lv_sub hl [1, 2, 0] rfl) w
set_option maxRecDepth 100000 in
set_option maxHeartbeats 4000000 in
theorem k_X8_seatOf {l : Launch} {D : va_G} {aC : Nat → ClassId} {ad : Nat → Nat} {sg : SG} (hi : Inj ad) (p1 : Int) (hp1 : inR p1) {M : Mem} (hM : inM M) {r : Int} (hf : f_X8_seatOf p1 M = some r) : MetI l D aC ad sg yX8_seatOf cX8_seatOf 3 (some .int) rm_X8_seatOf 0 0 [.ref (ad 35), .int (i2 p1)] M r M := by
  refine MetI.ofI (by decide +kernel) (nle rfl) hi hM (fun p e s m args below meth c Q H0 ls X hl w hret => ?_)
  exact b_X8_seatOf_0 X  (fun r1 H locs pc ls eo hP w dg => by cases eo; exact hret H locs pc ls hP w dg) p1 hp1 hf hl w
set_option maxRecDepth 100000 in
set_option maxHeartbeats 4000000 in
theorem b_X8_groupOf_s11 (X : CX p s m args c cX8_groupOf 5 RX8 D aC ad sg A H0) (v2 : Int) (hv2 : inR v2) {M : Mem} {o : (Int × Int) ⊕ (Int × Int)} (HC : ∀ (y3 : Int) (y4 : Int) (H : Heap) (locs : List Loc) (ls : Array Slot), o = .inl (y3, y4) → inR y3 → inR y4 → lv_has ls 5 [(0, .ref (ad 35)), (2, .int (i2 v2)), (3, .int (i2 y3)), (4, .int (i2 y4))] → WS D aC ad A H0 M H locs → W p l e rm_X8_groupOf s m args below meth c H locs 0 0 Q (F0 m 11 ls [])) (HE : ∀ (y3 : Int) (y4 : Int) (H : Heap) (locs : List Loc) (ls : Array Slot), o = .inr (y3, y4) → inR y3 → inR y4 → lv_has ls 5 [(0, .ref (ad 35)), (2, .int (i2 v2)), (3, .int (i2 y3)), (4, .int (i2 y4))] → WS D aC ad A H0 M H locs → W p l e rm_X8_groupOf s m args below meth c H locs 0 0 Q (F0 m 49 ls [])) (v3 : Int) (hv3 : inR v3) (v4 : Int) (hv4 : inR v4) (hf : f_X8_groupOf_s11 v2 M v3 v4 = some o) {H : Heap} {locs : List Loc} {ls : Array Slot} (hl : lv_has ls 5 [(0, .ref (ad 35)), (2, .int (i2 v2)), (3, .int (i2 v3)), (4, .int (i2 v4))]) (w : WS D aC ad A H0 M H locs) : W p l e rm_X8_groupOf s m args below meth c H locs 0 0 Q (F0 m 11 ls []) := by
  have hx := X.1.1
  have hb := X.1.2.1
  unfold f_X8_groupOf_s11 at hf
  refine lv_iload hx hb dX8_groupOf_11 (lv_at hl 3 rfl) ?_
  refine lv_aload_n hx hb dX8_groupOf_13 rfl (lv_at hl 0 rfl) ?_
  refine g_geti X w fg_X8_58 KD_35 FR_35_2 dX8_groupOf_14 ?_
  refine g_icmp_ge (tgt := 49) X hv4 (w.2.2 _ _) dX8_groupOf_17 (by decide) (fun cd => ?_) (fun cd => ?_)
  · replace hf := ite_t cd hf
    exact HE v3 v4 _ _ _ (Option.some.inj hf).symm hv3 hv4 hl w
  · replace hf := ite_f cd hf
    refine lv_aload_n hx hb dX8_groupOf_20 rfl (lv_at hl 0 rfl) ?_
    refine g_getr X w fg_X8_47 KD_35 FR_35_15 dX8_groupOf_21 ?_
    refine lv_iload hx hb dX8_groupOf_24 (lv_at hl 3 rfl) ?_
    obtain ⟨hg, hf⟩ := gd_some hf
    refine g_iald X w KD_47 hv4 hg dX8_groupOf_26 ?_
    refine lv_iload_n hx hb dX8_groupOf_27 rfl (lv_at hl 1 rfl) ?_
    refine g_icmp_ne (tgt := 43) X (w.2.2 _ _) hv2 dX8_groupOf_28 (by decide) (fun cd_2 => ?_) (fun cd_2 => ?_)
    · replace hf := ite_f cd_2 hf
      obtain ⟨v4_2, ev4_2, hf⟩ := lt_some hf
      have hv4_2 : inR v4_2 := inR_of ev4_2 (inR_wrap _)
      refine lv_iinc (v := i2 v4_2) (lv' := [(4, .int (i2 v4_2)), (0, .ref (ad 35)), (2, .int (i2 v2)), (3, .int (i2 v3))]) hx hb dX8_groupOf_43 hl (k := 3) rfl (by rw [ev4_2]; exact i2_add _ _) (by decide) rfl (fun ls hl => ?_)
      refine lv_goto (tgt := 11) hx hb dX8_groupOf_46 (by decide) ?_
      exact HC v3 v4_2 _ _ _ (Option.some.inj hf).symm hv3 hv4_2 (lv_sub hl [1, 2, 3, 0] rfl) w
    · replace hf := ite_t cd_2 hf
      refine lv_iload_n hx hb dX8_groupOf_31 rfl (lv_at hl 2 rfl) ?_
      refine g_iconst X dX8_groupOf_32 ?_
      refine lv_aload_n hx hb dX8_groupOf_33 rfl (lv_at hl 0 rfl) ?_
      refine g_getr X w fg_X8_11 KD_35 FR_35_3 dX8_groupOf_34 ?_
      refine lv_iload hx hb dX8_groupOf_37 (lv_at hl 3 rfl) ?_
      obtain ⟨hg_2, hf⟩ := gd_some hf
      refine g_iald X w KD_36 hv4 hg_2 dX8_groupOf_39 ?_
      refine g_ishl X dX8_groupOf_40 ?_
      refine g_ior X dX8_groupOf_41 ?_
      obtain ⟨v3_2, ev3_2, hf⟩ := lt_some hf
      have hv3_2 : inR v3_2 := inR_of ev3_2 (inR_toInt _)
      refine g_istn (v := v3_2) (lv' := [(3, .int (i2 v3_2)), (0, .ref (ad 35)), (2, .int (i2 v2)), (4, .int (i2 v4))]) X ev3_2 dX8_groupOf_42 rfl hl (by decide) rfl (fun ls hl => ?_)
      obtain ⟨v4_3, ev4_3, hf⟩ := lt_some hf
      have hv4_3 : inR v4_3 := inR_of ev4_3 (inR_wrap _)
      refine lv_iinc (v := i2 v4_3) (lv' := [(4, .int (i2 v4_3)), (3, .int (i2 v3_2)), (0, .ref (ad 35)), (2, .int (i2 v2))]) hx hb dX8_groupOf_43 hl (k := 3) rfl (by rw [ev4_3]; exact i2_add _ _) (by decide) rfl (fun ls hl => ?_)
      refine lv_goto (tgt := 11) hx hb dX8_groupOf_46 (by decide) ?_
      exact HC v3_2 v4_3 _ _ _ (Option.some.inj hf).symm hv3_2 hv4_3 (lv_sub hl [2, 3, 1, 0] rfl) w
set_option maxRecDepth 100000 in
set_option maxHeartbeats 4000000 in
theorem l_X8_groupOf_11 (X : CX p s m args c cX8_groupOf 5 RX8 D aC ad sg A H0) (v2 : Int) (hv2 : inR v2) {M : Mem} {out : Int × Int} (HE : ∀ (y3 : Int) (y4 : Int) (H : Heap) (locs : List Loc) (ls : Array Slot), out = (y3, y4) → inR y3 → inR y4 → lv_has ls 5 [(0, .ref (ad 35)), (2, .int (i2 v2)), (3, .int (i2 y3)), (4, .int (i2 y4))] → WS D aC ad A H0 M H locs → W p l e rm_X8_groupOf s m args below meth c H locs 0 0 Q (F0 m 49 ls [])) : ∀ (n : Nat) (v3 : Int) (v4 : Int), whl (fun s => f_X8_groupOf_s11 v2 M s.1 s.2) n (v3, v4) = some out → inR v3 → inR v4 → ∀ {H : Heap} {locs : List Loc} {ls : Array Slot}, lv_has ls 5 [(0, .ref (ad 35)), (2, .int (i2 v2)), (3, .int (i2 v3)), (4, .int (i2 v4))] → WS D aC ad A H0 M H locs → W p l e rm_X8_groupOf s m args below meth c H locs 0 0 Q (F0 m 11 ls []) := by
  intro n
  induction n with
  | zero => intro v3 v4 hf; exact (whl_zero hf).elim
  | succ n ih =>
    intro v3 v4 hf hv3 hv4 H locs ls hl w
    obtain ⟨o, hf, hk1, hk2⟩ := whl_step hf
    exact b_X8_groupOf_s11 X v2 hv2 (fun y3 y4 H locs ls eo hy3 hy4 hl w => ih y3 y4 (hk1 _ eo) hy3 hy4 hl w) (fun y3 y4 H locs ls eo hy3 hy4 hl w => HE y3 y4 H locs ls (hk2 _ eo).symm hy3 hy4 hl w) v3 hv3 v4 hv4 hf hl w
set_option maxRecDepth 100000 in
set_option maxHeartbeats 4000000 in
theorem b_X8_groupOf_j49 (X : CX p s m args c cX8_groupOf 5 RX8 D aC ad sg A H0) {M : Mem} {o : Int} (HR : ∀ (r : Int) (H : Heap) (locs : List Loc) (pc : Nat) (ls : Array Slot), o = r → inR r → WS D aC ad A H0 M H locs → decode cX8_groupOf pc = .ok (.ireturn, 1) → W p l e rm_X8_groupOf s m args below meth c H locs 0 0 Q (F0 m pc ls [.int (i2 r)])) (v3 : Int) (hv3 : inR v3) (hf : f_X8_groupOf_j49 v3 M = some o) {H : Heap} {locs : List Loc} {ls : Array Slot} (hl : lv_has ls 5 [(3, .int (i2 v3))]) (w : WS D aC ad A H0 M H locs) : W p l e rm_X8_groupOf s m args below meth c H locs 0 0 Q (F0 m 49 ls []) := by
  have hx := X.1.1
  have hb := X.1.2.1
  unfold f_X8_groupOf_j49 at hf
  refine lv_iload_n hx hb dX8_groupOf_49 rfl (lv_at hl 0 rfl) ?_
  exact HR v3 _ _ _ _ (Option.some.inj hf).symm hv3 w dX8_groupOf_50
set_option maxRecDepth 100000 in
set_option maxHeartbeats 4000000 in
theorem b_X8_groupOf_0 (X : CX p s m args c cX8_groupOf 5 RX8 D aC ad sg A H0) {M : Mem} {o : Int} (HR : ∀ (r : Int) (H : Heap) (locs : List Loc) (pc : Nat) (ls : Array Slot), o = r → inR r → WS D aC ad A H0 M H locs → decode cX8_groupOf pc = .ok (.ireturn, 1) → W p l e rm_X8_groupOf s m args below meth c H locs 0 0 Q (F0 m pc ls [.int (i2 r)])) (p1 : Int) (hp1 : inR p1) (hf : f_X8_groupOf p1 M = some o) {H : Heap} {locs : List Loc} {ls : Array Slot} (hl : lv_has ls 5 [(0, .ref (ad 35)), (1, .int (i2 p1))]) (w : WS D aC ad A H0 M H locs) : W p l e rm_X8_groupOf s m args below meth c H locs 0 0 Q (F0 m 0 ls []) := by
  have hx := X.1.1
  have hb := X.1.2.1
  unfold f_X8_groupOf at hf
  refine lv_aload_n hx hb dX8_groupOf_0 rfl (lv_at hl 0 rfl) ?_
  refine lv_iload_n hx hb dX8_groupOf_1 rfl (lv_at hl 1 rfl) ?_
  obtain ⟨r, hc, hf⟩ := obn_some hf
  refine g_cvi (As := [.int (i2 p1)]) (rest := []) X w (k_X8_seatOf X.2.2.1 p1 hp1 w.2.2 hc) lk_X8_94 cl_8 KD_35 ⟨rfl, rfl⟩ ⟨nle rfl, nle rfl⟩ ⟨nle rfl, nle rfl⟩ hl.1 rfl (nle rfl) dX8_groupOf_2 (fun hr H locs w => ?_)
  refine g_istn (v := r) (lv' := [(2, .int (i2 r)), (0, .ref (ad 35)), (1, .int (i2 p1))]) X rfl dX8_groupOf_5 rfl hl (by decide) rfl (fun ls hl => ?_)
  refine g_iconst X dX8_groupOf_6 ?_
  refine g_istn (v := 0) (lv' := [(3, .int (i2 0)), (2, .int (i2 r)), (0, .ref (ad 35)), (1, .int (i2 p1))]) X rfl dX8_groupOf_7 rfl hl (by decide) rfl (fun ls hl => ?_)
  refine g_iconst X dX8_groupOf_8 ?_
  refine g_ist (v := 0) (lv' := [(4, .int (i2 0)), (3, .int (i2 0)), (2, .int (i2 r)), (0, .ref (ad 35)), (1, .int (i2 p1))]) X rfl dX8_groupOf_9 hl (by decide) rfl (fun ls hl => ?_)
  obtain ⟨q, hq, h1⟩ := obn_some hf
  exact l_X8_groupOf_11 X r hr (out := q) (fun y3 y4 H locs ls eq hy3 hy4 hl w => b_X8_groupOf_j49 X  HR y3 hy3 (by subst eq; exact h1) (lv_sub hl [2] rfl) w)  FU 0 0 hq (inL rfl) (inL rfl) (lv_sub hl [3, 2, 1, 0] rfl) w
set_option maxRecDepth 100000 in
set_option maxHeartbeats 4000000 in
theorem k_X8_groupOf {l : Launch} {D : va_G} {aC : Nat → ClassId} {ad : Nat → Nat} {sg : SG} (hi : Inj ad) (p1 : Int) (hp1 : inR p1) {M : Mem} (hM : inM M) {r : Int} (hf : f_X8_groupOf p1 M = some r) : MetI l D aC ad sg yX8_groupOf cX8_groupOf 5 (some .int) rm_X8_groupOf 0 0 [.ref (ad 35), .int (i2 p1)] M r M := by
  refine MetI.ofI (by decide +kernel) (nle rfl) hi hM (fun p e s m args below meth c Q H0 ls X hl w hret => ?_)
  exact b_X8_groupOf_0 X  (fun r1 H locs pc ls eo hP w dg => by cases eo; exact hret H locs pc ls hP w dg) p1 hp1 hf hl w
end
section
variable {p : Program} {l : Launch} {e : Env} {s : State} {m : MethodId} {args : Array Value} {below : List Frame} {meth : Method} {c : Code} {Q : State → Prop} {D : va_G} {aC : Nat → ClassId} {ad : Nat → Nat} {sg : SG} {A : Nat → Prop} {H0 : Heap}
set_option maxRecDepth 100000 in
set_option maxHeartbeats 4000000 in
theorem b_X2_firstClass_j76k7 (X : CX p s m args c cX2_firstClass 6 RX2 D aC ad sg A H0) (v1 : Int) (hv1 : inR v1) {o : (Int × Int × Int × Mem) ⊕ (Int × Int × Int × Mem)} (HC : ∀ (y2 : Int) (y3 : Int) (y4 : Int) (M1 : Mem) (H : Heap) (locs : List Loc) (ls : Array Slot), o = .inl (y2, y3, y4, M1) → inR y2 → inR y3 → inR y4 → lv_has ls 6 [(0, .ref (ad 48)), (1, .int (i2 v1)), (2, .int (i2 y2)), (3, .int (i2 y3)), (4, .int (i2 y4))] → WS D aC ad A H0 M1 H locs → W p l e rm_X2_firstClass s m args below meth c H locs 0 0 Q (F0 m 7 ls [])) (HE : ∀ (y2 : Int) (y3 : Int) (y4 : Int) (M1 : Mem) (H : Heap) (locs : List Loc) (ls : Array Slot), o = .inr (y2, y3, y4, M1) → inR y2 → inR y3 → inR y4 → lv_has ls 6 [(0, .ref (ad 48)), (1, .int (i2 v1)), (2, .int (i2 y2)), (3, .int (i2 y3)), (4, .int (i2 y4))] → WS D aC ad A H0 M1 H locs → W p l e rm_X2_firstClass s m args below meth c H locs 0 0 Q (F0 m 97 ls [])) (v2 : Int) (hv2 : inR v2) (v3 : Int) (hv3 : inR v3) (v4 : Int) (hv4 : inR v4) (M : Mem) (hf : f_X2_firstClass_j76k7 v1 v2 v3 v4 M = some o) {H : Heap} {locs : List Loc} {ls : Array Slot} (hl : lv_has ls 6 [(0, .ref (ad 48)), (1, .int (i2 v1)), (2, .int (i2 v2)), (3, .int (i2 v3)), (4, .int (i2 v4))]) (w : WS D aC ad A H0 M H locs) : W p l e rm_X2_firstClass s m args below meth c H locs 0 0 Q (F0 m 76 ls []) := by
  have hx := X.1.1
  have hb := X.1.2.1
  unfold f_X2_firstClass_j76k7 at hf
  refine lv_aload_n hx hb dX2_firstClass_76 rfl (lv_at hl 0 rfl) ?_
  refine g_getr X w fg_X2_9 KD_48 FR_48_2 dX2_firstClass_77 ?_
  refine lv_iload hx hb dX2_firstClass_80 (lv_at hl 4 rfl) ?_
  refine lv_dup2_11 hx hb dX2_firstClass_82 rfl rfl ?_
  obtain ⟨hg, hf⟩ := gd_some hf
  refine g_iald X w KD_49 hv4 hg dX2_firstClass_83 ?_
  refine g_iconst X dX2_firstClass_84 ?_
  refine lv_iload_n hx hb dX2_firstClass_85 rfl (lv_at hl 1 rfl) ?_
  refine g_ishl X dX2_firstClass_86 ?_
  refine g_iconst X dX2_firstClass_87 ?_
  refine g_ixor X dX2_firstClass_88 ?_
  refine g_iand X dX2_firstClass_89 ?_
  obtain ⟨hg_2, hf⟩ := gd_some hf
  obtain ⟨M_2, eM_2, hf⟩ := lt_some hf
  refine g_iast X w KD_49 hv4 hg_2 (inR_toInt _) dX2_firstClass_90 (fun H locs w_M_2 => ?_)
  rw [← eM_2] at w_M_2
  obtain ⟨v4_2, ev4_2, hf⟩ := lt_some hf
  have hv4_2 : inR v4_2 := inR_of ev4_2 (inR_wrap _)
  refine lv_iinc (v := i2 v4_2) (lv' := [(4, .int (i2 v4_2)), (0, .ref (ad 48)), (1, .int (i2 v1)), (2, .int (i2 v2)), (3, .int (i2 v3))]) hx hb dX2_firstClass_91 hl (k := 4) rfl (by rw [ev4_2]; exact i2_add _ _) (by decide) rfl (fun ls hl => ?_)
  refine lv_goto (tgt := 7) hx hb dX2_firstClass_94 (by decide) ?_
  exact HC v2 v3 v4_2 M_2 _ _ _ (Option.some.inj hf).symm hv2 hv3 hv4_2 (lv_sub hl [1, 2, 3, 4, 0] rfl) w_M_2
set_option maxRecDepth 100000 in
set_option maxHeartbeats 4000000 in
theorem b_X2_firstClass_s7 (X : CX p s m args c cX2_firstClass 6 RX2 D aC ad sg A H0) (v1 : Int) (hv1 : inR v1) {o : (Int × Int × Int × Mem) ⊕ (Int × Int × Int × Mem)} (HC : ∀ (y2 : Int) (y3 : Int) (y4 : Int) (M1 : Mem) (H : Heap) (locs : List Loc) (ls : Array Slot), o = .inl (y2, y3, y4, M1) → inR y2 → inR y3 → inR y4 → lv_has ls 6 [(0, .ref (ad 48)), (1, .int (i2 v1)), (2, .int (i2 y2)), (3, .int (i2 y3)), (4, .int (i2 y4))] → WS D aC ad A H0 M1 H locs → W p l e rm_X2_firstClass s m args below meth c H locs 0 0 Q (F0 m 7 ls [])) (HE : ∀ (y2 : Int) (y3 : Int) (y4 : Int) (M1 : Mem) (H : Heap) (locs : List Loc) (ls : Array Slot), o = .inr (y2, y3, y4, M1) → inR y2 → inR y3 → inR y4 → lv_has ls 6 [(0, .ref (ad 48)), (1, .int (i2 v1)), (2, .int (i2 y2)), (3, .int (i2 y3)), (4, .int (i2 y4))] → WS D aC ad A H0 M1 H locs → W p l e rm_X2_firstClass s m args below meth c H locs 0 0 Q (F0 m 97 ls [])) (v2 : Int) (hv2 : inR v2) (v3 : Int) (hv3 : inR v3) (v4 : Int) (hv4 : inR v4) (M : Mem) (hf : f_X2_firstClass_s7 v1 v2 v3 v4 M = some o) {H : Heap} {locs : List Loc} {ls : Array Slot} (hl : lv_has ls 6 [(0, .ref (ad 48)), (1, .int (i2 v1)), (2, .int (i2 v2)), (3, .int (i2 v3)), (4, .int (i2 v4))]) (w : WS D aC ad A H0 M H locs) : W p l e rm_X2_firstClass s m args below meth c H locs 0 0 Q (F0 m 7 ls []) := by
  have hx := X.1.1
  have hb := X.1.2.1
  unfold f_X2_firstClass_s7 at hf
  refine lv_iload hx hb dX2_firstClass_7 (lv_at hl 4 rfl) ?_
  refine lv_aload_n hx hb dX2_firstClass_9 rfl (lv_at hl 0 rfl) ?_
  refine g_getr X w fg_X2_18 KD_48 FR_48_0 dX2_firstClass_10 ?_
  refine g_geti X w fg_X2_60 KD_3 FR_3_13 dX2_firstClass_13 ?_
  refine g_icmp_ge (tgt := 97) X hv4 (w.2.2 _ _) dX2_firstClass_16 (by decide) (fun cd => ?_) (fun cd => ?_)
  · replace hf := ite_t cd hf
    exact HE v2 v3 v4 M _ _ _ (Option.some.inj hf).symm hv2 hv3 hv4 hl w
  · replace hf := ite_f cd hf
    refine lv_aload_n hx hb dX2_firstClass_19 rfl (lv_at hl 0 rfl) ?_
    refine g_getr X w fg_X2_9 KD_48 FR_48_2 dX2_firstClass_20 ?_
    refine lv_iload hx hb dX2_firstClass_23 (lv_at hl 4 rfl) ?_
    refine lv_dup2_11 hx hb dX2_firstClass_25 rfl rfl ?_
    obtain ⟨hg, hf⟩ := gd_some hf
    refine g_iald X w KD_49 hv4 hg dX2_firstClass_26 ?_
    refine g_iconst X dX2_firstClass_27 ?_
    refine lv_iload_n hx hb dX2_firstClass_28 rfl (lv_at hl 1 rfl) ?_
    refine g_ishl X dX2_firstClass_29 ?_
    refine g_ior X dX2_firstClass_30 ?_
    obtain ⟨hg_2, hf⟩ := gd_some hf
    obtain ⟨M_2, eM_2, hf⟩ := lt_some hf
    refine g_iast X w KD_49 hv4 hg_2 (inR_toInt _) dX2_firstClass_31 (fun H locs w_M_2 => ?_)
    rw [← eM_2] at w_M_2
    refine lv_aload_n hx hb dX2_firstClass_32 rfl (lv_at hl 0 rfl) ?_
    refine g_getr X w_M_2 fg_X2_22 KD_48 FR_48_1 dX2_firstClass_33 ?_
    refine lv_aload_n hx hb dX2_firstClass_36 rfl (lv_at hl 0 rfl) ?_
    refine g_getr X w_M_2 fg_X2_9 KD_48 FR_48_2 dX2_firstClass_37 ?_
    obtain ⟨r, hc, hf⟩ := obn_some hf
    refine g_cvi (As := [.ref (ad 49)]) (rest := []) X w_M_2 (k_X4_isSound X.2.2.1 49 KA_49 w_M_2.2.2 hc) lk_X2_63 cl_4 KD_30 ⟨rfl, rfl⟩ ⟨nle rfl, nle rfl⟩ ⟨nle rfl, nle rfl⟩ hl.1 rfl (nle rfl) dX2_firstClass_40 (fun hr H locs w_M_2 => ?_)
    refine g_if_eq (tgt := 76) X hr dX2_firstClass_43 (by decide) (fun cd_2 => ?_) (fun cd_2 => ?_)
    · replace hf := ite_t cd_2 hf
      refine lv_aload_n hx hb dX2_firstClass_76 rfl (lv_at hl 0 rfl) ?_
      refine g_getr X w_M_2 fg_X2_9 KD_48 FR_48_2 dX2_firstClass_77 ?_
      refine lv_iload hx hb dX2_firstClass_80 (lv_at hl 4 rfl) ?_
      refine lv_dup2_11 hx hb dX2_firstClass_82 rfl rfl ?_
      obtain ⟨hg_3, hf⟩ := gd_some hf
      refine g_iald X w_M_2 KD_49 hv4 hg_3 dX2_firstClass_83 ?_
      refine g_iconst X dX2_firstClass_84 ?_
      refine lv_iload_n hx hb dX2_firstClass_85 rfl (lv_at hl 1 rfl) ?_
      refine g_ishl X dX2_firstClass_86 ?_
      refine g_iconst X dX2_firstClass_87 ?_
      refine g_ixor X dX2_firstClass_88 ?_
      refine g_iand X dX2_firstClass_89 ?_
      obtain ⟨hg_4, hf⟩ := gd_some hf
      obtain ⟨M_3, eM_3, hf⟩ := lt_some hf
      refine g_iast X w_M_2 KD_49 hv4 hg_4 (inR_toInt _) dX2_firstClass_90 (fun H locs w_M_3 => ?_)
      rw [← eM_3] at w_M_3
      obtain ⟨v4_2, ev4_2, hf⟩ := lt_some hf
      have hv4_2 : inR v4_2 := inR_of ev4_2 (inR_wrap _)
      refine lv_iinc (v := i2 v4_2) (lv' := [(4, .int (i2 v4_2)), (0, .ref (ad 48)), (1, .int (i2 v1)), (2, .int (i2 v2)), (3, .int (i2 v3))]) hx hb dX2_firstClass_91 hl (k := 4) rfl (by rw [ev4_2]; exact i2_add _ _) (by decide) rfl (fun ls hl => ?_)
      refine lv_goto (tgt := 7) hx hb dX2_firstClass_94 (by decide) ?_
      exact HC v2 v3 v4_2 M_3 _ _ _ (Option.some.inj hf).symm hv2 hv3 hv4_2 (lv_sub hl [1, 2, 3, 4, 0] rfl) w_M_3
    · replace hf := ite_f cd_2 hf
      refine lv_aload_n hx hb dX2_firstClass_46 rfl (lv_at hl 0 rfl) ?_
      refine g_getr X w_M_2 fg_X2_22 KD_48 FR_48_1 dX2_firstClass_47 ?_
      refine lv_aload_n hx hb dX2_firstClass_50 rfl (lv_at hl 0 rfl) ?_
      refine g_getr X w_M_2 fg_X2_9 KD_48 FR_48_2 dX2_firstClass_51 ?_
      obtain ⟨r_2, hc, hf⟩ := obn_some hf
      refine g_cvi (As := [.ref (ad 49)]) (rest := []) X w_M_2 (k_X4_harmOf X.2.2.1 49 KA_49 w_M_2.2.2 hc) lk_X2_51 cl_4 KD_30 ⟨rfl, rfl⟩ ⟨nle rfl, nle rfl⟩ ⟨nle rfl, nle rfl⟩ hl.1 rfl (nle rfl) dX2_firstClass_54 (fun hr_2 H locs w_M_2 => ?_)
      refine g_ist (v := r_2) (lv' := [(5, .int (i2 r_2)), (0, .ref (ad 48)), (1, .int (i2 v1)), (2, .int (i2 v2)), (3, .int (i2 v3)), (4, .int (i2 v4))]) X rfl dX2_firstClass_57 hl (by decide) rfl (fun ls hl => ?_)
      refine lv_iload_n hx hb dX2_firstClass_59 rfl (lv_at hl 3 rfl) ?_
      refine g_iconst X dX2_firstClass_60 ?_
      refine g_icmp_eq (tgt := 70) X hv2 (inL rfl) dX2_firstClass_61 (by decide) (fun cd_3 => ?_) (fun cd_3 => ?_)
      · replace hf := ite_t cd_3 hf
        refine lv_iload hx hb dX2_firstClass_70 (lv_at hl 5 rfl) ?_
        refine g_istn (v := v4) (lv' := [(2, .int (i2 v4)), (5, .int (i2 r_2)), (0, .ref (ad 48)), (1, .int (i2 v1)), (3, .int (i2 v3)), (4, .int (i2 v4))]) X rfl dX2_firstClass_72 rfl hl (by decide) rfl (fun ls hl => ?_)
        refine lv_iload hx hb dX2_firstClass_73 (lv_at hl 1 rfl) ?_
        refine g_istn (v := r_2) (lv' := [(3, .int (i2 r_2)), (2, .int (i2 v4)), (5, .int (i2 r_2)), (0, .ref (ad 48)), (1, .int (i2 v1)), (4, .int (i2 v4))]) X rfl dX2_firstClass_75 rfl hl (by decide) rfl (fun ls hl => ?_)
        exact b_X2_firstClass_j76k7 X v1 hv1 HC HE v4 hv4 r_2 hr_2 v4 hv4 M_2 hf (lv_sub hl [3, 4, 1, 0, 5] rfl) w_M_2
      · replace hf := ite_f cd_3 hf
        refine lv_iload hx hb dX2_firstClass_64 (lv_at hl 0 rfl) ?_
        refine lv_iload_n hx hb dX2_firstClass_66 rfl (lv_at hl 4 rfl) ?_
        refine g_icmp_ge (tgt := 76) X hr_2 hv3 dX2_firstClass_67 (by decide) (fun cd_4 => ?_) (fun cd_4 => ?_)
        · replace hf := ite_t cd_4 hf
          refine lv_aload_n hx hb dX2_firstClass_76 rfl (lv_at hl 1 rfl) ?_
          refine g_getr X w_M_2 fg_X2_9 KD_48 FR_48_2 dX2_firstClass_77 ?_
          refine lv_iload hx hb dX2_firstClass_80 (lv_at hl 5 rfl) ?_
          refine lv_dup2_11 hx hb dX2_firstClass_82 rfl rfl ?_
          obtain ⟨hg_5, hf⟩ := gd_some hf
          refine g_iald X w_M_2 KD_49 hv4 hg_5 dX2_firstClass_83 ?_
          refine g_iconst X dX2_firstClass_84 ?_
          refine lv_iload_n hx hb dX2_firstClass_85 rfl (lv_at hl 2 rfl) ?_
          refine g_ishl X dX2_firstClass_86 ?_
          refine g_iconst X dX2_firstClass_87 ?_
          refine g_ixor X dX2_firstClass_88 ?_
          refine g_iand X dX2_firstClass_89 ?_
          obtain ⟨hg_6, hf⟩ := gd_some hf
          obtain ⟨M_4, eM_4, hf⟩ := lt_some hf
          refine g_iast X w_M_2 KD_49 hv4 hg_6 (inR_toInt _) dX2_firstClass_90 (fun H locs w_M_4 => ?_)
          rw [← eM_4] at w_M_4
          obtain ⟨v4_3, ev4_3, hf⟩ := lt_some hf
          have hv4_3 : inR v4_3 := inR_of ev4_3 (inR_wrap _)
          refine lv_iinc (v := i2 v4_3) (lv' := [(4, .int (i2 v4_3)), (5, .int (i2 r_2)), (0, .ref (ad 48)), (1, .int (i2 v1)), (2, .int (i2 v2)), (3, .int (i2 v3))]) hx hb dX2_firstClass_91 hl (k := 5) rfl (by rw [ev4_3]; exact i2_add _ _) (by decide) rfl (fun ls hl => ?_)
          refine lv_goto (tgt := 7) hx hb dX2_firstClass_94 (by decide) ?_
          exact HC v2 v3 v4_3 M_4 _ _ _ (Option.some.inj hf).symm hv2 hv3 hv4_3 (lv_sub hl [2, 3, 4, 5, 0] rfl) w_M_4
        · replace hf := ite_f cd_4 hf
          refine lv_iload hx hb dX2_firstClass_70 (lv_at hl 5 rfl) ?_
          refine g_istn (v := v4) (lv' := [(2, .int (i2 v4)), (5, .int (i2 r_2)), (0, .ref (ad 48)), (1, .int (i2 v1)), (3, .int (i2 v3)), (4, .int (i2 v4))]) X rfl dX2_firstClass_72 rfl hl (by decide) rfl (fun ls hl => ?_)
          refine lv_iload hx hb dX2_firstClass_73 (lv_at hl 1 rfl) ?_
          refine g_istn (v := r_2) (lv' := [(3, .int (i2 r_2)), (2, .int (i2 v4)), (5, .int (i2 r_2)), (0, .ref (ad 48)), (1, .int (i2 v1)), (4, .int (i2 v4))]) X rfl dX2_firstClass_75 rfl hl (by decide) rfl (fun ls hl => ?_)
          exact b_X2_firstClass_j76k7 X v1 hv1 HC HE v4 hv4 r_2 hr_2 v4 hv4 M_2 hf (lv_sub hl [3, 4, 1, 0, 5] rfl) w_M_2
set_option maxRecDepth 100000 in
set_option maxHeartbeats 4000000 in
theorem l_X2_firstClass_7 (X : CX p s m args c cX2_firstClass 6 RX2 D aC ad sg A H0) (v1 : Int) (hv1 : inR v1) {out : Int × Int × Int × Mem} (HE : ∀ (y2 : Int) (y3 : Int) (y4 : Int) (M1 : Mem) (H : Heap) (locs : List Loc) (ls : Array Slot), out = (y2, y3, y4, M1) → inR y2 → inR y3 → inR y4 → lv_has ls 6 [(0, .ref (ad 48)), (1, .int (i2 v1)), (2, .int (i2 y2)), (3, .int (i2 y3)), (4, .int (i2 y4))] → WS D aC ad A H0 M1 H locs → W p l e rm_X2_firstClass s m args below meth c H locs 0 0 Q (F0 m 97 ls [])) : ∀ (n : Nat) (v2 : Int) (v3 : Int) (v4 : Int) (M : Mem), whl (fun s => f_X2_firstClass_s7 v1 s.1 s.2.1 s.2.2.1 s.2.2.2) n (v2, v3, v4, M) = some out → inR v2 → inR v3 → inR v4 → ∀ {H : Heap} {locs : List Loc} {ls : Array Slot}, lv_has ls 6 [(0, .ref (ad 48)), (1, .int (i2 v1)), (2, .int (i2 v2)), (3, .int (i2 v3)), (4, .int (i2 v4))] → WS D aC ad A H0 M H locs → W p l e rm_X2_firstClass s m args below meth c H locs 0 0 Q (F0 m 7 ls []) := by
  intro n
  induction n with
  | zero => intro v2 v3 v4 M hf; exact (whl_zero hf).elim
  | succ n ih =>
    intro v2 v3 v4 M hf hv2 hv3 hv4 H locs ls hl w
    obtain ⟨o, hf, hk1, hk2⟩ := whl_step hf
    exact b_X2_firstClass_s7 X v1 hv1 (fun y2 y3 y4 M1 H locs ls eo hy2 hy3 hy4 hl w => ih y2 y3 y4 M1 (hk1 _ eo) hy2 hy3 hy4 hl w) (fun y2 y3 y4 M1 H locs ls eo hy2 hy3 hy4 hl w => HE y2 y3 y4 M1 H locs ls (hk2 _ eo).symm hy2 hy3 hy4 hl w) v2 hv2 v3 hv3 v4 hv4 M hf hl w
set_option maxRecDepth 100000 in
set_option maxHeartbeats 4000000 in
theorem b_X2_firstClass_j97 (X : CX p s m args c cX2_firstClass 6 RX2 D aC ad sg A H0) {o : Int × Mem} (HR : ∀ (r : Int) (M1 : Mem) (H : Heap) (locs : List Loc) (pc : Nat) (ls : Array Slot), o = (r, M1) → inR r → WS D aC ad A H0 M1 H locs → decode cX2_firstClass pc = .ok (.ireturn, 1) → W p l e rm_X2_firstClass s m args below meth c H locs 0 0 Q (F0 m pc ls [.int (i2 r)])) (v2 : Int) (hv2 : inR v2) (M : Mem) (hf : f_X2_firstClass_j97 v2 M = some o) {H : Heap} {locs : List Loc} {ls : Array Slot} (hl : lv_has ls 6 [(2, .int (i2 v2))]) (w : WS D aC ad A H0 M H locs) : W p l e rm_X2_firstClass s m args below meth c H locs 0 0 Q (F0 m 97 ls []) := by
  have hx := X.1.1
  have hb := X.1.2.1
  unfold f_X2_firstClass_j97 at hf
  refine lv_iload_n hx hb dX2_firstClass_97 rfl (lv_at hl 0 rfl) ?_
  exact HR v2 M _ _ _ _ (Option.some.inj hf).symm hv2 w dX2_firstClass_98
set_option maxRecDepth 100000 in
set_option maxHeartbeats 4000000 in
theorem b_X2_firstClass_0 (X : CX p s m args c cX2_firstClass 6 RX2 D aC ad sg A H0) {o : Int × Mem} (HR : ∀ (r : Int) (M1 : Mem) (H : Heap) (locs : List Loc) (pc : Nat) (ls : Array Slot), o = (r, M1) → inR r → WS D aC ad A H0 M1 H locs → decode cX2_firstClass pc = .ok (.ireturn, 1) → W p l e rm_X2_firstClass s m args below meth c H locs 0 0 Q (F0 m pc ls [.int (i2 r)])) (p1 : Int) (hp1 : inR p1) (M : Mem) (hf : f_X2_firstClass p1 M = some o) {H : Heap} {locs : List Loc} {ls : Array Slot} (hl : lv_has ls 6 [(0, .ref (ad 48)), (1, .int (i2 p1))]) (w : WS D aC ad A H0 M H locs) : W p l e rm_X2_firstClass s m args below meth c H locs 0 0 Q (F0 m 0 ls []) := by
  have hx := X.1.1
  have hb := X.1.2.1
  unfold f_X2_firstClass at hf
  refine g_iconst X dX2_firstClass_0 ?_
  refine g_istn (v := (-1)) (lv' := [(2, .int (i2 (-1))), (0, .ref (ad 48)), (1, .int (i2 p1))]) X rfl dX2_firstClass_1 rfl hl (by decide) rfl (fun ls hl => ?_)
  refine g_iconst X dX2_firstClass_2 ?_
  refine g_istn (v := 0) (lv' := [(3, .int (i2 0)), (2, .int (i2 (-1))), (0, .ref (ad 48)), (1, .int (i2 p1))]) X rfl dX2_firstClass_3 rfl hl (by decide) rfl (fun ls hl => ?_)
  refine g_iconst X dX2_firstClass_4 ?_
  refine g_ist (v := 0) (lv' := [(4, .int (i2 0)), (3, .int (i2 0)), (2, .int (i2 (-1))), (0, .ref (ad 48)), (1, .int (i2 p1))]) X rfl dX2_firstClass_5 hl (by decide) rfl (fun ls hl => ?_)
  obtain ⟨q, hq, h1⟩ := obn_some hf
  exact l_X2_firstClass_7 X p1 hp1 (out := q) (fun y2 y3 y4 M1 H locs ls eq hy2 hy3 hy4 hl w => b_X2_firstClass_j97 X  HR y2 hy2 M1 (by subst eq; exact h1) (lv_sub hl [2] rfl) w)  FU (-1) 0 0 M hq (inL rfl) (inL rfl) (inL rfl) (lv_sub hl [3, 4, 2, 1, 0] rfl) w
set_option maxRecDepth 100000 in
set_option maxHeartbeats 4000000 in
theorem k_X2_firstClass {l : Launch} {D : va_G} {aC : Nat → ClassId} {ad : Nat → Nat} {sg : SG} (hi : Inj ad) (p1 : Int) (hp1 : inR p1) {M : Mem} (hM : inM M) {r : Int} {M' : Mem} (hf : f_X2_firstClass p1 M = some (r, M')) : MetI l D aC ad sg yX2_firstClass cX2_firstClass 6 (some .int) rm_X2_firstClass 0 0 [.ref (ad 48), .int (i2 p1)] M r M' := by
  refine MetI.ofI (by decide +kernel) (nle rfl) hi hM (fun p e s m args below meth c Q H0 ls X hl w hret => ?_)
  exact b_X2_firstClass_0 X  (fun r1 M1 H locs pc ls eo hP w dg => by cases eo; exact hret H locs pc ls hP w dg) p1 hp1 M hf hl w
set_option maxRecDepth 100000 in
set_option maxHeartbeats 4000000 in
theorem b_X2_starts_s10 (X : CX p s m args c cX2_starts 3 RX2 D aC ad sg A H0) {o : (Int × Mem) ⊕ ((Int × Mem) ⊕ (Int × Mem))} (HC : ∀ (y1 : Int) (M1 : Mem) (H : Heap) (locs : List Loc) (ls : Array Slot), o = .inl (y1, M1) → inR y1 → lv_has ls 3 [(0, .ref (ad 48)), (1, .int (i2 y1))] → WS D aC ad A H0 M1 H locs → W p l e rm_X2_starts s m args below meth c H locs 0 0 Q (F0 m 10 ls [])) (HE : ∀ (y1 : Int) (M1 : Mem) (H : Heap) (locs : List Loc) (ls : Array Slot), o = .inr (.inl (y1, M1)) → inR y1 → lv_has ls 3 [(0, .ref (ad 48)), (1, .int (i2 y1))] → WS D aC ad A H0 M1 H locs → W p l e rm_X2_starts s m args below meth c H locs 0 0 Q (F0 m 59 ls [])) (HR : ∀ (r : Int) (M1 : Mem) (H : Heap) (locs : List Loc) (pc : Nat) (ls : Array Slot), o = .inr (.inr (r, M1)) → isZ r → WS D aC ad A H0 M1 H locs → decode cX2_starts pc = .ok (.ireturn, 1) → W p l e rm_X2_starts s m args below meth c H locs 0 0 Q (F0 m pc ls [.int (i2 r)])) (v1 : Int) (hv1 : inR v1) (M : Mem) (hf : f_X2_starts_s10 v1 M = some o) {H : Heap} {locs : List Loc} {ls : Array Slot} (hl : lv_has ls 3 [(0, .ref (ad 48)), (1, .int (i2 v1))]) (w : WS D aC ad A H0 M H locs) : W p l e rm_X2_starts s m args below meth c H locs 0 0 Q (F0 m 10 ls []) := by
  have hx := X.1.1
  have hb := X.1.2.1
  unfold f_X2_starts_s10 at hf
  refine lv_iload_n hx hb dX2_starts_10 rfl (lv_at hl 1 rfl) ?_
  refine lv_aload_n hx hb dX2_starts_11 rfl (lv_at hl 0 rfl) ?_
  refine g_getr X w fg_X2_18 KD_48 FR_48_0 dX2_starts_12 ?_
  refine g_geti X w fg_X2_32 KD_3 FR_3_0 dX2_starts_15 ?_
  refine g_icmp_ge (tgt := 59) X hv1 (w.2.2 _ _) dX2_starts_18 (by decide) (fun cd => ?_) (fun cd => ?_)
  · replace hf := ite_t cd hf
    exact HE v1 M _ _ _ (Option.some.inj hf).symm hv1 hl w
  · replace hf := ite_f cd hf
    refine lv_aload_n hx hb dX2_starts_21 rfl (lv_at hl 0 rfl) ?_
    refine lv_iload_n hx hb dX2_starts_22 rfl (lv_at hl 1 rfl) ?_
    obtain ⟨r, M_2, hc, hf⟩ := bnd_some hf
    refine g_cvi (As := [.int (i2 v1)]) (rest := []) X w (k_X2_firstClass X.2.2.1 v1 hv1 w.2.2 hc) lk_X2_38 cl_2 KD_48 ⟨rfl, rfl⟩ ⟨nle rfl, nle rfl⟩ ⟨nle rfl, nle rfl⟩ hl.1 rfl (nle rfl) dX2_starts_23 (fun hr H locs w_M_2 => ?_)
    refine g_istn (v := r) (lv' := [(2, .int (i2 r)), (0, .ref (ad 48)), (1, .int (i2 v1))]) X rfl dX2_starts_26 rfl hl (by decide) rfl (fun ls hl => ?_)
    refine lv_iload_n hx hb dX2_starts_27 rfl (lv_at hl 0 rfl) ?_
    refine g_iconst X dX2_starts_28 ?_
    refine g_icmp_ne (tgt := 34) X hr (inL rfl) dX2_starts_29 (by decide) (fun cd_2 => ?_) (fun cd_2 => ?_)
    · replace hf := ite_f cd_2 hf
      refine lv_aload_n hx hb dX2_starts_34 rfl (lv_at hl 1 rfl) ?_
      refine g_getr X w_M_2 fg_X2_15 KD_48 FR_48_3 dX2_starts_35 ?_
      refine lv_iload_n hx hb dX2_starts_38 rfl (lv_at hl 2 rfl) ?_
      refine lv_iload_n hx hb dX2_starts_39 rfl (lv_at hl 0 rfl) ?_
      obtain ⟨hg, hf⟩ := gd_some hf
      obtain ⟨M_3, eM_3, hf⟩ := lt_some hf
      refine g_iast X w_M_2 KD_50 hv1 hg hr dX2_starts_40 (fun H locs w_M_3 => ?_)
      rw [← eM_3] at w_M_3
      refine lv_aload_n hx hb dX2_starts_41 rfl (lv_at hl 1 rfl) ?_
      refine g_getr X w_M_3 fg_X2_9 KD_48 FR_48_2 dX2_starts_42 ?_
      refine lv_iload_n hx hb dX2_starts_45 rfl (lv_at hl 0 rfl) ?_
      refine lv_dup2_11 hx hb dX2_starts_46 rfl rfl ?_
      obtain ⟨hg_2, hf⟩ := gd_some hf
      refine g_iald X w_M_3 KD_49 hr hg_2 dX2_starts_47 ?_
      refine g_iconst X dX2_starts_48 ?_
      refine lv_iload_n hx hb dX2_starts_49 rfl (lv_at hl 2 rfl) ?_
      refine g_ishl X dX2_starts_50 ?_
      refine g_ior X dX2_starts_51 ?_
      obtain ⟨hg_3, hf⟩ := gd_some hf
      obtain ⟨M_4, eM_4, hf⟩ := lt_some hf
      refine g_iast X w_M_3 KD_49 hr hg_3 (inR_toInt _) dX2_starts_52 (fun H locs w_M_4 => ?_)
      rw [← eM_4] at w_M_4
      obtain ⟨v1_2, ev1_2, hf⟩ := lt_some hf
      have hv1_2 : inR v1_2 := inR_of ev1_2 (inR_wrap _)
      refine lv_iinc (v := i2 v1_2) (lv' := [(1, .int (i2 v1_2)), (2, .int (i2 r)), (0, .ref (ad 48))]) hx hb dX2_starts_53 hl (k := 2) rfl (by rw [ev1_2]; exact i2_add _ _) (by decide) rfl (fun ls hl => ?_)
      refine lv_goto (tgt := 10) hx hb dX2_starts_56 (by decide) ?_
      exact HC v1_2 M_4 _ _ _ (Option.some.inj hf).symm hv1_2 (lv_sub hl [2, 0] rfl) w_M_4
    · replace hf := ite_t cd_2 hf
      refine g_iconst X dX2_starts_32 ?_
      exact HR 0 M_2 _ _ _ _ (Option.some.inj hf).symm (Or.inl rfl) w_M_2 dX2_starts_33
set_option maxRecDepth 100000 in
set_option maxHeartbeats 4000000 in
theorem l_X2_starts_10 (X : CX p s m args c cX2_starts 3 RX2 D aC ad sg A H0) {out : (Int × Mem) ⊕ (Int × Mem)} (HE : ∀ (y1 : Int) (M1 : Mem) (H : Heap) (locs : List Loc) (ls : Array Slot), out = .inl (y1, M1) → inR y1 → lv_has ls 3 [(0, .ref (ad 48)), (1, .int (i2 y1))] → WS D aC ad A H0 M1 H locs → W p l e rm_X2_starts s m args below meth c H locs 0 0 Q (F0 m 59 ls [])) (HR : ∀ (r : Int) (M1 : Mem) (H : Heap) (locs : List Loc) (pc : Nat) (ls : Array Slot), out = .inr (r, M1) → isZ r → WS D aC ad A H0 M1 H locs → decode cX2_starts pc = .ok (.ireturn, 1) → W p l e rm_X2_starts s m args below meth c H locs 0 0 Q (F0 m pc ls [.int (i2 r)])) : ∀ (n : Nat) (v1 : Int) (M : Mem), whl (fun s => f_X2_starts_s10 s.1 s.2) n (v1, M) = some out → inR v1 → ∀ {H : Heap} {locs : List Loc} {ls : Array Slot}, lv_has ls 3 [(0, .ref (ad 48)), (1, .int (i2 v1))] → WS D aC ad A H0 M H locs → W p l e rm_X2_starts s m args below meth c H locs 0 0 Q (F0 m 10 ls []) := by
  intro n
  induction n with
  | zero => intro v1 M hf; exact (whl_zero hf).elim
  | succ n ih =>
    intro v1 M hf hv1 H locs ls hl w
    obtain ⟨o, hf, hk1, hk2⟩ := whl_step hf
    exact b_X2_starts_s10 X  (fun y1 M1 H locs ls eo hy1 hl w => ih y1 M1 (hk1 _ eo) hy1 hl w) (fun y1 M1 H locs ls eo hy1 hl w => HE y1 M1 H locs ls (hk2 _ eo).symm hy1 hl w) (fun r M1 H locs pc ls eo hP w dg => HR r M1 H locs pc ls (hk2 _ eo).symm hP w dg) v1 hv1 M hf hl w
set_option maxRecDepth 100000 in
set_option maxHeartbeats 4000000 in
theorem b_X2_starts_j59 (X : CX p s m args c cX2_starts 3 RX2 D aC ad sg A H0) {o : Int × Mem} (HR : ∀ (r : Int) (M1 : Mem) (H : Heap) (locs : List Loc) (pc : Nat) (ls : Array Slot), o = (r, M1) → isZ r → WS D aC ad A H0 M1 H locs → decode cX2_starts pc = .ok (.ireturn, 1) → W p l e rm_X2_starts s m args below meth c H locs 0 0 Q (F0 m pc ls [.int (i2 r)])) (M : Mem) (hf : f_X2_starts_j59 M = some o) {H : Heap} {locs : List Loc} {ls : Array Slot} (hl : lv_has ls 3 [(0, .ref (ad 48))]) (w : WS D aC ad A H0 M H locs) : W p l e rm_X2_starts s m args below meth c H locs 0 0 Q (F0 m 59 ls []) := by
  have hx := X.1.1
  have hb := X.1.2.1
  unfold f_X2_starts_j59 at hf
  refine lv_aload_n hx hb dX2_starts_59 rfl (lv_at hl 0 rfl) ?_
  refine lv_aload_n hx hb dX2_starts_60 rfl (lv_at hl 0 rfl) ?_
  refine g_getr X w fg_X2_22 KD_48 FR_48_1 dX2_starts_61 ?_
  refine lv_aload_n hx hb dX2_starts_64 rfl (lv_at hl 0 rfl) ?_
  refine g_getr X w fg_X2_9 KD_48 FR_48_2 dX2_starts_65 ?_
  obtain ⟨r, hc, hf⟩ := obn_some hf
  refine g_cvi (As := [.ref (ad 49)]) (rest := [.ref (ad 48)]) X w (k_X4_lackOf X.2.2.1 49 KA_49 w.2.2 hc) lk_X2_42 cl_4 KD_30 ⟨rfl, rfl⟩ ⟨nle rfl, nle rfl⟩ ⟨nle rfl, nle rfl⟩ hl.1 rfl (nle rfl) dX2_starts_68 (fun hr H locs w => ?_)
  obtain ⟨M_2, eM_2, hf⟩ := lt_some hf
  refine g_puti X w fp_X2_48 KD_48 FR_48_5 hr dX2_starts_71 (fun H locs w_M_2 => ?_)
  rw [← eM_2] at w_M_2
  refine lv_aload_n hx hb dX2_starts_74 rfl (lv_at hl 0 rfl) ?_
  refine lv_aload_n hx hb dX2_starts_75 rfl (lv_at hl 0 rfl) ?_
  refine g_getr X w_M_2 fg_X2_22 KD_48 FR_48_1 dX2_starts_76 ?_
  refine lv_aload_n hx hb dX2_starts_79 rfl (lv_at hl 0 rfl) ?_
  refine g_getr X w_M_2 fg_X2_9 KD_48 FR_48_2 dX2_starts_80 ?_
  obtain ⟨r_2, hc, hf⟩ := obn_some hf
  refine g_cvi (As := [.ref (ad 49)]) (rest := [.ref (ad 48)]) X w_M_2 (k_X4_harmOf X.2.2.1 49 KA_49 w_M_2.2.2 hc) lk_X2_51 cl_4 KD_30 ⟨rfl, rfl⟩ ⟨nle rfl, nle rfl⟩ ⟨nle rfl, nle rfl⟩ hl.1 rfl (nle rfl) dX2_starts_83 (fun hr_2 H locs w_M_2 => ?_)
  obtain ⟨M_3, eM_3, hf⟩ := lt_some hf
  refine g_puti X w_M_2 fp_X2_54 KD_48 FR_48_6 hr_2 dX2_starts_86 (fun H locs w_M_3 => ?_)
  rw [← eM_3] at w_M_3
  refine lv_aload_n hx hb dX2_starts_89 rfl (lv_at hl 0 rfl) ?_
  refine g_iconst X dX2_starts_90 ?_
  obtain ⟨M_4, eM_4, hf⟩ := lt_some hf
  refine g_puti X w_M_3 fp_X2_57 KD_48 FR_48_4 (inL rfl) dX2_starts_91 (fun H locs w_M_4 => ?_)
  rw [← eM_4] at w_M_4
  refine g_iconst X dX2_starts_94 ?_
  exact HR 1 M_4 _ _ _ _ (Option.some.inj hf).symm (Or.inr rfl) w_M_4 dX2_starts_95
set_option maxRecDepth 100000 in
set_option maxHeartbeats 4000000 in
theorem b_X2_starts_0 (X : CX p s m args c cX2_starts 3 RX2 D aC ad sg A H0) {o : Int × Mem} (HR : ∀ (r : Int) (M1 : Mem) (H : Heap) (locs : List Loc) (pc : Nat) (ls : Array Slot), o = (r, M1) → isZ r → WS D aC ad A H0 M1 H locs → decode cX2_starts pc = .ok (.ireturn, 1) → W p l e rm_X2_starts s m args below meth c H locs 0 0 Q (F0 m pc ls [.int (i2 r)])) (M : Mem) (hf : f_X2_starts M = some o) {H : Heap} {locs : List Loc} {ls : Array Slot} (hl : lv_has ls 3 [(0, .ref (ad 48))]) (w : WS D aC ad A H0 M H locs) : W p l e rm_X2_starts s m args below meth c H locs 0 0 Q (F0 m 0 ls []) := by
  have hx := X.1.1
  have hb := X.1.2.1
  unfold f_X2_starts at hf
  refine lv_aload_n hx hb dX2_starts_0 rfl (lv_at hl 0 rfl) ?_
  refine g_getr X w fg_X2_9 KD_48 FR_48_2 dX2_starts_1 ?_
  refine g_iconst X dX2_starts_4 ?_
  obtain ⟨M_2, hc, hf⟩ := obn_some hf
  refine g_csv (As := [.ref (ad 49), .int (i2 0)]) (rest := []) X w (k_J7_fill_53178 X.2.2.1 49 KA_49 0 (inL rfl) w.2.2 hc) lk_X2_26 ⟨rfl, rfl⟩ ⟨nle rfl, nle rfl⟩ ⟨nle rfl, nle rfl⟩ hl.1 rfl (nle rfl) dX2_starts_5 (fun H locs w_M_2 => ?_)
  refine g_iconst X dX2_starts_8 ?_
  refine g_istn (v := 0) (lv' := [(1, .int (i2 0)), (0, .ref (ad 48))]) X rfl dX2_starts_9 rfl hl (by decide) rfl (fun ls hl => ?_)
  obtain ⟨q, hq, h1, h2⟩ := lpr_some hf
  exact l_X2_starts_10 X  (out := q) (fun y1 M1 H locs ls eq hy1 hl w => b_X2_starts_j59 X  HR M1 (h1 _ eq) (lv_sub hl [0] rfl) w) (fun r M1 H locs pc ls eq hP w dg => HR r M1 H locs pc ls (Option.some.inj (h2 _ eq)).symm hP w dg) FU 0 M_2 hq (inL rfl) (lv_sub hl [1, 0] rfl) w_M_2
set_option maxRecDepth 100000 in
set_option maxHeartbeats 4000000 in
theorem k_X2_starts {l : Launch} {D : va_G} {aC : Nat → ClassId} {ad : Nat → Nat} {sg : SG} (hi : Inj ad)  {M : Mem} (hM : inM M) {r : Int} {M' : Mem} (hf : f_X2_starts M = some (r, M')) : MetI l D aC ad sg yX2_starts cX2_starts 3 (some .boolean) rm_X2_starts 0 0 [.ref (ad 48)] M r M' := by
  refine MetI.ofZ (by decide +kernel) (nle rfl) hi hM (fun p e s m args below meth c Q H0 ls X hl w hret => ?_)
  exact b_X2_starts_0 X  (fun r1 M1 H locs pc ls eo hP w dg => by cases eo; exact hret H locs pc ls hP w dg) M hf hl w
set_option maxRecDepth 100000 in
set_option maxHeartbeats 4000000 in
theorem b_X2_moveBetters_0 (X : CX p s m args c cX2_moveBetters 6 RX2 D aC ad sg A H0) {o : Int × Mem} (HR : ∀ (r : Int) (M1 : Mem) (H : Heap) (locs : List Loc) (pc : Nat) (ls : Array Slot), o = (r, M1) → isZ r → WS D aC ad A H0 M1 H locs → decode cX2_moveBetters pc = .ok (.ireturn, 1) → W p l e rm_X2_moveBetters s m args below meth c H locs 0 0 Q (F0 m pc ls [.int (i2 r)])) (p1 : Int) (hp1 : inR p1) (p2 : Int) (hp2 : inR p2) (p3 : Int) (hp3 : inR p3) (M : Mem) (hf : f_X2_moveBetters p1 p2 p3 M = some o) {H : Heap} {locs : List Loc} {ls : Array Slot} (hl : lv_has ls 6 [(0, .ref (ad 48)), (1, .int (i2 p1)), (2, .int (i2 p2)), (3, .int (i2 p3))]) (w : WS D aC ad A H0 M H locs) : W p l e rm_X2_moveBetters s m args below meth c H locs 0 0 Q (F0 m 0 ls []) := by
  have hx := X.1.1
  have hb := X.1.2.1
  unfold f_X2_moveBetters at hf
  refine lv_aload_n hx hb dX2_moveBetters_0 rfl (lv_at hl 0 rfl) ?_
  refine g_getr X w fg_X2_9 KD_48 FR_48_2 dX2_moveBetters_1 ?_
  refine lv_iload_n hx hb dX2_moveBetters_4 rfl (lv_at hl 2 rfl) ?_
  refine lv_dup2_11 hx hb dX2_moveBetters_5 rfl rfl ?_
  obtain ⟨hg, hf⟩ := gd_some hf
  refine g_iald X w KD_49 hp2 hg dX2_moveBetters_6 ?_
  refine lv_iload_n hx hb dX2_moveBetters_7 rfl (lv_at hl 1 rfl) ?_
  refine g_ixor X dX2_moveBetters_8 ?_
  obtain ⟨hg_2, hf⟩ := gd_some hf
  obtain ⟨M_2, eM_2, hf⟩ := lt_some hf
  refine g_iast X w KD_49 hp2 hg_2 (inR_toInt _) dX2_moveBetters_9 (fun H locs w_M_2 => ?_)
  rw [← eM_2] at w_M_2
  refine lv_aload_n hx hb dX2_moveBetters_10 rfl (lv_at hl 0 rfl) ?_
  refine g_getr X w_M_2 fg_X2_9 KD_48 FR_48_2 dX2_moveBetters_11 ?_
  refine lv_iload_n hx hb dX2_moveBetters_14 rfl (lv_at hl 3 rfl) ?_
  refine lv_dup2_11 hx hb dX2_moveBetters_15 rfl rfl ?_
  obtain ⟨hg_3, hf⟩ := gd_some hf
  refine g_iald X w_M_2 KD_49 hp3 hg_3 dX2_moveBetters_16 ?_
  refine lv_iload_n hx hb dX2_moveBetters_17 rfl (lv_at hl 1 rfl) ?_
  refine g_ixor X dX2_moveBetters_18 ?_
  obtain ⟨hg_4, hf⟩ := gd_some hf
  obtain ⟨M_3, eM_3, hf⟩ := lt_some hf
  refine g_iast X w_M_2 KD_49 hp3 hg_4 (inR_toInt _) dX2_moveBetters_19 (fun H locs w_M_3 => ?_)
  rw [← eM_3] at w_M_3
  refine lv_aload_n hx hb dX2_moveBetters_20 rfl (lv_at hl 0 rfl) ?_
  refine g_getr X w_M_3 fg_X2_22 KD_48 FR_48_1 dX2_moveBetters_21 ?_
  refine lv_aload_n hx hb dX2_moveBetters_24 rfl (lv_at hl 0 rfl) ?_
  refine g_getr X w_M_3 fg_X2_9 KD_48 FR_48_2 dX2_moveBetters_25 ?_
  obtain ⟨r, hc, hf⟩ := obn_some hf
  refine g_cvi (As := [.ref (ad 49)]) (rest := []) X w_M_3 (k_X4_lackOf X.2.2.1 49 KA_49 w_M_3.2.2 hc) lk_X2_42 cl_4 KD_30 ⟨rfl, rfl⟩ ⟨nle rfl, nle rfl⟩ ⟨nle rfl, nle rfl⟩ hl.1 rfl (nle rfl) dX2_moveBetters_28 (fun hr H locs w_M_3 => ?_)
  refine g_ist (v := r) (lv' := [(4, .int (i2 r)), (0, .ref (ad 48)), (1, .int (i2 p1)), (2, .int (i2 p2)), (3, .int (i2 p3))]) X rfl dX2_moveBetters_31 hl (by decide) rfl (fun ls hl => ?_)
  refine lv_iload hx hb dX2_moveBetters_33 (lv_at hl 0 rfl) ?_
  refine lv_aload_n hx hb dX2_moveBetters_35 rfl (lv_at hl 1 rfl) ?_
  refine g_geti X w_M_3 fg_X2_48 KD_48 FR_48_5 dX2_moveBetters_36 ?_
  refine g_icmp_gt (tgt := 101) X hr (w_M_3.2.2 _ _) dX2_moveBetters_39 (by decide) (fun cd => ?_) (fun cd => ?_)
  · replace hf := ite_t cd hf
    refine lv_aload_n hx hb dX2_moveBetters_101 rfl (lv_at hl 1 rfl) ?_
    refine g_getr X w_M_3 fg_X2_9 KD_48 FR_48_2 dX2_moveBetters_102 ?_
    refine lv_iload_n hx hb dX2_moveBetters_105 rfl (lv_at hl 3 rfl) ?_
    refine lv_dup2_11 hx hb dX2_moveBetters_106 rfl rfl ?_
    obtain ⟨hg_5, hf⟩ := gd_some hf
    refine g_iald X w_M_3 KD_49 hp2 hg_5 dX2_moveBetters_107 ?_
    refine lv_iload_n hx hb dX2_moveBetters_108 rfl (lv_at hl 2 rfl) ?_
    refine g_ixor X dX2_moveBetters_109 ?_
    obtain ⟨hg_6, hf⟩ := gd_some hf
    obtain ⟨M_4, eM_4, hf⟩ := lt_some hf
    refine g_iast X w_M_3 KD_49 hp2 hg_6 (inR_toInt _) dX2_moveBetters_110 (fun H locs w_M_4 => ?_)
    rw [← eM_4] at w_M_4
    refine lv_aload_n hx hb dX2_moveBetters_111 rfl (lv_at hl 1 rfl) ?_
    refine g_getr X w_M_4 fg_X2_9 KD_48 FR_48_2 dX2_moveBetters_112 ?_
    refine lv_iload_n hx hb dX2_moveBetters_115 rfl (lv_at hl 4 rfl) ?_
    refine lv_dup2_11 hx hb dX2_moveBetters_116 rfl rfl ?_
    obtain ⟨hg_7, hf⟩ := gd_some hf
    refine g_iald X w_M_4 KD_49 hp3 hg_7 dX2_moveBetters_117 ?_
    refine lv_iload_n hx hb dX2_moveBetters_118 rfl (lv_at hl 2 rfl) ?_
    refine g_ixor X dX2_moveBetters_119 ?_
    obtain ⟨hg_8, hf⟩ := gd_some hf
    obtain ⟨M_5, eM_5, hf⟩ := lt_some hf
    refine g_iast X w_M_4 KD_49 hp3 hg_8 (inR_toInt _) dX2_moveBetters_120 (fun H locs w_M_5 => ?_)
    rw [← eM_5] at w_M_5
    refine g_iconst X dX2_moveBetters_121 ?_
    exact HR 0 M_5 _ _ _ _ (Option.some.inj hf).symm (Or.inl rfl) w_M_5 dX2_moveBetters_122
  · replace hf := ite_f cd hf
    refine lv_aload_n hx hb dX2_moveBetters_42 rfl (lv_at hl 1 rfl) ?_
    refine g_getr X w_M_3 fg_X2_22 KD_48 FR_48_1 dX2_moveBetters_43 ?_
    refine lv_aload_n hx hb dX2_moveBetters_46 rfl (lv_at hl 1 rfl) ?_
    refine g_getr X w_M_3 fg_X2_9 KD_48 FR_48_2 dX2_moveBetters_47 ?_
    obtain ⟨r_2, hc, hf⟩ := obn_some hf
    refine g_cvi (As := [.ref (ad 49)]) (rest := []) X w_M_3 (k_X4_isSound X.2.2.1 49 KA_49 w_M_3.2.2 hc) lk_X2_63 cl_4 KD_30 ⟨rfl, rfl⟩ ⟨nle rfl, nle rfl⟩ ⟨nle rfl, nle rfl⟩ hl.1 rfl (nle rfl) dX2_moveBetters_50 (fun hr_2 H locs w_M_3 => ?_)
    refine g_if_eq (tgt := 101) X hr_2 dX2_moveBetters_53 (by decide) (fun cd_2 => ?_) (fun cd_2 => ?_)
    · replace hf := ite_t cd_2 hf
      refine lv_aload_n hx hb dX2_moveBetters_101 rfl (lv_at hl 1 rfl) ?_
      refine g_getr X w_M_3 fg_X2_9 KD_48 FR_48_2 dX2_moveBetters_102 ?_
      refine lv_iload_n hx hb dX2_moveBetters_105 rfl (lv_at hl 3 rfl) ?_
      refine lv_dup2_11 hx hb dX2_moveBetters_106 rfl rfl ?_
      obtain ⟨hg_9, hf⟩ := gd_some hf
      refine g_iald X w_M_3 KD_49 hp2 hg_9 dX2_moveBetters_107 ?_
      refine lv_iload_n hx hb dX2_moveBetters_108 rfl (lv_at hl 2 rfl) ?_
      refine g_ixor X dX2_moveBetters_109 ?_
      obtain ⟨hg_10, hf⟩ := gd_some hf
      obtain ⟨M_6, eM_6, hf⟩ := lt_some hf
      refine g_iast X w_M_3 KD_49 hp2 hg_10 (inR_toInt _) dX2_moveBetters_110 (fun H locs w_M_6 => ?_)
      rw [← eM_6] at w_M_6
      refine lv_aload_n hx hb dX2_moveBetters_111 rfl (lv_at hl 1 rfl) ?_
      refine g_getr X w_M_6 fg_X2_9 KD_48 FR_48_2 dX2_moveBetters_112 ?_
      refine lv_iload_n hx hb dX2_moveBetters_115 rfl (lv_at hl 4 rfl) ?_
      refine lv_dup2_11 hx hb dX2_moveBetters_116 rfl rfl ?_
      obtain ⟨hg_11, hf⟩ := gd_some hf
      refine g_iald X w_M_6 KD_49 hp3 hg_11 dX2_moveBetters_117 ?_
      refine lv_iload_n hx hb dX2_moveBetters_118 rfl (lv_at hl 2 rfl) ?_
      refine g_ixor X dX2_moveBetters_119 ?_
      obtain ⟨hg_12, hf⟩ := gd_some hf
      obtain ⟨M_7, eM_7, hf⟩ := lt_some hf
      refine g_iast X w_M_6 KD_49 hp3 hg_12 (inR_toInt _) dX2_moveBetters_120 (fun H locs w_M_7 => ?_)
      rw [← eM_7] at w_M_7
      refine g_iconst X dX2_moveBetters_121 ?_
      exact HR 0 M_7 _ _ _ _ (Option.some.inj hf).symm (Or.inl rfl) w_M_7 dX2_moveBetters_122
    · replace hf := ite_f cd_2 hf
      refine lv_aload_n hx hb dX2_moveBetters_56 rfl (lv_at hl 1 rfl) ?_
      refine g_getr X w_M_3 fg_X2_22 KD_48 FR_48_1 dX2_moveBetters_57 ?_
      refine lv_aload_n hx hb dX2_moveBetters_60 rfl (lv_at hl 1 rfl) ?_
      refine g_getr X w_M_3 fg_X2_9 KD_48 FR_48_2 dX2_moveBetters_61 ?_
      obtain ⟨r_3, hc, hf⟩ := obn_some hf
      refine g_cvi (As := [.ref (ad 49)]) (rest := []) X w_M_3 (k_X4_harmOf X.2.2.1 49 KA_49 w_M_3.2.2 hc) lk_X2_51 cl_4 KD_30 ⟨rfl, rfl⟩ ⟨nle rfl, nle rfl⟩ ⟨nle rfl, nle rfl⟩ hl.1 rfl (nle rfl) dX2_moveBetters_64 (fun hr_3 H locs w_M_3 => ?_)
      refine g_ist (v := r_3) (lv' := [(5, .int (i2 r_3)), (4, .int (i2 r)), (0, .ref (ad 48)), (1, .int (i2 p1)), (2, .int (i2 p2)), (3, .int (i2 p3))]) X rfl dX2_moveBetters_67 hl (by decide) rfl (fun ls hl => ?_)
      refine lv_iload hx hb dX2_moveBetters_69 (lv_at hl 1 rfl) ?_
      refine lv_aload_n hx hb dX2_moveBetters_71 rfl (lv_at hl 2 rfl) ?_
      refine g_geti X w_M_3 fg_X2_48 KD_48 FR_48_5 dX2_moveBetters_72 ?_
      refine g_icmp_lt (tgt := 87) X hr (w_M_3.2.2 _ _) dX2_moveBetters_75 (by decide) (fun cd_3 => ?_) (fun cd_3 => ?_)
      · replace hf := ite_t cd_3 hf
        refine lv_aload_n hx hb dX2_moveBetters_87 rfl (lv_at hl 2 rfl) ?_
        refine lv_iload hx hb dX2_moveBetters_88 (lv_at hl 1 rfl) ?_
        obtain ⟨M_8, eM_8, hf⟩ := lt_some hf
        refine g_puti X w_M_3 fp_X2_48 KD_48 FR_48_5 hr dX2_moveBetters_90 (fun H locs w_M_8 => ?_)
        rw [← eM_8] at w_M_8
        refine lv_aload_n hx hb dX2_moveBetters_93 rfl (lv_at hl 2 rfl) ?_
        refine lv_iload hx hb dX2_moveBetters_94 (lv_at hl 0 rfl) ?_
        obtain ⟨M_9, eM_9, hf⟩ := lt_some hf
        refine g_puti X w_M_8 fp_X2_54 KD_48 FR_48_6 hr_3 dX2_moveBetters_96 (fun H locs w_M_9 => ?_)
        rw [← eM_9] at w_M_9
        refine g_iconst X dX2_moveBetters_99 ?_
        exact HR 1 M_9 _ _ _ _ (Option.some.inj hf).symm (Or.inr rfl) w_M_9 dX2_moveBetters_100
      · replace hf := ite_f cd_3 hf
        refine lv_iload hx hb dX2_moveBetters_78 (lv_at hl 0 rfl) ?_
        refine lv_aload_n hx hb dX2_moveBetters_80 rfl (lv_at hl 2 rfl) ?_
        refine g_geti X w_M_3 fg_X2_54 KD_48 FR_48_6 dX2_moveBetters_81 ?_
        refine g_icmp_ge (tgt := 101) X hr_3 (w_M_3.2.2 _ _) dX2_moveBetters_84 (by decide) (fun cd_4 => ?_) (fun cd_4 => ?_)
        · replace hf := ite_t cd_4 hf
          refine lv_aload_n hx hb dX2_moveBetters_101 rfl (lv_at hl 2 rfl) ?_
          refine g_getr X w_M_3 fg_X2_9 KD_48 FR_48_2 dX2_moveBetters_102 ?_
          refine lv_iload_n hx hb dX2_moveBetters_105 rfl (lv_at hl 4 rfl) ?_
          refine lv_dup2_11 hx hb dX2_moveBetters_106 rfl rfl ?_
          obtain ⟨hg_13, hf⟩ := gd_some hf
          refine g_iald X w_M_3 KD_49 hp2 hg_13 dX2_moveBetters_107 ?_
          refine lv_iload_n hx hb dX2_moveBetters_108 rfl (lv_at hl 3 rfl) ?_
          refine g_ixor X dX2_moveBetters_109 ?_
          obtain ⟨hg_14, hf⟩ := gd_some hf
          obtain ⟨M_10, eM_10, hf⟩ := lt_some hf
          refine g_iast X w_M_3 KD_49 hp2 hg_14 (inR_toInt _) dX2_moveBetters_110 (fun H locs w_M_10 => ?_)
          rw [← eM_10] at w_M_10
          refine lv_aload_n hx hb dX2_moveBetters_111 rfl (lv_at hl 2 rfl) ?_
          refine g_getr X w_M_10 fg_X2_9 KD_48 FR_48_2 dX2_moveBetters_112 ?_
          refine lv_iload_n hx hb dX2_moveBetters_115 rfl (lv_at hl 5 rfl) ?_
          refine lv_dup2_11 hx hb dX2_moveBetters_116 rfl rfl ?_
          obtain ⟨hg_15, hf⟩ := gd_some hf
          refine g_iald X w_M_10 KD_49 hp3 hg_15 dX2_moveBetters_117 ?_
          refine lv_iload_n hx hb dX2_moveBetters_118 rfl (lv_at hl 3 rfl) ?_
          refine g_ixor X dX2_moveBetters_119 ?_
          obtain ⟨hg_16, hf⟩ := gd_some hf
          obtain ⟨M_11, eM_11, hf⟩ := lt_some hf
          refine g_iast X w_M_10 KD_49 hp3 hg_16 (inR_toInt _) dX2_moveBetters_120 (fun H locs w_M_11 => ?_)
          rw [← eM_11] at w_M_11
          refine g_iconst X dX2_moveBetters_121 ?_
          exact HR 0 M_11 _ _ _ _ (Option.some.inj hf).symm (Or.inl rfl) w_M_11 dX2_moveBetters_122
        · replace hf := ite_f cd_4 hf
          refine lv_aload_n hx hb dX2_moveBetters_87 rfl (lv_at hl 2 rfl) ?_
          refine lv_iload hx hb dX2_moveBetters_88 (lv_at hl 1 rfl) ?_
          obtain ⟨M_12, eM_12, hf⟩ := lt_some hf
          refine g_puti X w_M_3 fp_X2_48 KD_48 FR_48_5 hr dX2_moveBetters_90 (fun H locs w_M_12 => ?_)
          rw [← eM_12] at w_M_12
          refine lv_aload_n hx hb dX2_moveBetters_93 rfl (lv_at hl 2 rfl) ?_
          refine lv_iload hx hb dX2_moveBetters_94 (lv_at hl 0 rfl) ?_
          obtain ⟨M_13, eM_13, hf⟩ := lt_some hf
          refine g_puti X w_M_12 fp_X2_54 KD_48 FR_48_6 hr_3 dX2_moveBetters_96 (fun H locs w_M_13 => ?_)
          rw [← eM_13] at w_M_13
          refine g_iconst X dX2_moveBetters_99 ?_
          exact HR 1 M_13 _ _ _ _ (Option.some.inj hf).symm (Or.inr rfl) w_M_13 dX2_moveBetters_100
set_option maxRecDepth 100000 in
set_option maxHeartbeats 4000000 in
theorem k_X2_moveBetters {l : Launch} {D : va_G} {aC : Nat → ClassId} {ad : Nat → Nat} {sg : SG} (hi : Inj ad) (p1 : Int) (hp1 : inR p1) (p2 : Int) (hp2 : inR p2) (p3 : Int) (hp3 : inR p3) {M : Mem} (hM : inM M) {r : Int} {M' : Mem} (hf : f_X2_moveBetters p1 p2 p3 M = some (r, M')) : MetI l D aC ad sg yX2_moveBetters cX2_moveBetters 6 (some .boolean) rm_X2_moveBetters 0 0 [.ref (ad 48), .int (i2 p1), .int (i2 p2), .int (i2 p3)] M r M' := by
  refine MetI.ofZ (by decide +kernel) (nle rfl) hi hM (fun p e s m args below meth c Q H0 ls X hl w hret => ?_)
  exact b_X2_moveBetters_0 X  (fun r1 M1 H locs pc ls eo hP w dg => by cases eo; exact hret H locs pc ls hP w dg) p1 hp1 p2 hp2 p3 hp3 M hf hl w
set_option maxRecDepth 100000 in
set_option maxHeartbeats 4000000 in
theorem b_X2_stepsByMove_s22 (X : CX p s m args c cX2_stepsByMove 4 RX2 D aC ad sg A H0) (v1 : Int) (hv1 : inR v1) (v2 : Int) (hv2 : inR v2) {o : (Int × Mem) ⊕ ((Int × Mem) ⊕ (Int × Mem))} (HC : ∀ (y3 : Int) (M1 : Mem) (H : Heap) (locs : List Loc) (ls : Array Slot), o = .inl (y3, M1) → inR y3 → lv_has ls 4 [(0, .ref (ad 48)), (1, .int (i2 v1)), (2, .int (i2 v2)), (3, .int (i2 y3))] → WS D aC ad A H0 M1 H locs → W p l e rm_X2_stepsByMove s m args below meth c H locs 0 0 Q (F0 m 22 ls [])) (HE : ∀ (y3 : Int) (M1 : Mem) (H : Heap) (locs : List Loc) (ls : Array Slot), o = .inr (.inl (y3, M1)) → inR y3 → lv_has ls 4 [(0, .ref (ad 48)), (1, .int (i2 v1)), (2, .int (i2 v2)), (3, .int (i2 y3))] → WS D aC ad A H0 M1 H locs → W p l e rm_X2_stepsByMove s m args below meth c H locs 0 0 Q (F0 m 65 ls [])) (HR : ∀ (r : Int) (M1 : Mem) (H : Heap) (locs : List Loc) (pc : Nat) (ls : Array Slot), o = .inr (.inr (r, M1)) → isZ r → WS D aC ad A H0 M1 H locs → decode cX2_stepsByMove pc = .ok (.ireturn, 1) → W p l e rm_X2_stepsByMove s m args below meth c H locs 0 0 Q (F0 m pc ls [.int (i2 r)])) (v3 : Int) (hv3 : inR v3) (M : Mem) (hf : f_X2_stepsByMove_s22 v1 v2 v3 M = some o) {H : Heap} {locs : List Loc} {ls : Array Slot} (hl : lv_has ls 4 [(0, .ref (ad 48)), (1, .int (i2 v1)), (2, .int (i2 v2)), (3, .int (i2 v3))]) (w : WS D aC ad A H0 M H locs) : W p l e rm_X2_stepsByMove s m args below meth c H locs 0 0 Q (F0 m 22 ls []) := by
  have hx := X.1.1
  have hb := X.1.2.1
  unfold f_X2_stepsByMove_s22 at hf
  refine lv_iload_n hx hb dX2_stepsByMove_22 rfl (lv_at hl 3 rfl) ?_
  refine lv_aload_n hx hb dX2_stepsByMove_23 rfl (lv_at hl 0 rfl) ?_
  refine g_getr X w fg_X2_18 KD_48 FR_48_0 dX2_stepsByMove_24 ?_
  refine g_geti X w fg_X2_60 KD_3 FR_3_13 dX2_stepsByMove_27 ?_
  refine g_icmp_ge (tgt := 65) X hv3 (w.2.2 _ _) dX2_stepsByMove_30 (by decide) (fun cd => ?_) (fun cd => ?_)
  · replace hf := ite_t cd hf
    exact HE v3 M _ _ _ (Option.some.inj hf).symm hv3 hl w
  · replace hf := ite_f cd hf
    refine lv_iload_n hx hb dX2_stepsByMove_33 rfl (lv_at hl 3 rfl) ?_
    refine lv_iload_n hx hb dX2_stepsByMove_34 rfl (lv_at hl 2 rfl) ?_
    refine g_icmp_eq (tgt := 59) X hv3 hv2 dX2_stepsByMove_35 (by decide) (fun cd_2 => ?_) (fun cd_2 => ?_)
    · replace hf := ite_t cd_2 hf
      obtain ⟨v3_2, ev3_2, hf⟩ := lt_some hf
      have hv3_2 : inR v3_2 := inR_of ev3_2 (inR_wrap _)
      refine lv_iinc (v := i2 v3_2) (lv' := [(3, .int (i2 v3_2)), (0, .ref (ad 48)), (1, .int (i2 v1)), (2, .int (i2 v2))]) hx hb dX2_stepsByMove_59 hl (k := 3) rfl (by rw [ev3_2]; exact i2_add _ _) (by decide) rfl (fun ls hl => ?_)
      refine lv_goto (tgt := 22) hx hb dX2_stepsByMove_62 (by decide) ?_
      exact HC v3_2 M _ _ _ (Option.some.inj hf).symm hv3_2 (lv_sub hl [1, 2, 3, 0] rfl) w
    · replace hf := ite_f cd_2 hf
      refine lv_aload_n hx hb dX2_stepsByMove_38 rfl (lv_at hl 0 rfl) ?_
      refine g_iconst X dX2_stepsByMove_39 ?_
      refine lv_iload_n hx hb dX2_stepsByMove_40 rfl (lv_at hl 1 rfl) ?_
      refine g_ishl X dX2_stepsByMove_41 ?_
      refine lv_iload_n hx hb dX2_stepsByMove_42 rfl (lv_at hl 2 rfl) ?_
      refine lv_iload_n hx hb dX2_stepsByMove_43 rfl (lv_at hl 3 rfl) ?_
      obtain ⟨r, M_2, hc, hf⟩ := bnd_some hf
      refine g_cvi (As := [.int (i2 (bshl 1 v1)), .int (i2 v2), .int (i2 v3)]) (rest := []) X w (k_X2_moveBetters X.2.2.1 (bshl 1 v1) (inR_toInt _) v2 hv2 v3 hv3 w.2.2 hc) lk_X2_75 cl_2 KD_48 ⟨rfl, rfl⟩ ⟨nle rfl, nle rfl⟩ ⟨nle rfl, nle rfl⟩ hl.1 rfl (nle rfl) dX2_stepsByMove_44 (fun hr H locs w_M_2 => ?_)
      refine g_if_eq (tgt := 59) X hr dX2_stepsByMove_47 (by decide) (fun cd_3 => ?_) (fun cd_3 => ?_)
      · replace hf := ite_t cd_3 hf
        obtain ⟨v3_3, ev3_3, hf⟩ := lt_some hf
        have hv3_3 : inR v3_3 := inR_of ev3_3 (inR_wrap _)
        refine lv_iinc (v := i2 v3_3) (lv' := [(3, .int (i2 v3_3)), (0, .ref (ad 48)), (1, .int (i2 v1)), (2, .int (i2 v2))]) hx hb dX2_stepsByMove_59 hl (k := 3) rfl (by rw [ev3_3]; exact i2_add _ _) (by decide) rfl (fun ls hl => ?_)
        refine lv_goto (tgt := 22) hx hb dX2_stepsByMove_62 (by decide) ?_
        exact HC v3_3 M_2 _ _ _ (Option.some.inj hf).symm hv3_3 (lv_sub hl [1, 2, 3, 0] rfl) w_M_2
      · replace hf := ite_f cd_3 hf
        refine lv_aload_n hx hb dX2_stepsByMove_50 rfl (lv_at hl 0 rfl) ?_
        refine g_getr X w_M_2 fg_X2_15 KD_48 FR_48_3 dX2_stepsByMove_51 ?_
        refine lv_iload_n hx hb dX2_stepsByMove_54 rfl (lv_at hl 1 rfl) ?_
        refine lv_iload_n hx hb dX2_stepsByMove_55 rfl (lv_at hl 3 rfl) ?_
        obtain ⟨hg, hf⟩ := gd_some hf
        obtain ⟨M_3, eM_3, hf⟩ := lt_some hf
        refine g_iast X w_M_2 KD_50 hv1 hg hv3 dX2_stepsByMove_56 (fun H locs w_M_3 => ?_)
        rw [← eM_3] at w_M_3
        refine g_iconst X dX2_stepsByMove_57 ?_
        exact HR 1 M_3 _ _ _ _ (Option.some.inj hf).symm (Or.inr rfl) w_M_3 dX2_stepsByMove_58
set_option maxRecDepth 100000 in
set_option maxHeartbeats 4000000 in
theorem l_X2_stepsByMove_22 (X : CX p s m args c cX2_stepsByMove 4 RX2 D aC ad sg A H0) (v1 : Int) (hv1 : inR v1) (v2 : Int) (hv2 : inR v2) {out : (Int × Mem) ⊕ (Int × Mem)} (HE : ∀ (y3 : Int) (M1 : Mem) (H : Heap) (locs : List Loc) (ls : Array Slot), out = .inl (y3, M1) → inR y3 → lv_has ls 4 [(0, .ref (ad 48)), (1, .int (i2 v1)), (2, .int (i2 v2)), (3, .int (i2 y3))] → WS D aC ad A H0 M1 H locs → W p l e rm_X2_stepsByMove s m args below meth c H locs 0 0 Q (F0 m 65 ls [])) (HR : ∀ (r : Int) (M1 : Mem) (H : Heap) (locs : List Loc) (pc : Nat) (ls : Array Slot), out = .inr (r, M1) → isZ r → WS D aC ad A H0 M1 H locs → decode cX2_stepsByMove pc = .ok (.ireturn, 1) → W p l e rm_X2_stepsByMove s m args below meth c H locs 0 0 Q (F0 m pc ls [.int (i2 r)])) : ∀ (n : Nat) (v3 : Int) (M : Mem), whl (fun s => f_X2_stepsByMove_s22 v1 v2 s.1 s.2) n (v3, M) = some out → inR v3 → ∀ {H : Heap} {locs : List Loc} {ls : Array Slot}, lv_has ls 4 [(0, .ref (ad 48)), (1, .int (i2 v1)), (2, .int (i2 v2)), (3, .int (i2 v3))] → WS D aC ad A H0 M H locs → W p l e rm_X2_stepsByMove s m args below meth c H locs 0 0 Q (F0 m 22 ls []) := by
  intro n
  induction n with
  | zero => intro v3 M hf; exact (whl_zero hf).elim
  | succ n ih =>
    intro v3 M hf hv3 H locs ls hl w
    obtain ⟨o, hf, hk1, hk2⟩ := whl_step hf
    exact b_X2_stepsByMove_s22 X v1 hv1 v2 hv2 (fun y3 M1 H locs ls eo hy3 hl w => ih y3 M1 (hk1 _ eo) hy3 hl w) (fun y3 M1 H locs ls eo hy3 hl w => HE y3 M1 H locs ls (hk2 _ eo).symm hy3 hl w) (fun r M1 H locs pc ls eo hP w dg => HR r M1 H locs pc ls (hk2 _ eo).symm hP w dg) v3 hv3 M hf hl w
set_option maxRecDepth 100000 in
set_option maxHeartbeats 4000000 in
theorem b_X2_stepsByMove_j65k2 (X : CX p s m args c cX2_stepsByMove 4 RX2 D aC ad sg A H0) {o : (Int × Mem) ⊕ ((Int × Mem) ⊕ (Int × Mem))} (HC : ∀ (y1 : Int) (M1 : Mem) (H : Heap) (locs : List Loc) (ls : Array Slot), o = .inl (y1, M1) → inR y1 → lv_has ls 4 [(0, .ref (ad 48)), (1, .int (i2 y1))] → WS D aC ad A H0 M1 H locs → W p l e rm_X2_stepsByMove s m args below meth c H locs 0 0 Q (F0 m 2 ls [])) (HE : ∀ (y1 : Int) (M1 : Mem) (H : Heap) (locs : List Loc) (ls : Array Slot), o = .inr (.inl (y1, M1)) → inR y1 → lv_has ls 4 [(0, .ref (ad 48)), (1, .int (i2 y1))] → WS D aC ad A H0 M1 H locs → W p l e rm_X2_stepsByMove s m args below meth c H locs 0 0 Q (F0 m 71 ls [])) (HR : ∀ (r : Int) (M1 : Mem) (H : Heap) (locs : List Loc) (pc : Nat) (ls : Array Slot), o = .inr (.inr (r, M1)) → isZ r → WS D aC ad A H0 M1 H locs → decode cX2_stepsByMove pc = .ok (.ireturn, 1) → W p l e rm_X2_stepsByMove s m args below meth c H locs 0 0 Q (F0 m pc ls [.int (i2 r)])) (v1 : Int) (hv1 : inR v1) (M : Mem) (hf : f_X2_stepsByMove_j65k2 v1 M = some o) {H : Heap} {locs : List Loc} {ls : Array Slot} (hl : lv_has ls 4 [(0, .ref (ad 48)), (1, .int (i2 v1))]) (w : WS D aC ad A H0 M H locs) : W p l e rm_X2_stepsByMove s m args below meth c H locs 0 0 Q (F0 m 65 ls []) := by
  have hx := X.1.1
  have hb := X.1.2.1
  unfold f_X2_stepsByMove_j65k2 at hf
  obtain ⟨v1_2, ev1_2, hf⟩ := lt_some hf
  have hv1_2 : inR v1_2 := inR_of ev1_2 (inR_wrap _)
  refine lv_iinc (v := i2 v1_2) (lv' := [(1, .int (i2 v1_2)), (0, .ref (ad 48))]) hx hb dX2_stepsByMove_65 hl (k := 1) rfl (by rw [ev1_2]; exact i2_add _ _) (by decide) rfl (fun ls hl => ?_)
  refine lv_goto (tgt := 2) hx hb dX2_stepsByMove_68 (by decide) ?_
  exact HC v1_2 M _ _ _ (Option.some.inj hf).symm hv1_2 (lv_sub hl [1, 0] rfl) w
set_option maxRecDepth 100000 in
set_option maxHeartbeats 4000000 in
theorem b_X2_stepsByMove_s2 (X : CX p s m args c cX2_stepsByMove 4 RX2 D aC ad sg A H0) {o : (Int × Mem) ⊕ ((Int × Mem) ⊕ (Int × Mem))} (HC : ∀ (y1 : Int) (M1 : Mem) (H : Heap) (locs : List Loc) (ls : Array Slot), o = .inl (y1, M1) → inR y1 → lv_has ls 4 [(0, .ref (ad 48)), (1, .int (i2 y1))] → WS D aC ad A H0 M1 H locs → W p l e rm_X2_stepsByMove s m args below meth c H locs 0 0 Q (F0 m 2 ls [])) (HE : ∀ (y1 : Int) (M1 : Mem) (H : Heap) (locs : List Loc) (ls : Array Slot), o = .inr (.inl (y1, M1)) → inR y1 → lv_has ls 4 [(0, .ref (ad 48)), (1, .int (i2 y1))] → WS D aC ad A H0 M1 H locs → W p l e rm_X2_stepsByMove s m args below meth c H locs 0 0 Q (F0 m 71 ls [])) (HR : ∀ (r : Int) (M1 : Mem) (H : Heap) (locs : List Loc) (pc : Nat) (ls : Array Slot), o = .inr (.inr (r, M1)) → isZ r → WS D aC ad A H0 M1 H locs → decode cX2_stepsByMove pc = .ok (.ireturn, 1) → W p l e rm_X2_stepsByMove s m args below meth c H locs 0 0 Q (F0 m pc ls [.int (i2 r)])) (v1 : Int) (hv1 : inR v1) (M : Mem) (hf : f_X2_stepsByMove_s2 v1 M = some o) {H : Heap} {locs : List Loc} {ls : Array Slot} (hl : lv_has ls 4 [(0, .ref (ad 48)), (1, .int (i2 v1))]) (w : WS D aC ad A H0 M H locs) : W p l e rm_X2_stepsByMove s m args below meth c H locs 0 0 Q (F0 m 2 ls []) := by
  have hx := X.1.1
  have hb := X.1.2.1
  unfold f_X2_stepsByMove_s2 at hf
  refine lv_iload_n hx hb dX2_stepsByMove_2 rfl (lv_at hl 1 rfl) ?_
  refine lv_aload_n hx hb dX2_stepsByMove_3 rfl (lv_at hl 0 rfl) ?_
  refine g_getr X w fg_X2_18 KD_48 FR_48_0 dX2_stepsByMove_4 ?_
  refine g_geti X w fg_X2_32 KD_3 FR_3_0 dX2_stepsByMove_7 ?_
  refine g_icmp_ge (tgt := 71) X hv1 (w.2.2 _ _) dX2_stepsByMove_10 (by decide) (fun cd => ?_) (fun cd => ?_)
  · replace hf := ite_t cd hf
    exact HE v1 M _ _ _ (Option.some.inj hf).symm hv1 hl w
  · replace hf := ite_f cd hf
    refine lv_aload_n hx hb dX2_stepsByMove_13 rfl (lv_at hl 0 rfl) ?_
    refine g_getr X w fg_X2_15 KD_48 FR_48_3 dX2_stepsByMove_14 ?_
    refine lv_iload_n hx hb dX2_stepsByMove_17 rfl (lv_at hl 1 rfl) ?_
    obtain ⟨hg, hf⟩ := gd_some hf
    refine g_iald X w KD_50 hv1 hg dX2_stepsByMove_18 ?_
    obtain ⟨v2, ev2, hf⟩ := lt_some hf
    have hv2 : inR v2 := inR_of ev2 (w.2.2 _ _)
    refine g_istn (v := v2) (lv' := [(2, .int (i2 v2)), (0, .ref (ad 48)), (1, .int (i2 v1))]) X ev2 dX2_stepsByMove_19 rfl hl (by decide) rfl (fun ls hl => ?_)
    refine g_iconst X dX2_stepsByMove_20 ?_
    refine g_istn (v := 0) (lv' := [(3, .int (i2 0)), (2, .int (i2 v2)), (0, .ref (ad 48)), (1, .int (i2 v1))]) X rfl dX2_stepsByMove_21 rfl hl (by decide) rfl (fun ls hl => ?_)
    obtain ⟨q, hq, h1, h2⟩ := lpr_some hf
    exact l_X2_stepsByMove_22 X v1 hv1 v2 hv2 (out := q) (fun y3 M1 H locs ls eq hy3 hl w => b_X2_stepsByMove_j65k2 X  HC HE HR v1 hv1 M1 (h1 _ eq) (lv_sub hl [0, 1] rfl) w) (fun r M1 H locs pc ls eq hP w dg => HR r M1 H locs pc ls (Option.some.inj (h2 _ eq)).symm hP w dg) FU 0 M hq (inL rfl) (lv_sub hl [2, 3, 1, 0] rfl) w
set_option maxRecDepth 100000 in
set_option maxHeartbeats 4000000 in
theorem l_X2_stepsByMove_2 (X : CX p s m args c cX2_stepsByMove 4 RX2 D aC ad sg A H0) {out : (Int × Mem) ⊕ (Int × Mem)} (HE : ∀ (y1 : Int) (M1 : Mem) (H : Heap) (locs : List Loc) (ls : Array Slot), out = .inl (y1, M1) → inR y1 → lv_has ls 4 [(0, .ref (ad 48)), (1, .int (i2 y1))] → WS D aC ad A H0 M1 H locs → W p l e rm_X2_stepsByMove s m args below meth c H locs 0 0 Q (F0 m 71 ls [])) (HR : ∀ (r : Int) (M1 : Mem) (H : Heap) (locs : List Loc) (pc : Nat) (ls : Array Slot), out = .inr (r, M1) → isZ r → WS D aC ad A H0 M1 H locs → decode cX2_stepsByMove pc = .ok (.ireturn, 1) → W p l e rm_X2_stepsByMove s m args below meth c H locs 0 0 Q (F0 m pc ls [.int (i2 r)])) : ∀ (n : Nat) (v1 : Int) (M : Mem), whl (fun s => f_X2_stepsByMove_s2 s.1 s.2) n (v1, M) = some out → inR v1 → ∀ {H : Heap} {locs : List Loc} {ls : Array Slot}, lv_has ls 4 [(0, .ref (ad 48)), (1, .int (i2 v1))] → WS D aC ad A H0 M H locs → W p l e rm_X2_stepsByMove s m args below meth c H locs 0 0 Q (F0 m 2 ls []) := by
  intro n
  induction n with
  | zero => intro v1 M hf; exact (whl_zero hf).elim
  | succ n ih =>
    intro v1 M hf hv1 H locs ls hl w
    obtain ⟨o, hf, hk1, hk2⟩ := whl_step hf
    exact b_X2_stepsByMove_s2 X  (fun y1 M1 H locs ls eo hy1 hl w => ih y1 M1 (hk1 _ eo) hy1 hl w) (fun y1 M1 H locs ls eo hy1 hl w => HE y1 M1 H locs ls (hk2 _ eo).symm hy1 hl w) (fun r M1 H locs pc ls eo hP w dg => HR r M1 H locs pc ls (hk2 _ eo).symm hP w dg) v1 hv1 M hf hl w
set_option maxRecDepth 100000 in
set_option maxHeartbeats 4000000 in
theorem b_X2_stepsByMove_j71 (X : CX p s m args c cX2_stepsByMove 4 RX2 D aC ad sg A H0) {o : Int × Mem} (HR : ∀ (r : Int) (M1 : Mem) (H : Heap) (locs : List Loc) (pc : Nat) (ls : Array Slot), o = (r, M1) → isZ r → WS D aC ad A H0 M1 H locs → decode cX2_stepsByMove pc = .ok (.ireturn, 1) → W p l e rm_X2_stepsByMove s m args below meth c H locs 0 0 Q (F0 m pc ls [.int (i2 r)])) (M : Mem) (hf : f_X2_stepsByMove_j71 M = some o) {H : Heap} {locs : List Loc} {ls : Array Slot} (hl : lv_has ls 4 []) (w : WS D aC ad A H0 M H locs) : W p l e rm_X2_stepsByMove s m args below meth c H locs 0 0 Q (F0 m 71 ls []) := by
  have hx := X.1.1
  have hb := X.1.2.1
  unfold f_X2_stepsByMove_j71 at hf
  refine g_iconst X dX2_stepsByMove_71 ?_
  exact HR 0 M _ _ _ _ (Option.some.inj hf).symm (Or.inl rfl) w dX2_stepsByMove_72
set_option maxRecDepth 100000 in
set_option maxHeartbeats 4000000 in
theorem b_X2_stepsByMove_0 (X : CX p s m args c cX2_stepsByMove 4 RX2 D aC ad sg A H0) {o : Int × Mem} (HR : ∀ (r : Int) (M1 : Mem) (H : Heap) (locs : List Loc) (pc : Nat) (ls : Array Slot), o = (r, M1) → isZ r → WS D aC ad A H0 M1 H locs → decode cX2_stepsByMove pc = .ok (.ireturn, 1) → W p l e rm_X2_stepsByMove s m args below meth c H locs 0 0 Q (F0 m pc ls [.int (i2 r)])) (M : Mem) (hf : f_X2_stepsByMove M = some o) {H : Heap} {locs : List Loc} {ls : Array Slot} (hl : lv_has ls 4 [(0, .ref (ad 48))]) (w : WS D aC ad A H0 M H locs) : W p l e rm_X2_stepsByMove s m args below meth c H locs 0 0 Q (F0 m 0 ls []) := by
  have hx := X.1.1
  have hb := X.1.2.1
  unfold f_X2_stepsByMove at hf
  refine g_iconst X dX2_stepsByMove_0 ?_
  refine g_istn (v := 0) (lv' := [(1, .int (i2 0)), (0, .ref (ad 48))]) X rfl dX2_stepsByMove_1 rfl hl (by decide) rfl (fun ls hl => ?_)
  obtain ⟨q, hq, h1, h2⟩ := lpr_some hf
  exact l_X2_stepsByMove_2 X  (out := q) (fun y1 M1 H locs ls eq hy1 hl w => b_X2_stepsByMove_j71 X  HR M1 (h1 _ eq) (lv_sub hl [] rfl) w) (fun r M1 H locs pc ls eq hP w dg => HR r M1 H locs pc ls (Option.some.inj (h2 _ eq)).symm hP w dg) FU 0 M hq (inL rfl) (lv_sub hl [1, 0] rfl) w
set_option maxRecDepth 100000 in
set_option maxHeartbeats 4000000 in
theorem k_X2_stepsByMove {l : Launch} {D : va_G} {aC : Nat → ClassId} {ad : Nat → Nat} {sg : SG} (hi : Inj ad)  {M : Mem} (hM : inM M) {r : Int} {M' : Mem} (hf : f_X2_stepsByMove M = some (r, M')) : MetI l D aC ad sg yX2_stepsByMove cX2_stepsByMove 4 (some .boolean) rm_X2_stepsByMove 0 0 [.ref (ad 48)] M r M' := by
  refine MetI.ofZ (by decide +kernel) (nle rfl) hi hM (fun p e s m args below meth c Q H0 ls X hl w hret => ?_)
  exact b_X2_stepsByMove_0 X  (fun r1 M1 H locs pc ls eo hP w dg => by cases eo; exact hret H locs pc ls hP w dg) M hf hl w
set_option maxRecDepth 100000 in
set_option maxHeartbeats 4000000 in
theorem b_X2_stepsBySwap_s17 (X : CX p s m args c cX2_stepsBySwap 5 RX2 D aC ad sg A H0) (v1 : Int) (hv1 : inR v1) {o : (Int × Mem) ⊕ ((Int × Mem) ⊕ (Int × Mem))} (HC : ∀ (y2 : Int) (M1 : Mem) (H : Heap) (locs : List Loc) (ls : Array Slot), o = .inl (y2, M1) → inR y2 → lv_has ls 5 [(0, .ref (ad 48)), (1, .int (i2 v1)), (2, .int (i2 y2))] → WS D aC ad A H0 M1 H locs → W p l e rm_X2_stepsBySwap s m args below meth c H locs 0 0 Q (F0 m 17 ls [])) (HE : ∀ (y2 : Int) (M1 : Mem) (H : Heap) (locs : List Loc) (ls : Array Slot), o = .inr (.inl (y2, M1)) → inR y2 → lv_has ls 5 [(0, .ref (ad 48)), (1, .int (i2 v1)), (2, .int (i2 y2))] → WS D aC ad A H0 M1 H locs → W p l e rm_X2_stepsBySwap s m args below meth c H locs 0 0 Q (F0 m 89 ls [])) (HR : ∀ (r : Int) (M1 : Mem) (H : Heap) (locs : List Loc) (pc : Nat) (ls : Array Slot), o = .inr (.inr (r, M1)) → isZ r → WS D aC ad A H0 M1 H locs → decode cX2_stepsBySwap pc = .ok (.ireturn, 1) → W p l e rm_X2_stepsBySwap s m args below meth c H locs 0 0 Q (F0 m pc ls [.int (i2 r)])) (v2 : Int) (hv2 : inR v2) (M : Mem) (hf : f_X2_stepsBySwap_s17 v1 v2 M = some o) {H : Heap} {locs : List Loc} {ls : Array Slot} (hl : lv_has ls 5 [(0, .ref (ad 48)), (1, .int (i2 v1)), (2, .int (i2 v2))]) (w : WS D aC ad A H0 M H locs) : W p l e rm_X2_stepsBySwap s m args below meth c H locs 0 0 Q (F0 m 17 ls []) := by
  have hx := X.1.1
  have hb := X.1.2.1
  unfold f_X2_stepsBySwap_s17 at hf
  refine lv_iload_n hx hb dX2_stepsBySwap_17 rfl (lv_at hl 2 rfl) ?_
  refine lv_aload_n hx hb dX2_stepsBySwap_18 rfl (lv_at hl 0 rfl) ?_
  refine g_getr X w fg_X2_18 KD_48 FR_48_0 dX2_stepsBySwap_19 ?_
  refine g_geti X w fg_X2_32 KD_3 FR_3_0 dX2_stepsBySwap_22 ?_
  refine g_icmp_ge (tgt := 89) X hv2 (w.2.2 _ _) dX2_stepsBySwap_25 (by decide) (fun cd => ?_) (fun cd => ?_)
  · replace hf := ite_t cd hf
    exact HE v2 M _ _ _ (Option.some.inj hf).symm hv2 hl w
  · replace hf := ite_f cd hf
    refine lv_aload_n hx hb dX2_stepsBySwap_28 rfl (lv_at hl 0 rfl) ?_
    refine g_getr X w fg_X2_15 KD_48 FR_48_3 dX2_stepsBySwap_29 ?_
    refine lv_iload_n hx hb dX2_stepsBySwap_32 rfl (lv_at hl 1 rfl) ?_
    obtain ⟨hg, hf⟩ := gd_some hf
    refine g_iald X w KD_50 hv1 hg dX2_stepsBySwap_33 ?_
    obtain ⟨v3, ev3, hf⟩ := lt_some hf
    have hv3 : inR v3 := inR_of ev3 (w.2.2 _ _)
    refine g_istn (v := v3) (lv' := [(3, .int (i2 v3)), (0, .ref (ad 48)), (1, .int (i2 v1)), (2, .int (i2 v2))]) X ev3 dX2_stepsBySwap_34 rfl hl (by decide) rfl (fun ls hl => ?_)
    refine lv_aload_n hx hb dX2_stepsBySwap_35 rfl (lv_at hl 1 rfl) ?_
    refine g_getr X w fg_X2_15 KD_48 FR_48_3 dX2_stepsBySwap_36 ?_
    refine lv_iload_n hx hb dX2_stepsBySwap_39 rfl (lv_at hl 3 rfl) ?_
    obtain ⟨hg_2, hf⟩ := gd_some hf
    refine g_iald X w KD_50 hv2 hg_2 dX2_stepsBySwap_40 ?_
    obtain ⟨v4, ev4, hf⟩ := lt_some hf
    have hv4 : inR v4 := inR_of ev4 (w.2.2 _ _)
    refine g_ist (v := v4) (lv' := [(4, .int (i2 v4)), (3, .int (i2 v3)), (0, .ref (ad 48)), (1, .int (i2 v1)), (2, .int (i2 v2))]) X ev4 dX2_stepsBySwap_41 hl (by decide) rfl (fun ls hl => ?_)
    refine lv_iload_n hx hb dX2_stepsBySwap_43 rfl (lv_at hl 1 rfl) ?_
    refine lv_iload hx hb dX2_stepsBySwap_44 (lv_at hl 0 rfl) ?_
    refine g_icmp_eq (tgt := 83) X hv3 hv4 dX2_stepsBySwap_46 (by decide) (fun cd_2 => ?_) (fun cd_2 => ?_)
    · replace hf := ite_t cd_2 hf
      obtain ⟨v2_2, ev2_2, hf⟩ := lt_some hf
      have hv2_2 : inR v2_2 := inR_of ev2_2 (inR_wrap _)
      refine lv_iinc (v := i2 v2_2) (lv' := [(2, .int (i2 v2_2)), (4, .int (i2 v4)), (3, .int (i2 v3)), (0, .ref (ad 48)), (1, .int (i2 v1))]) hx hb dX2_stepsBySwap_83 hl (k := 4) rfl (by rw [ev2_2]; exact i2_add _ _) (by decide) rfl (fun ls hl => ?_)
      refine lv_goto (tgt := 17) hx hb dX2_stepsBySwap_86 (by decide) ?_
      exact HC v2_2 M _ _ _ (Option.some.inj hf).symm hv2_2 (lv_sub hl [3, 4, 0] rfl) w
    · replace hf := ite_f cd_2 hf
      refine lv_aload_n hx hb dX2_stepsBySwap_49 rfl (lv_at hl 2 rfl) ?_
      refine g_iconst X dX2_stepsBySwap_50 ?_
      refine lv_iload_n hx hb dX2_stepsBySwap_51 rfl (lv_at hl 3 rfl) ?_
      refine g_ishl X dX2_stepsBySwap_52 ?_
      refine g_iconst X dX2_stepsBySwap_53 ?_
      refine lv_iload_n hx hb dX2_stepsBySwap_54 rfl (lv_at hl 4 rfl) ?_
      refine g_ishl X dX2_stepsBySwap_55 ?_
      refine g_ior X dX2_stepsBySwap_56 ?_
      refine lv_iload_n hx hb dX2_stepsBySwap_57 rfl (lv_at hl 1 rfl) ?_
      refine lv_iload hx hb dX2_stepsBySwap_58 (lv_at hl 0 rfl) ?_
      obtain ⟨r, M_2, hc, hf⟩ := bnd_some hf
      refine g_cvi (As := [.int (i2 (bor (bshl 1 v1) (bshl 1 v2))), .int (i2 v3), .int (i2 v4)]) (rest := []) X w (k_X2_moveBetters X.2.2.1 (bor (bshl 1 v1) (bshl 1 v2)) (inR_toInt _) v3 hv3 v4 hv4 w.2.2 hc) lk_X2_75 cl_2 KD_48 ⟨rfl, rfl⟩ ⟨nle rfl, nle rfl⟩ ⟨nle rfl, nle rfl⟩ hl.1 rfl (nle rfl) dX2_stepsBySwap_60 (fun hr H locs w_M_2 => ?_)
      refine g_if_eq (tgt := 83) X hr dX2_stepsBySwap_63 (by decide) (fun cd_3 => ?_) (fun cd_3 => ?_)
      · replace hf := ite_t cd_3 hf
        obtain ⟨v2_3, ev2_3, hf⟩ := lt_some hf
        have hv2_3 : inR v2_3 := inR_of ev2_3 (inR_wrap _)
        refine lv_iinc (v := i2 v2_3) (lv' := [(2, .int (i2 v2_3)), (4, .int (i2 v4)), (3, .int (i2 v3)), (0, .ref (ad 48)), (1, .int (i2 v1))]) hx hb dX2_stepsBySwap_83 hl (k := 4) rfl (by rw [ev2_3]; exact i2_add _ _) (by decide) rfl (fun ls hl => ?_)
        refine lv_goto (tgt := 17) hx hb dX2_stepsBySwap_86 (by decide) ?_
        exact HC v2_3 M_2 _ _ _ (Option.some.inj hf).symm hv2_3 (lv_sub hl [3, 4, 0] rfl) w_M_2
      · replace hf := ite_f cd_3 hf
        refine lv_aload_n hx hb dX2_stepsBySwap_66 rfl (lv_at hl 2 rfl) ?_
        refine g_getr X w_M_2 fg_X2_15 KD_48 FR_48_3 dX2_stepsBySwap_67 ?_
        refine lv_iload_n hx hb dX2_stepsBySwap_70 rfl (lv_at hl 3 rfl) ?_
        refine lv_iload hx hb dX2_stepsBySwap_71 (lv_at hl 0 rfl) ?_
        obtain ⟨hg_3, hf⟩ := gd_some hf
        obtain ⟨M_3, eM_3, hf⟩ := lt_some hf
        refine g_iast X w_M_2 KD_50 hv1 hg_3 hv4 dX2_stepsBySwap_73 (fun H locs w_M_3 => ?_)
        rw [← eM_3] at w_M_3
        refine lv_aload_n hx hb dX2_stepsBySwap_74 rfl (lv_at hl 2 rfl) ?_
        refine g_getr X w_M_3 fg_X2_15 KD_48 FR_48_3 dX2_stepsBySwap_75 ?_
        refine lv_iload_n hx hb dX2_stepsBySwap_78 rfl (lv_at hl 4 rfl) ?_
        refine lv_iload_n hx hb dX2_stepsBySwap_79 rfl (lv_at hl 1 rfl) ?_
        obtain ⟨hg_4, hf⟩ := gd_some hf
        obtain ⟨M_4, eM_4, hf⟩ := lt_some hf
        refine g_iast X w_M_3 KD_50 hv2 hg_4 hv3 dX2_stepsBySwap_80 (fun H locs w_M_4 => ?_)
        rw [← eM_4] at w_M_4
        refine g_iconst X dX2_stepsBySwap_81 ?_
        exact HR 1 M_4 _ _ _ _ (Option.some.inj hf).symm (Or.inr rfl) w_M_4 dX2_stepsBySwap_82
set_option maxRecDepth 100000 in
set_option maxHeartbeats 4000000 in
theorem l_X2_stepsBySwap_17 (X : CX p s m args c cX2_stepsBySwap 5 RX2 D aC ad sg A H0) (v1 : Int) (hv1 : inR v1) {out : (Int × Mem) ⊕ (Int × Mem)} (HE : ∀ (y2 : Int) (M1 : Mem) (H : Heap) (locs : List Loc) (ls : Array Slot), out = .inl (y2, M1) → inR y2 → lv_has ls 5 [(0, .ref (ad 48)), (1, .int (i2 v1)), (2, .int (i2 y2))] → WS D aC ad A H0 M1 H locs → W p l e rm_X2_stepsBySwap s m args below meth c H locs 0 0 Q (F0 m 89 ls [])) (HR : ∀ (r : Int) (M1 : Mem) (H : Heap) (locs : List Loc) (pc : Nat) (ls : Array Slot), out = .inr (r, M1) → isZ r → WS D aC ad A H0 M1 H locs → decode cX2_stepsBySwap pc = .ok (.ireturn, 1) → W p l e rm_X2_stepsBySwap s m args below meth c H locs 0 0 Q (F0 m pc ls [.int (i2 r)])) : ∀ (n : Nat) (v2 : Int) (M : Mem), whl (fun s => f_X2_stepsBySwap_s17 v1 s.1 s.2) n (v2, M) = some out → inR v2 → ∀ {H : Heap} {locs : List Loc} {ls : Array Slot}, lv_has ls 5 [(0, .ref (ad 48)), (1, .int (i2 v1)), (2, .int (i2 v2))] → WS D aC ad A H0 M H locs → W p l e rm_X2_stepsBySwap s m args below meth c H locs 0 0 Q (F0 m 17 ls []) := by
  intro n
  induction n with
  | zero => intro v2 M hf; exact (whl_zero hf).elim
  | succ n ih =>
    intro v2 M hf hv2 H locs ls hl w
    obtain ⟨o, hf, hk1, hk2⟩ := whl_step hf
    exact b_X2_stepsBySwap_s17 X v1 hv1 (fun y2 M1 H locs ls eo hy2 hl w => ih y2 M1 (hk1 _ eo) hy2 hl w) (fun y2 M1 H locs ls eo hy2 hl w => HE y2 M1 H locs ls (hk2 _ eo).symm hy2 hl w) (fun r M1 H locs pc ls eo hP w dg => HR r M1 H locs pc ls (hk2 _ eo).symm hP w dg) v2 hv2 M hf hl w
set_option maxRecDepth 100000 in
set_option maxHeartbeats 4000000 in
theorem b_X2_stepsBySwap_j89k2 (X : CX p s m args c cX2_stepsBySwap 5 RX2 D aC ad sg A H0) {o : (Int × Mem) ⊕ ((Int × Mem) ⊕ (Int × Mem))} (HC : ∀ (y1 : Int) (M1 : Mem) (H : Heap) (locs : List Loc) (ls : Array Slot), o = .inl (y1, M1) → inR y1 → lv_has ls 5 [(0, .ref (ad 48)), (1, .int (i2 y1))] → WS D aC ad A H0 M1 H locs → W p l e rm_X2_stepsBySwap s m args below meth c H locs 0 0 Q (F0 m 2 ls [])) (HE : ∀ (y1 : Int) (M1 : Mem) (H : Heap) (locs : List Loc) (ls : Array Slot), o = .inr (.inl (y1, M1)) → inR y1 → lv_has ls 5 [(0, .ref (ad 48)), (1, .int (i2 y1))] → WS D aC ad A H0 M1 H locs → W p l e rm_X2_stepsBySwap s m args below meth c H locs 0 0 Q (F0 m 95 ls [])) (HR : ∀ (r : Int) (M1 : Mem) (H : Heap) (locs : List Loc) (pc : Nat) (ls : Array Slot), o = .inr (.inr (r, M1)) → isZ r → WS D aC ad A H0 M1 H locs → decode cX2_stepsBySwap pc = .ok (.ireturn, 1) → W p l e rm_X2_stepsBySwap s m args below meth c H locs 0 0 Q (F0 m pc ls [.int (i2 r)])) (v1 : Int) (hv1 : inR v1) (M : Mem) (hf : f_X2_stepsBySwap_j89k2 v1 M = some o) {H : Heap} {locs : List Loc} {ls : Array Slot} (hl : lv_has ls 5 [(0, .ref (ad 48)), (1, .int (i2 v1))]) (w : WS D aC ad A H0 M H locs) : W p l e rm_X2_stepsBySwap s m args below meth c H locs 0 0 Q (F0 m 89 ls []) := by
  have hx := X.1.1
  have hb := X.1.2.1
  unfold f_X2_stepsBySwap_j89k2 at hf
  obtain ⟨v1_2, ev1_2, hf⟩ := lt_some hf
  have hv1_2 : inR v1_2 := inR_of ev1_2 (inR_wrap _)
  refine lv_iinc (v := i2 v1_2) (lv' := [(1, .int (i2 v1_2)), (0, .ref (ad 48))]) hx hb dX2_stepsBySwap_89 hl (k := 1) rfl (by rw [ev1_2]; exact i2_add _ _) (by decide) rfl (fun ls hl => ?_)
  refine lv_goto (tgt := 2) hx hb dX2_stepsBySwap_92 (by decide) ?_
  exact HC v1_2 M _ _ _ (Option.some.inj hf).symm hv1_2 (lv_sub hl [1, 0] rfl) w
set_option maxRecDepth 100000 in
set_option maxHeartbeats 4000000 in
theorem b_X2_stepsBySwap_s2 (X : CX p s m args c cX2_stepsBySwap 5 RX2 D aC ad sg A H0) {o : (Int × Mem) ⊕ ((Int × Mem) ⊕ (Int × Mem))} (HC : ∀ (y1 : Int) (M1 : Mem) (H : Heap) (locs : List Loc) (ls : Array Slot), o = .inl (y1, M1) → inR y1 → lv_has ls 5 [(0, .ref (ad 48)), (1, .int (i2 y1))] → WS D aC ad A H0 M1 H locs → W p l e rm_X2_stepsBySwap s m args below meth c H locs 0 0 Q (F0 m 2 ls [])) (HE : ∀ (y1 : Int) (M1 : Mem) (H : Heap) (locs : List Loc) (ls : Array Slot), o = .inr (.inl (y1, M1)) → inR y1 → lv_has ls 5 [(0, .ref (ad 48)), (1, .int (i2 y1))] → WS D aC ad A H0 M1 H locs → W p l e rm_X2_stepsBySwap s m args below meth c H locs 0 0 Q (F0 m 95 ls [])) (HR : ∀ (r : Int) (M1 : Mem) (H : Heap) (locs : List Loc) (pc : Nat) (ls : Array Slot), o = .inr (.inr (r, M1)) → isZ r → WS D aC ad A H0 M1 H locs → decode cX2_stepsBySwap pc = .ok (.ireturn, 1) → W p l e rm_X2_stepsBySwap s m args below meth c H locs 0 0 Q (F0 m pc ls [.int (i2 r)])) (v1 : Int) (hv1 : inR v1) (M : Mem) (hf : f_X2_stepsBySwap_s2 v1 M = some o) {H : Heap} {locs : List Loc} {ls : Array Slot} (hl : lv_has ls 5 [(0, .ref (ad 48)), (1, .int (i2 v1))]) (w : WS D aC ad A H0 M H locs) : W p l e rm_X2_stepsBySwap s m args below meth c H locs 0 0 Q (F0 m 2 ls []) := by
  have hx := X.1.1
  have hb := X.1.2.1
  unfold f_X2_stepsBySwap_s2 at hf
  refine lv_iload_n hx hb dX2_stepsBySwap_2 rfl (lv_at hl 1 rfl) ?_
  refine lv_aload_n hx hb dX2_stepsBySwap_3 rfl (lv_at hl 0 rfl) ?_
  refine g_getr X w fg_X2_18 KD_48 FR_48_0 dX2_stepsBySwap_4 ?_
  refine g_geti X w fg_X2_32 KD_3 FR_3_0 dX2_stepsBySwap_7 ?_
  refine g_icmp_ge (tgt := 95) X hv1 (w.2.2 _ _) dX2_stepsBySwap_10 (by decide) (fun cd => ?_) (fun cd => ?_)
  · replace hf := ite_t cd hf
    exact HE v1 M _ _ _ (Option.some.inj hf).symm hv1 hl w
  · replace hf := ite_f cd hf
    refine lv_iload_n hx hb dX2_stepsBySwap_13 rfl (lv_at hl 1 rfl) ?_
    refine g_iconst X dX2_stepsBySwap_14 ?_
    refine g_iadd X dX2_stepsBySwap_15 ?_
    obtain ⟨v2, ev2, hf⟩ := lt_some hf
    have hv2 : inR v2 := inR_of ev2 (inR_wrap _)
    refine g_istn (v := v2) (lv' := [(2, .int (i2 v2)), (0, .ref (ad 48)), (1, .int (i2 v1))]) X ev2 dX2_stepsBySwap_16 rfl hl (by decide) rfl (fun ls hl => ?_)
    obtain ⟨q, hq, h1, h2⟩ := lpr_some hf
    exact l_X2_stepsBySwap_17 X v1 hv1 (out := q) (fun y2 M1 H locs ls eq hy2 hl w => b_X2_stepsBySwap_j89k2 X  HC HE HR v1 hv1 M1 (h1 _ eq) (lv_sub hl [0, 1] rfl) w) (fun r M1 H locs pc ls eq hP w dg => HR r M1 H locs pc ls (Option.some.inj (h2 _ eq)).symm hP w dg) FU v2 M hq hv2 (lv_sub hl [1, 2, 0] rfl) w
set_option maxRecDepth 100000 in
set_option maxHeartbeats 4000000 in
theorem l_X2_stepsBySwap_2 (X : CX p s m args c cX2_stepsBySwap 5 RX2 D aC ad sg A H0) {out : (Int × Mem) ⊕ (Int × Mem)} (HE : ∀ (y1 : Int) (M1 : Mem) (H : Heap) (locs : List Loc) (ls : Array Slot), out = .inl (y1, M1) → inR y1 → lv_has ls 5 [(0, .ref (ad 48)), (1, .int (i2 y1))] → WS D aC ad A H0 M1 H locs → W p l e rm_X2_stepsBySwap s m args below meth c H locs 0 0 Q (F0 m 95 ls [])) (HR : ∀ (r : Int) (M1 : Mem) (H : Heap) (locs : List Loc) (pc : Nat) (ls : Array Slot), out = .inr (r, M1) → isZ r → WS D aC ad A H0 M1 H locs → decode cX2_stepsBySwap pc = .ok (.ireturn, 1) → W p l e rm_X2_stepsBySwap s m args below meth c H locs 0 0 Q (F0 m pc ls [.int (i2 r)])) : ∀ (n : Nat) (v1 : Int) (M : Mem), whl (fun s => f_X2_stepsBySwap_s2 s.1 s.2) n (v1, M) = some out → inR v1 → ∀ {H : Heap} {locs : List Loc} {ls : Array Slot}, lv_has ls 5 [(0, .ref (ad 48)), (1, .int (i2 v1))] → WS D aC ad A H0 M H locs → W p l e rm_X2_stepsBySwap s m args below meth c H locs 0 0 Q (F0 m 2 ls []) := by
  intro n
  induction n with
  | zero => intro v1 M hf; exact (whl_zero hf).elim
  | succ n ih =>
    intro v1 M hf hv1 H locs ls hl w
    obtain ⟨o, hf, hk1, hk2⟩ := whl_step hf
    exact b_X2_stepsBySwap_s2 X  (fun y1 M1 H locs ls eo hy1 hl w => ih y1 M1 (hk1 _ eo) hy1 hl w) (fun y1 M1 H locs ls eo hy1 hl w => HE y1 M1 H locs ls (hk2 _ eo).symm hy1 hl w) (fun r M1 H locs pc ls eo hP w dg => HR r M1 H locs pc ls (hk2 _ eo).symm hP w dg) v1 hv1 M hf hl w
set_option maxRecDepth 100000 in
set_option maxHeartbeats 4000000 in
theorem b_X2_stepsBySwap_j95 (X : CX p s m args c cX2_stepsBySwap 5 RX2 D aC ad sg A H0) {o : Int × Mem} (HR : ∀ (r : Int) (M1 : Mem) (H : Heap) (locs : List Loc) (pc : Nat) (ls : Array Slot), o = (r, M1) → isZ r → WS D aC ad A H0 M1 H locs → decode cX2_stepsBySwap pc = .ok (.ireturn, 1) → W p l e rm_X2_stepsBySwap s m args below meth c H locs 0 0 Q (F0 m pc ls [.int (i2 r)])) (M : Mem) (hf : f_X2_stepsBySwap_j95 M = some o) {H : Heap} {locs : List Loc} {ls : Array Slot} (hl : lv_has ls 5 []) (w : WS D aC ad A H0 M H locs) : W p l e rm_X2_stepsBySwap s m args below meth c H locs 0 0 Q (F0 m 95 ls []) := by
  have hx := X.1.1
  have hb := X.1.2.1
  unfold f_X2_stepsBySwap_j95 at hf
  refine g_iconst X dX2_stepsBySwap_95 ?_
  exact HR 0 M _ _ _ _ (Option.some.inj hf).symm (Or.inl rfl) w dX2_stepsBySwap_96
set_option maxRecDepth 100000 in
set_option maxHeartbeats 4000000 in
theorem b_X2_stepsBySwap_0 (X : CX p s m args c cX2_stepsBySwap 5 RX2 D aC ad sg A H0) {o : Int × Mem} (HR : ∀ (r : Int) (M1 : Mem) (H : Heap) (locs : List Loc) (pc : Nat) (ls : Array Slot), o = (r, M1) → isZ r → WS D aC ad A H0 M1 H locs → decode cX2_stepsBySwap pc = .ok (.ireturn, 1) → W p l e rm_X2_stepsBySwap s m args below meth c H locs 0 0 Q (F0 m pc ls [.int (i2 r)])) (M : Mem) (hf : f_X2_stepsBySwap M = some o) {H : Heap} {locs : List Loc} {ls : Array Slot} (hl : lv_has ls 5 [(0, .ref (ad 48))]) (w : WS D aC ad A H0 M H locs) : W p l e rm_X2_stepsBySwap s m args below meth c H locs 0 0 Q (F0 m 0 ls []) := by
  have hx := X.1.1
  have hb := X.1.2.1
  unfold f_X2_stepsBySwap at hf
  refine g_iconst X dX2_stepsBySwap_0 ?_
  refine g_istn (v := 0) (lv' := [(1, .int (i2 0)), (0, .ref (ad 48))]) X rfl dX2_stepsBySwap_1 rfl hl (by decide) rfl (fun ls hl => ?_)
  obtain ⟨q, hq, h1, h2⟩ := lpr_some hf
  exact l_X2_stepsBySwap_2 X  (out := q) (fun y1 M1 H locs ls eq hy1 hl w => b_X2_stepsBySwap_j95 X  HR M1 (h1 _ eq) (lv_sub hl [] rfl) w) (fun r M1 H locs pc ls eq hP w dg => HR r M1 H locs pc ls (Option.some.inj (h2 _ eq)).symm hP w dg) FU 0 M hq (inL rfl) (lv_sub hl [1, 0] rfl) w
set_option maxRecDepth 100000 in
set_option maxHeartbeats 4000000 in
theorem k_X2_stepsBySwap {l : Launch} {D : va_G} {aC : Nat → ClassId} {ad : Nat → Nat} {sg : SG} (hi : Inj ad)  {M : Mem} (hM : inM M) {r : Int} {M' : Mem} (hf : f_X2_stepsBySwap M = some (r, M')) : MetI l D aC ad sg yX2_stepsBySwap cX2_stepsBySwap 5 (some .boolean) rm_X2_stepsBySwap 0 0 [.ref (ad 48)] M r M' := by
  refine MetI.ofZ (by decide +kernel) (nle rfl) hi hM (fun p e s m args below meth c Q H0 ls X hl w hret => ?_)
  exact b_X2_stepsBySwap_0 X  (fun r1 M1 H locs pc ls eo hP w dg => by cases eo; exact hret H locs pc ls hP w dg) M hf hl w
set_option maxRecDepth 100000 in
set_option maxHeartbeats 4000000 in
theorem b_X2_improve_s0 (X : CX p s m args c cX2_improve 1 RX2 D aC ad sg A H0) {o : (Mem) ⊕ (Mem)} (HC : ∀  (M1 : Mem) (H : Heap) (locs : List Loc) (ls : Array Slot), o = .inl M1 → lv_has ls 1 [(0, .ref (ad 48))] → WS D aC ad A H0 M1 H locs → W p l e rm_X2_improve s m args below meth c H locs 0 0 Q (F0 m 0 ls [])) (HE : ∀  (M1 : Mem) (H : Heap) (locs : List Loc) (ls : Array Slot), o = .inr M1 → lv_has ls 1 [(0, .ref (ad 48))] → WS D aC ad A H0 M1 H locs → W p l e rm_X2_improve s m args below meth c H locs 0 0 Q (F0 m 36 ls [])) (M : Mem) (hf : f_X2_improve_s0 M = some o) {H : Heap} {locs : List Loc} {ls : Array Slot} (hl : lv_has ls 1 [(0, .ref (ad 48))]) (w : WS D aC ad A H0 M H locs) : W p l e rm_X2_improve s m args below meth c H locs 0 0 Q (F0 m 0 ls []) := by
  have hx := X.1.1
  have hb := X.1.2.1
  unfold f_X2_improve_s0 at hf
  refine lv_aload_n hx hb dX2_improve_0 rfl (lv_at hl 0 rfl) ?_
  refine g_geti X w fg_X2_57 KD_48 FR_48_4 dX2_improve_1 ?_
  refine g_ldc X kc_X2_67 dX2_improve_4 ?_
  refine g_icmp_ge (tgt := 36) X (w.2.2 _ _) (inL rfl) dX2_improve_6 (by decide) (fun cd => ?_) (fun cd => ?_)
  · replace hf := ite_t cd hf
    exact HE  M _ _ _ (Option.some.inj hf).symm  hl w
  · replace hf := ite_f cd hf
    refine lv_aload_n hx hb dX2_improve_9 rfl (lv_at hl 0 rfl) ?_
    obtain ⟨r, M_2, hc, hf⟩ := bnd_some hf
    refine g_cvi (As := []) (rest := []) X w (k_X2_stepsByMove X.2.2.1  w.2.2 hc) lk_X2_68 cl_2 KD_48 ⟨rfl, rfl⟩ ⟨nle rfl, nle rfl⟩ ⟨nle rfl, nle rfl⟩ hl.1 rfl (nle rfl) dX2_improve_10 (fun hr H locs w_M_2 => ?_)
    refine g_if_ne (tgt := 23) X hr dX2_improve_13 (by decide) (fun cd_2 => ?_) (fun cd_2 => ?_)
    · replace hf := ite_f cd_2 hf
      refine lv_aload_n hx hb dX2_improve_23 rfl (lv_at hl 0 rfl) ?_
      refine lv_dup hx hb dX2_improve_24 rfl ?_
      refine g_geti X w_M_2 fg_X2_57 KD_48 FR_48_4 dX2_improve_25 ?_
      refine g_iconst X dX2_improve_28 ?_
      refine g_iadd X dX2_improve_29 ?_
      obtain ⟨M_3, eM_3, hf⟩ := lt_some hf
      refine g_puti X w_M_2 fp_X2_57 KD_48 FR_48_4 (inR_wrap _) dX2_improve_30 (fun H locs w_M_3 => ?_)
      rw [← eM_3] at w_M_3
      refine lv_goto (tgt := 0) hx hb dX2_improve_33 (by decide) ?_
      exact HC  M_3 _ _ _ (Option.some.inj hf).symm  hl w_M_3
    · replace hf := ite_t cd_2 hf
      refine lv_aload_n hx hb dX2_improve_16 rfl (lv_at hl 0 rfl) ?_
      obtain ⟨r_2, M_4, hc, hf⟩ := bnd_some hf
      refine g_cvi (As := []) (rest := []) X w_M_2 (k_X2_stepsBySwap X.2.2.1  w_M_2.2.2 hc) lk_X2_72 cl_2 KD_48 ⟨rfl, rfl⟩ ⟨nle rfl, nle rfl⟩ ⟨nle rfl, nle rfl⟩ hl.1 rfl (nle rfl) dX2_improve_17 (fun hr_2 H locs w_M_4 => ?_)
      refine g_if_eq (tgt := 36) X hr_2 dX2_improve_20 (by decide) (fun cd_3 => ?_) (fun cd_3 => ?_)
      · replace hf := ite_t cd_3 hf
        exact HE  M_4 _ _ _ (Option.some.inj hf).symm  hl w_M_4
      · replace hf := ite_f cd_3 hf
        refine lv_aload_n hx hb dX2_improve_23 rfl (lv_at hl 0 rfl) ?_
        refine lv_dup hx hb dX2_improve_24 rfl ?_
        refine g_geti X w_M_4 fg_X2_57 KD_48 FR_48_4 dX2_improve_25 ?_
        refine g_iconst X dX2_improve_28 ?_
        refine g_iadd X dX2_improve_29 ?_
        obtain ⟨M_5, eM_5, hf⟩ := lt_some hf
        refine g_puti X w_M_4 fp_X2_57 KD_48 FR_48_4 (inR_wrap _) dX2_improve_30 (fun H locs w_M_5 => ?_)
        rw [← eM_5] at w_M_5
        refine lv_goto (tgt := 0) hx hb dX2_improve_33 (by decide) ?_
        exact HC  M_5 _ _ _ (Option.some.inj hf).symm  hl w_M_5
set_option maxRecDepth 100000 in
set_option maxHeartbeats 4000000 in
theorem l_X2_improve_0 (X : CX p s m args c cX2_improve 1 RX2 D aC ad sg A H0) {out : Mem} (HE : ∀  (M1 : Mem) (H : Heap) (locs : List Loc) (ls : Array Slot), out = M1 → lv_has ls 1 [(0, .ref (ad 48))] → WS D aC ad A H0 M1 H locs → W p l e rm_X2_improve s m args below meth c H locs 0 0 Q (F0 m 36 ls [])) : ∀ (n : Nat)  (M : Mem), whl (fun s => f_X2_improve_s0 s) n M = some out → ∀ {H : Heap} {locs : List Loc} {ls : Array Slot}, lv_has ls 1 [(0, .ref (ad 48))] → WS D aC ad A H0 M H locs → W p l e rm_X2_improve s m args below meth c H locs 0 0 Q (F0 m 0 ls []) := by
  intro n
  induction n with
  | zero => intro M hf; exact (whl_zero hf).elim
  | succ n ih =>
    intro M hf  H locs ls hl w
    obtain ⟨o, hf, hk1, hk2⟩ := whl_step hf
    exact b_X2_improve_s0 X  (fun  M1 H locs ls eo  hl w => ih  M1 (hk1 _ eo)  hl w) (fun  M1 H locs ls eo  hl w => HE  M1 H locs ls (hk2 _ eo).symm  hl w)  M hf hl w
set_option maxRecDepth 100000 in
set_option maxHeartbeats 4000000 in
theorem b_X2_improve_j36 (X : CX p s m args c cX2_improve 1 RX2 D aC ad sg A H0) {o : Mem} (HR : ∀ (M1 : Mem) (H : Heap) (locs : List Loc) (pc : Nat) (ls : Array Slot), o = M1 → WS D aC ad A H0 M1 H locs → decode cX2_improve pc = .ok (.return_, 1) → W p l e rm_X2_improve s m args below meth c H locs 0 0 Q (F0 m pc ls [])) (M : Mem) (hf : f_X2_improve_j36 M = some o) {H : Heap} {locs : List Loc} {ls : Array Slot} (hl : lv_has ls 1 []) (w : WS D aC ad A H0 M H locs) : W p l e rm_X2_improve s m args below meth c H locs 0 0 Q (F0 m 36 ls []) := by
  have hx := X.1.1
  have hb := X.1.2.1
  unfold f_X2_improve_j36 at hf
  exact HR M _ _ _ _ (Option.some.inj hf).symm w dX2_improve_36
set_option maxRecDepth 100000 in
set_option maxHeartbeats 4000000 in
theorem b_X2_improve_0 (X : CX p s m args c cX2_improve 1 RX2 D aC ad sg A H0) {o : Mem} (HR : ∀ (M1 : Mem) (H : Heap) (locs : List Loc) (pc : Nat) (ls : Array Slot), o = M1 → WS D aC ad A H0 M1 H locs → decode cX2_improve pc = .ok (.return_, 1) → W p l e rm_X2_improve s m args below meth c H locs 0 0 Q (F0 m pc ls [])) (M : Mem) (hf : f_X2_improve M = some o) {H : Heap} {locs : List Loc} {ls : Array Slot} (hl : lv_has ls 1 [(0, .ref (ad 48))]) (w : WS D aC ad A H0 M H locs) : W p l e rm_X2_improve s m args below meth c H locs 0 0 Q (F0 m 0 ls []) := by
  have hx := X.1.1
  have hb := X.1.2.1
  unfold f_X2_improve at hf
  obtain ⟨q, hq, h1⟩ := obn_some hf
  exact l_X2_improve_0 X  (out := q) (fun  M1 H locs ls eq  hl w => b_X2_improve_j36 X  HR M1 (by subst eq; exact h1) (lv_sub hl [] rfl) w)  FU M hq  hl w
set_option maxRecDepth 100000 in
set_option maxHeartbeats 4000000 in
theorem k_X2_improve {l : Launch} {D : va_G} {aC : Nat → ClassId} {ad : Nat → Nat} {sg : SG} (hi : Inj ad)  {M : Mem} (hM : inM M) {M' : Mem} (hf : f_X2_improve M = some M') : MetV l D aC ad sg yX2_improve cX2_improve 1 rm_X2_improve 0 0 [.ref (ad 48)] M M' := by
  refine MetV.of (by decide +kernel) (nle rfl) hi hM (fun p e s m args below meth c Q H0 ls X hl w hret => ?_)
  exact b_X2_improve_0 X  (fun M1 H locs pc ls eo w dg => by cases eo; exact hret H locs pc ls w dg) M hf hl w
end
